/-! 25: the reference works an order -/
def MJs (all : Nat) (J : Nat → Nat → Nat) (w : AW) : Prop := ∀ j, j < all → ∀ i, i < 5 → w.1 1 (5 * j + i) = nI (J i j)
def MLs (L lost nig : Nat → Nat) (day col left : Nat) (w : AW) : Prop := (∀ i, i < 4 → w.1 2 i = nI (L i)) ∧ (∀ i, i ≤ 60 → w.1 5 i = nI (lost i)) ∧ (∀ i, i ≤ 60 → w.1 6 i = nI (nig i)) ∧ w.1 0 5 = nI day ∧ w.1 0 6 = nI col ∧ w.1 0 7 = nI left
/-- numbers as told -/
def bL (L lost nig : Nat → Nat) (day col left : Nat) : Prop := 1 ≤ L 0 ∧ L 0 ≤ 4 ∧ L 1 ≤ 3 ∧ L 2 ≤ 99 ∧ L 3 ≤ 4 ∧ (∀ i, i ≤ 60 → lost i ≤ 9) ∧ (∀ i, i ≤ 60 → nig i ≤ 9) ∧ day ≤ 60 ∧ col ≤ 1 ∧ left ≤ 3
def bJ (all : Nat) (J : Nat → Nat → Nat) : Prop := ∀ j, j < all → J 0 j ≤ 5 ∧ 1 ≤ J 1 j ∧ J 1 j ≤ 9 ∧ J 2 j ≤ 1 ∧ J 3 j ≤ 80 ∧ J 4 j ≤ 99
theorem its_ev {all : Nat} {J : Nat → Nat → Nat} {w : AW} (h : MJs all J w) {j i : Nat} (hj : j < all) (ha : all ≤ 8) (hi : i < 5) : fX12_its (nI j) (nI i) w = some (nI (J i j)) := by
  have := h j hj i hi
  simp (disch := omega) only [fX12_its, n0, n1, n2, n3, n4, n5, n6, n7, n8, n9, n10, n13, n16, n18, n20, n30, n32, n40, n48, n57, n59, n60, n64, n97, n99, n122, n126, n186, n200, n1000000, nadd, nmul, nlt, nle, neq, ntn, gd_n, this]
theorem slotsOf_ev {w : AW} {L lost nig : Nat → Nat} {day col left d : Nat} (h : MLs L lost nig day col left w) (b : bL L lost nig day col left) (hd : d ≤ 2000000000) : fX12_slotsOf (nI d) w = some (nI (sOf L lost nig d)) := by
  obtain ⟨hL, hl, hn, -⟩ := h
  obtain ⟨b0, b1, -, -, -, b2, b3, -⟩ := b
  unfold fX12_slotsOf sOf
  have h0 := hL 0 (by omega)
  by_cases h : d ≤ 60
  · have h1 := hl d h
    have h2 := hn d h
    have h3 := b2 d h
    have h4 := b3 d h
    simp (disch := omega) only [n0, n1, n2, n3, n4, n5, n6, n7, n8, n9, n10, n13, n16, n18, n20, n30, n32, n40, n48, n57, n59, n60, n64, n97, n99, n122, n126, n186, n200, n1000000, nadd, nmul, nlt, nle, neq, ntn, gd_n, lw_eq, bd_some', bd2_some', gd_true, h, if_true, h0, h1, h2]
    by_cases hc : lost d < L 0
    · rw [nsub (by omega)]
      simp (disch := omega) only [n0, n1, n2, n3, n4, n5, n6, n7, n8, n9, n10, n13, n16, n18, n20, n30, n32, n40, n48, n57, n59, n60, n64, n97, n99, n122, n126, n186, n200, n1000000, nadd, nmul, nlt, nle, neq, ntn, gd_n, if_neg (show ¬ L 0 ≤ lost d by omega)]
    · simp (disch := omega) only [n0, n1, n2, n3, n4, n5, n6, n7, n8, n9, n10, n13, n16, n18, n20, n30, n32, n40, n48, n57, n59, n60, n64, n97, n99, n122, n126, n186, n200, n1000000, nadd, nmul, nlt, nle, neq, ntn, gd_n, if_pos (show L 0 ≤ lost d by omega), show L 0 - lost d = 0 by omega]
  · simp (disch := omega) only [n0, n1, n2, n3, n4, n5, n6, n7, n8, n9, n10, n13, n16, n18, n20, n30, n32, n40, n48, n57, n59, n60, n64, n97, n99, n122, n126, n186, n200, n1000000, nadd, nmul, nlt, nle, neq, ntn, gd_n, lw_eq, bd_some', bd2_some', gd_true, h, if_false, h0]
theorem sOf_le {L lost nig : Nat → Nat} {day col left d : Nat} (b : bL L lost nig day col left) : sOf L lost nig d ≤ 13 := by
  obtain ⟨b0, b1, -, -, -, b2, b3, -⟩ := b
  unfold sOf
  split
  · next h => have := b2 d h; have := b3 d h; omega
  · omega
theorem sLg_le {L lost nig : Nat → Nat} {day col left d d0 lg : Nat} (b : bL L lost nig day col left) : sLg (sOf L lost nig) d0 lg d ≤ 14 := by
  have := sOf_le (d := d) b
  unfold sLg; split <;> omega
/-- the day stands at slot u, with so many left -/
def atS (S : Nat → Nat) (d0 u d left : Nat) : Prop := d0 ≤ d ∧ cmS S d0 (d - d0) ≤ u ∧ u + left = cmS S d0 (d - d0 + 1)
theorem atS_0 {S : Nat → Nat} {d0 : Nat} : atS S d0 0 d0 (S d0) := by
  refine ⟨Nat.le_refl _, ?_, ?_⟩ <;> simp [cmS]
theorem atS_next {S : Nat → Nat} {d0 u d : Nat} (h : atS S d0 u d 0) : atS S d0 u (d + 1) (S (d + 1)) := by
  obtain ⟨h1, h2, h3⟩ := h
  refine ⟨by omega, ?_, ?_⟩
  · rw [show d + 1 - d0 = d - d0 + 1 by omega]; omega
  · rw [show d + 1 - d0 = d - d0 + 1 by omega, cmS, show d0 + (d - d0 + 1) = d + 1 by omega]; omega
theorem atS_use {S : Nat → Nat} {d0 u d left : Nat} (h : atS S d0 u d (left + 1)) : atS S d0 (u + 1) d left ∧ isD S d0 (u + 1) d := by
  obtain ⟨h1, h2, h3⟩ := h
  exact ⟨⟨h1, by omega, by omega⟩, h1, by omega, by omega⟩
theorem atS_d {S : Nat → Nat} {d0 u d left : Nat} (h : atS S d0 u d left) (h0 : d0 ≤ 60) (hS : ∀ d, 60 < d → 1 ≤ S d) (hu : u ≤ 126) : d ≤ 187 := by
  obtain ⟨h1, h2, h3⟩ := h
  have := cmS_low h0 hS (d - d0)
  omega
/-- days without slots go by -/
theorem skip_ev {L lost nig : Nat → Nat} {day col left lg N : Nat} {w : AW} {c1 c7 : Int32} (hM : MLs L lost nig day col left w) (b : bL L lost nig day col left) (hlg : lg ≤ 9) (hN : 300 < N)
    {u d lf : Nat} (hu : u ≤ 125) (h : atS (sLg (sOf L lost nig) day lg) day u d lf) :
    ∃ d' lf', wh (lbX12_worksMany_48_3 N c1 (nI lg) c7 w) N (nI d, nI lf) = some (nI d', nI (lf' + 1)) ∧ atS (sLg (sOf L lost nig) day lg) day u d' (lf' + 1) := by
  have hS := sLg_pos (d0 := day) (lg := lg) (sOf_pos (lost := lost) (nig := nig) b.1)
  have hday : day ≤ 60 := b.2.2.2.2.2.2.2.1
  have key := wh_inv (body := lbX12_worksMany_48_3 N c1 (nI lg) c7 w)
    (I := fun s => ∃ d lf, s = (nI d, nI lf) ∧ atS (sLg (sOf L lost nig) day lg) day u d lf)
    (Q := fun e => ∃ d' lf', e = (nI d', nI (lf' + 1)) ∧ atS (sLg (sOf L lost nig) day lg) day u d' (lf' + 1))
    (m := fun s => 200 - s.1.toNatClampNeg) ?_ (N := N) (s := (nI d, nI lf)) ⟨d, lf, rfl, h⟩ (by
      have := atS_d h hday hS (by omega)
      simp (disch := omega) only [ntn]; omega)
  · obtain ⟨e, h1, d', lf', rfl, h2⟩ := key
    exact ⟨d', lf', h1, h2⟩
  · rintro s ⟨d, lf, rfl, ha⟩
    have hd := atS_d ha hday hS (by omega)
    have hlf : lf ≤ 14 := by
      obtain ⟨a1, a2, a3⟩ := ha
      have := sLg_le (d := day + (d - day)) (d0 := day) (lg := lg) b
      simp only [cmS] at a3
      omega
    cases lf with
    | zero =>
      left
      have hs := slotsOf_ev hM b (d := d + 1) (by omega)
      have hsl := sOf_le (d := d + 1) b
      have h5 := hM.2.2.2.1
      refine ⟨(nI (d + 1), nI (sLg (sOf L lost nig) day lg (d + 1))), ?_, ⟨d + 1, _, rfl, atS_next ha⟩, ?_⟩
      · have hdd := ha.1
        by_cases hc : d + 1 - day < lg
        · simp (disch := omega) only [lbX12_worksMany_48_3, n0, n1, n2, n3, n4, n5, n6, n7, n8, n9, n10, n13, n16, n18, n20, n30, n32, n40, n48, n57, n59, n60, n64, n97, n99, n122, n126, n186, n200, n1000000, nadd, nmul, nlt, nle, neq, ntn, gd_n, lw_eq, bd_some', bd2_some', gd_true, if_true, hs, h5, nsub (show day ≤ d + 1 by omega), if_neg (show ¬ lg ≤ d + 1 - day by omega), sLg, hc]
        · simp (disch := omega) only [lbX12_worksMany_48_3, n0, n1, n2, n3, n4, n5, n6, n7, n8, n9, n10, n13, n16, n18, n20, n30, n32, n40, n48, n57, n59, n60, n64, n97, n99, n122, n126, n186, n200, n1000000, nadd, nmul, nlt, nle, neq, ntn, gd_n, lw_eq, bd_some', bd2_some', gd_true, if_true, hs, h5, nsub (show day ≤ d + 1 by omega), if_pos (show lg ≤ d + 1 - day by omega), sLg, hc, if_false]
      · simp (disch := omega) only [ntn]; omega
    | succ lf =>
      right
      refine ⟨(nI d, nI (lf + 1)), ?_, d, lf, rfl, ha⟩
      simp (disch := omega) only [lbX12_worksMany_48_3, n0, n1, n2, n3, n4, n5, n6, n7, n8, n9, n10, n13, n16, n18, n20, n30, n32, n40, n48, n57, n59, n60, n64, n97, n99, n122, n126, n186, n200, n1000000, nadd, nmul, nlt, nle, neq, ntn, gd_n, if_neg (show ¬ lf + 1 = 0 by omega)]
/-- the press of the reference -/
def MP (pc ps : Nat) (w : AW) : Prop := w.1 0 29 = nI pc ∧ w.1 0 30 = nI ps
def TW (o k : Nat) : Bool := (o == 13) || (o == 14) || (o == 0 && (k == 29 || k == 30))
theorem MJs.fr {all : Nat} {J : Nat → Nat → Nat} {w w' : AW} {T : Nat → Nat → Bool} (h : MJs all J w) (f : Fr T w w') (ht : ∀ k, T 1 k = false) : MJs all J w' := fun j hj i hi => by rw [f.at' _ (ht _)]; exact h j hj i hi
theorem MLs.fr {L lost nig : Nat → Nat} {day col left : Nat} {w w' : AW} {T : Nat → Nat → Bool} (h : MLs L lost nig day col left w) (f : Fr T w w') (h2 : ∀ k, T 2 k = false) (h5 : ∀ k, T 5 k = false) (h6 : ∀ k, T 6 k = false) (ha : T 0 5 = false) (hb : T 0 6 = false) (hc : T 0 7 = false) : MLs L lost nig day col left w' := by
  obtain ⟨a, b, c, d, e, g⟩ := h
  refine ⟨fun i hi => ?_, fun i hi => ?_, fun i hi => ?_, ?_, ?_, ?_⟩
  · rw [f.at' _ (h2 _)]; exact a i hi
  · rw [f.at' _ (h5 _)]; exact b i hi
  · rw [f.at' _ (h6 _)]; exact c i hi
  · rw [f.at' _ ha]; exact d
  · rw [f.at' _ hb]; exact e
  · rw [f.at' _ hc]; exact g
/-- one slot: setting goes on, or the rest is one less -/
theorem works_ev {all : Nat} {J : Nat → Nat → Nat} {L lost nig : Nat → Nat} {day col left : Nat} {w : AW} (hJ : MJs all J w) (hM : MLs L lost nig day col left w) (b : bL L lost nig day col left) (bj : bJ all J) (ha : all ≤ 8)
    {j pc ps r : Nat} (hj : j < all) (hp : MP pc ps w) (hpc : pc ≤ 1) (hps : ps ≤ 3) (hr : w.1 13 j = nI (r + 1)) (hr2 : r ≤ 17) :
    ∃ w' v ps' r', fX12_works (nI j) w = some (nI v, w') ∧ Fr (fun o k => (o == 13 && k == j) || (o == 0 && (k == 29 || k == 30))) w w' ∧ MP (J 2 j) ps' w' ∧ ps' ≤ 3 ∧ w'.1 13 j = nI r' ∧ r' ≤ 18 ∧
      ps' + r' + 1 = (if J 2 j = pc then ps else L 1) + (r + 1) ∧ ((v = 1 ∧ ps' + r' = 0) ∨ (v = 0 ∧ 1 ≤ r')) := by
  obtain ⟨p1, p2⟩ := hp
  have e1 := its_ev hJ hj ha (show 2 < 5 by omega)
  have hc := (bj j hj).2.2.2.1
  have hL1 := hM.1 1 (by omega)
  have bL1 := b.2.2.1
  by_cases h1 : J 2 j = pc
  · by_cases h2 : ps = 0
    · subst h2
      refine ⟨setI w 13 j (nI r), if r = 0 then 1 else 0, 0, r, ?_, Fr.set (by simp), ⟨?_, ?_⟩, by omega, ?_, by omega, by rw [if_pos h1]; omega, ?_⟩
      · simp (disch := omega) only [fX12_works, n0, n1, n2, n3, n4, n5, n6, n7, n8, n9, n10, n13, n16, n18, n20, n30, n32, n40, n48, n57, n59, n60, n64, n97, n99, n122, n126, n186, n200, n1000000, nadd, nmul, nlt, nle, neq, ntn, gd_n, lw_eq, bd_some', bd2_some', gd_true, e1, p1, p2, h1, if_true, Nat.le_refl, hr, nsub (show 1 ≤ r + 1 by omega), Nat.add_sub_cancel, setI1, and_self]
        split <;> rfl
      · simp [setI1, p1, h1]
      · simp [setI1, p2]
      · simp [setI1]
      · by_cases hr0 : r = 0 <;> simp [hr0]; omega
    · refine ⟨setI w 0 30 (nI (ps - 1)), 0, ps - 1, r + 1, ?_, Fr.set (by simp), ⟨?_, ?_⟩, by omega, ?_, by omega, by rw [if_pos h1]; omega, Or.inr ⟨rfl, by omega⟩⟩
      · simp (disch := omega) only [fX12_works, n0, n1, n2, n3, n4, n5, n6, n7, n8, n9, n10, n13, n16, n18, n20, n30, n32, n40, n48, n57, n59, n60, n64, n97, n99, n122, n126, n186, n200, n1000000, nadd, nmul, nlt, nle, neq, ntn, gd_n, lw_eq, bd_some', bd2_some', gd_true, e1, p1, p2, h1, if_true, if_neg (show ¬ ps ≤ 0 by omega), nsub (show 1 ≤ ps by omega)]
      · simp [setI1, p1, h1]
      · simp [setI1]
      · simp [setI1, hr]
  · by_cases h2 : L 1 = 0
    · refine ⟨setI (setI (setI w 0 29 (nI (J 2 j))) 0 30 (nI 0)) 13 j (nI r), if r = 0 then 1 else 0, 0, r, ?_, ((Fr.set (by simp)).tr (Fr.set (by simp))).tr (Fr.set (by simp)), ⟨?_, ?_⟩, by omega, ?_, by omega, by rw [if_neg h1]; omega, ?_⟩
      · simp (disch := omega) only [fX12_works, n0, n1, n2, n3, n4, n5, n6, n7, n8, n9, n10, n13, n16, n18, n20, n30, n32, n40, n48, n57, n59, n60, n64, n97, n99, n122, n126, n186, n200, n1000000, nadd, nmul, nlt, nle, neq, ntn, gd_n, lw_eq, bd_some', bd2_some', gd_true, e1, p1, p2, h1, if_false, setI1, hL1, h2, hr, nsub (show 1 ≤ r + 1 by omega), Nat.add_sub_cancel, and_self, if_true, Nat.reduceEqDiff, false_and, and_false, true_and, Nat.le_refl]
        split <;> rfl
      · simp [setI1]
      · simp [setI1]
      · simp [setI1]
      · by_cases hr0 : r = 0 <;> simp [hr0]; omega
    · refine ⟨setI (setI (setI w 0 29 (nI (J 2 j))) 0 30 (nI (L 1))) 0 30 (nI (L 1 - 1)), 0, L 1 - 1, r + 1, ?_, ((Fr.set (by simp)).tr (Fr.set (by simp))).tr (Fr.set (by simp)), ⟨?_, ?_⟩, by omega, ?_, by omega, by rw [if_neg h1]; omega, Or.inr ⟨rfl, by omega⟩⟩
      · simp (disch := omega) only [fX12_works, n0, n1, n2, n3, n4, n5, n6, n7, n8, n9, n10, n13, n16, n18, n20, n30, n32, n40, n48, n57, n59, n60, n64, n97, n99, n122, n126, n186, n200, n1000000, nadd, nmul, nlt, nle, neq, ntn, gd_n, lw_eq, bd_some', bd2_some', gd_true, e1, p1, p2, h1, if_false, setI1, hL1, if_neg (show ¬ L 1 ≤ 0 by omega), nsub (show 1 ≤ L 1 by omega), and_self, if_true, Nat.reduceEqDiff, false_and, and_false, true_and]
      · simp [setI1]
      · simp [setI1]
      · simp [setI1, hr]
/-- one job, to its end -/
theorem jobEnd_ev {all : Nat} {J : Nat → Nat → Nat} {L lost nig : Nat → Nat} {day col left lg N : Nat} {c1 : Int32} (hlg : lg ≤ 9) (hN : 300 < N) (b : bL L lost nig day col left) (bj : bJ all J) (ha : all ≤ 8)
    {j i : Nat} (hj : j < all) (hi : i < 8) {U : Nat} (hU : U ≤ 126) :
    ∀ {t u d lf pc ps r : Nat} {w : AW} {M : Nat}, MJs all J w → MLs L lost nig day col left w → w.1 12 i = nI j → MP pc ps w → pc ≤ 1 → ps ≤ 3 → w.1 13 j = nI (r + 1) → r ≤ 17 →
      (if J 2 j = pc then ps else L 1) + (r + 1) = t → u + t = U → atS (sLg (sOf L lost nig) day lg) day u d lf → t + 1 < M →
      ∃ d' lf' w', wh (lbX12_worksMany_43_2 N c1 (nI lg) (nI i)) M (nI d, nI lf, 0, w) = some (nI d', nI lf', w') ∧ atS (sLg (sOf L lost nig) day lg) day U d' lf' ∧ isD (sLg (sOf L lost nig) day lg) day U d' ∧ MP (J 2 j) 0 w' ∧ Fr (fun o k => (o == 13 && k == j) || (o == 0 && (k == 29 || k == 30))) w w' := by
  intro t
  induction t with
  | zero => intro u d lf pc ps r w M _ _ _ _ _ _ _ _ ht; omega
  | succ t ih =>
    intro u d lf pc ps r w M hJ hM ho hp hpc hps hr hr2 ht hu hat hM1
    obtain ⟨M, rfl⟩ : ∃ k, M = k + 1 := ⟨M - 1, by omega⟩
    obtain ⟨d1, lf1, s1, s2⟩ := skip_ev (c1 := c1) (c7 := nI i) hM b hlg hN (by omega) hat
    obtain ⟨w1, v, ps', r', k1, k2, k3, k4, k5, k6, k7, k8⟩ := works_ev hJ hM b bj ha hj hp hpc hps hr hr2
    obtain ⟨a1, a2⟩ := atS_use s2
    have hd1 := atS_d s2 b.2.2.2.2.2.2.2.1 (sLg_pos (d0 := day) (lg := lg) (sOf_pos (lost := lost) (nig := nig) b.1)) (by omega)
    have hstep : lbX12_worksMany_43_2 N c1 (nI lg) (nI i) (nI d, nI lf, 0, w) = some (.inl (nI d1, nI lf1, nI v, w1)) := by
      simp (disch := omega) only [lbX12_worksMany_43_2, n0, n1, n2, n3, n4, n5, n6, n7, n8, n9, n10, n13, n16, n18, n20, n30, n32, n40, n48, n57, n59, n60, n64, n97, n99, n122, n126, n186, n200, n1000000, nadd, nmul, nlt, nle, neq, ntn, gd_n, lw_eq, bd_some', bd2_some', gd_true, if_true, s1, ho, k1, nsubm (show 1 ≤ lf1 + 1 by omega), Nat.add_sub_cancel]
    rw [wh_step hstep]
    rcases k8 with ⟨rfl, k8⟩ | ⟨rfl, k8⟩
    · obtain ⟨M, rfl⟩ : ∃ k, M = k + 1 := ⟨M - 1, by omega⟩
      refine ⟨d1, lf1, w1, ?_, ?_, ?_, ?_, k2⟩
      · apply wh_out
        simp (disch := omega) only [lbX12_worksMany_43_2, n0, n1, n2, n3, n4, n5, n6, n7, n8, n9, n10, n13, n16, n18, n20, n30, n32, n40, n48, n57, n59, n60, n64, n97, n99, n122, n126, n186, n200, n1000000, nadd, nmul, nlt, nle, neq, ntn, gd_n, if_neg (show ¬ 1 = 0 by omega)]
      · rw [show U = u + 1 by omega]; exact a1
      · rw [show U = u + 1 by omega]; exact a2
      · rw [show ps' = 0 by omega] at k3; exact k3
    · obtain ⟨r'', rfl⟩ : ∃ k, r' = k + 1 := ⟨r' - 1, by omega⟩
      have hJ1 : MJs all J w1 := hJ.fr k2 (fun k => rfl)
      have hM1' : MLs L lost nig day col left w1 := hM.fr k2 (fun k => rfl) (fun k => rfl) (fun k => rfl) rfl rfl rfl
      have ho1 : w1.1 12 i = nI j := by rw [k2.at' _ rfl, ho]
      obtain ⟨d', lf', w', g1, g2, g3, g4, g5⟩ := ih (u := u + 1) (d := d1) (lf := lf1) (pc := J 2 j) (ps := ps') (r := r'') (w := w1) (M := M) hJ1 hM1' ho1 k3 ((bj j hj).2.2.2.1) k4 k5 (by omega) (by rw [if_pos rfl]; omega) (by omega) a1 (by omega)
      exact ⟨d', lf', w', g1, g2, g3, g4, k2.tr g5⟩
def Rd (J : Nat → Nat → Nat) (m j : Nat) : Nat := if m.testBit j then 2 * J 1 j else J 1 j
theorem lends_ev {all : Nat} {J : Nat → Nat → Nat} {L lost nig : Nat → Nat} {day col left N m : Nat} {w : AW} (hJ : MJs all J w) (hM : MLs L lost nig day col left w) (bj : bJ all J) (ha : all ≤ 6) (hm : m < 64) (hN : 300 < N) :
    ∃ w', fX12_lends N (nI all) (nI m) w = some w' ∧ Fr (fun o k => (o == 13) || (o == 0 && (k == 29 || k == 30))) w w' ∧ MP col left w' ∧ ∀ j, j < all → w'.1 13 j = nI (Rd J m j) := by
  have key := wh_cnt (body := lbX12_lends_2_1 N (nI all) (nI m))
    (I := fun i s => ∃ w1, s = (nI i, w1) ∧ Fr (fun o k => (o == 13)) w w1 ∧ ∀ j, j < i → w1.1 13 j = nI (Rd J m j))
    (Q := fun w1 => Fr (fun o k => (o == 13)) w w1 ∧ ∀ j, j < all → w1.1 13 j = nI (Rd J m j)) (n := all) ?_ ?_ (N := N) (i := 0) (s := (0, w)) ⟨w, rfl, Fr.rf, fun j hj => by omega⟩ (by omega) (by omega)
  · obtain ⟨w1, e1, e2, e3⟩ := key
    have g6 : w1.1 0 6 = nI col := by rw [e2.at' _ rfl]; exact hM.2.2.2.2.1
    have g7 : w1.1 0 7 = nI left := by rw [e2.at' _ rfl]; exact hM.2.2.2.2.2
    refine ⟨setI (setI w1 0 29 (nI col)) 0 30 (nI left), ?_, ((e2.wd (fun o k h => by simp at h ⊢; exact h.1)).tr (Fr.set (by simp))).tr (Fr.set (by simp)), ⟨by simp [setI1], by simp [setI1]⟩, fun j hj => by simp [setI1, e3 j hj]⟩
    simp [fX12_lends, e1, lw_eq, bd_some', bd2_some', gd_true, setI1, g6, g7]
  · rintro i s hi ⟨w1, rfl, h2, h3⟩
    have e1 := its_ev (hJ.fr h2 (fun k => rfl)) hi (by omega) (show 1 < 5 by omega)
    have := (bj i hi).2.2.1
    refine ⟨(nI (i + 1), setI w1 13 i (nI (Rd J m i))), ?_, setI w1 13 i (nI (Rd J m i)), rfl, h2.tr (Fr.set (by simp)), fun j hj => ?_⟩
    · by_cases hb : m.testBit i = true
      · have hb1 : ((nI m >>> (nI i &&& 31)) &&& 1) = 1 := by rw [bt1 hm (by omega)]; exact hb
        rw [lbX12_lends_2_1]
        simp only [hb1, if_true]
        simp (disch := omega) only [n0, n1, n2, n3, n4, n5, n6, n7, n8, n9, n10, n13, n16, n18, n20, n30, n32, n40, n48, n57, n59, n60, n64, n97, n99, n122, n126, n186, n200, n1000000, nadd, nmul, nlt, nle, neq, ntn, gd_n, lw_eq, bd_some', bd2_some', gd_true, e1, if_neg (show ¬ all ≤ i by omega), Rd, hb, if_true]
      · have hb1 : ¬ ((nI m >>> (nI i &&& 31)) &&& 1) = 1 := by rw [bt1 hm (by omega)]; exact hb
        rw [lbX12_lends_2_1]
        simp only [hb1, if_false]
        simp (disch := omega) only [n0, n1, n2, n3, n4, n5, n6, n7, n8, n9, n10, n13, n16, n18, n20, n30, n32, n40, n48, n57, n59, n60, n64, n97, n99, n122, n126, n186, n200, n1000000, nadd, nmul, nlt, nle, neq, ntn, gd_n, lw_eq, bd_some', bd2_some', gd_true, e1, if_neg (show ¬ all ≤ i by omega), Rd, hb, if_false, Bool.false_eq_true]
    · by_cases hji : j = i
      · subst hji; simp [setI1]
      · simp [setI1, hji, h3 j (by omega)]
  · rintro s ⟨w1, rfl, h2, h3⟩
    refine ⟨w1, ?_, h2, h3⟩
    simp (disch := omega) only [lbX12_lends_2_1, n0, n1, n2, n3, n4, n5, n6, n7, n8, n9, n10, n13, n16, n18, n20, n30, n32, n40, n48, n57, n59, n60, n64, n97, n99, n122, n126, n186, n200, n1000000, nadd, nmul, nlt, nle, neq, ntn, gd_n, Nat.le_refl, if_true]
