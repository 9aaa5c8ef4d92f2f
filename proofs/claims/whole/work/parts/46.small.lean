/-! 46: the small calls on the board -/
theorem CBd.with {b n n' : Nat} {J J' : Nat → Nat → Nat} {L lost nig : Nat → Nat} {day col left : Nat} {till : Int32} {p p' : List Nat} {w w' : AW} {T : Nat → Nat → Bool} (h : CBd b n J L lost nig day col left till p w) (f : Fr T w w') (h7 : ∀ k, T (b + 7) k = false) (h8 : ∀ k, T (b + 8) k = false) (h9 : ∀ k, T (b + 9) k = false) (h0 : ∀ k, 5 ≤ k → k ≤ 8 → T b k = false) (hJ : CJo (b + 1) n' J' w') (hp : rowL (w'.1 (b + 10)) p') : CBd b n' J' L lost nig day col left till p' w' := by
  obtain ⟨a1, a2, a3, a4, a5, a6, a7, a8, a9⟩ := h
  exact ⟨hJ, fun i hi => by rw [f.at' _ (h7 _)]; exact a2 i hi, fun i hi => by rw [f.at' _ (h8 _)]; exact a3 i hi, fun i hi => by rw [f.at' _ (h9 _)]; exact a4 i hi, hp, by rw [f.at' _ (h0 5 (by omega) (by omega))]; exact a6, by rw [f.at' _ (h0 6 (by omega) (by omega))]; exact a7, by rw [f.at' _ (h0 7 (by omega) (by omega))]; exact a8, by rw [f.at' _ (h0 8 (by omega) (by omega))]; exact a9⟩
/-- what a change of the board leaves -/
theorem Rel.brd {wC wM wC' wM' : AW} {T T' : Nat → Nat → Bool} (h : Rel wC wM) (f : Fr T wC wC') (f' : Fr T' wM wM') (hC : ∀ o k, pC o k = true → (o = 0 ∨ 12 ≤ o) → T o k = false) (hM : ∀ o k, pM o k = true → mB o k = false → T' o k = false) (hb : RBd wC' wM') : Rel wC' wM' := by
  obtain ⟨h1, h2, h3, h4, h5, h6, h7, h8⟩ := h
  have r : ∀ o k, 12 ≤ o → o ≤ 36 → T o k = false := fun o k a b => hC o k (by simp [pC]; omega) (by omega)
  have rm2 : ∀ o k, 18 ≤ o → o ≤ 26 → T' o k = false := fun o k a b => hM o k (by simp [pM, a, b]) (by simp [mB]; omega)
  exact ⟨hb, h2.fr f f' (fun o k a b => r o k (by omega) (by omega)) (fun k => hM 8 k rfl rfl) (hM 0 12 rfl rfl) (hM 0 14 rfl rfl), h3.fr f f' (hC 0 4 rfl (by omega)) (fun o k a b => r o k (by omega) (by omega)) (fun o k a b => r o k (by omega) (by omega)) (hM 0 50 rfl rfl) (fun k => rm2 26 k (by omega) (by omega)),
    h4.fr f f' (hC 37 1 rfl (by omega)) (fun k => hC 38 k rfl (by omega)) (hM 0 16 rfl rfl) (fun k => hM 9 k rfl rfl), h5.fr f f' (hC 59 2 rfl (by omega)) (fun k => hC 60 k rfl (by omega)) (hM 0 37 rfl rfl) (fun k => rm2 18 k (by omega) (by omega)), h6.fr f f' (fun o k a b => hC o k (by simp [pC, a, b]) (by omega)) (fun o k a b => rm2 o k (by omega) (by omega)), h7.fr f f' (hC 74 5 rfl (by omega)) (fun k => hC 75 k rfl (by omega)) (hM 0 48 rfl rfl) (fun k => rm2 25 k (by omega) (by omega)), h8.fr f' (fun k => hM 3 k rfl rfl) (fun k => hM 4 k rfl rfl)⟩
theorem rowL_snoc {r : Nat → Int32} {p : List Nat} {x : Nat} (h : rowL r p) (hx : r p.length = nI x) : rowL r (p ++ [x]) := by
  intro i v hv
  rcases getElem?_app_lt hv with ⟨h1, h2⟩ | ⟨h1, h2⟩
  · exact h i v h2
  · have : i - p.length = 0 := by
      cases hq : i - p.length with
      | zero => rfl
      | succ y => rw [hq] at h2; simp at h2
    rw [this] at h2
    simp at h2
    subst h2
    rw [show i = p.length by omega]; exact hx
theorem st_job {wC wM : AW} (h : Rel wC wM) (a0 a1 a2 a3 a4 : Int32) : ∃ r wC' wM', fX11_job a0 a1 a2 a3 a4 wC = some (r, wC') ∧ fX12_job a0 a1 a2 a3 a4 wM = some (r, wM') ∧ Rel wC' wM' := by
  obtain ⟨n, J, L, lost, nig, day, col, left, till, p, ok, hc, hm⟩ := h.1
  have hcn : wC.1 2 0 = nI n := hc.1.1
  by_cases h1 : lkW a0 a1 a2 = 0
  · exact ⟨-1, wC, wM, by simp only [fX11_job, isJobC_ev, h1, bd_some', if_true], by simp only [fX12_job, isLike_ev, h1, bd_some', if_true], h⟩
  · by_cases h2 : pmW a3 a4 = 0
    · exact ⟨-1, wC, wM, by simp only [fX11_job, isJobC_ev, h1, h2, bd_some', if_true, if_false], by simp only [fX12_job, isLike_ev, isPromised_ev, h1, h2, bd_some', if_true, if_false], h⟩
    · by_cases h6 : n = 6
      · exact ⟨-2, wC, wM, by
          simp only [fX11_job, isJobC_ev, h1, h2, bd_some', if_false, fX1_come, hcn, Nat.reduceAdd]
          rw [if_neg (by rw [n6, nlt (by omega) (by omega)]; omega)]; rfl, by
          simp only [fX12_job, isLike_ev, isPromised_ev, h1, h2, bd_some', if_false, hm.2.2.2.1]
          rw [if_pos (by rw [h6]; rfl)], h⟩
      · obtain ⟨k, s, c, hk, hs1, hs, hcc, rfl, rfl, rfl⟩ := lkW_nat h1
        obtain ⟨by', pr, hby, hpr, rfl, rfl⟩ := pmW_nat h2
        obtain ⟨hn, bj, b, hp⟩ := ok
        obtain ⟨hpl, hpm, hnd, hall⟩ := perm_facts hp
        have f1 : Fr (fun o _ => o == 11) wC (setI wC 11 n (nI n)) := Fr.set (by simp)
        have j1 : CJo 2 n J (setI wC 11 n (nI n)) := hc.1.fr f1 (fun i hi k => by simp; omega)
        obtain ⟨w2, q1, q2, q3⟩ := add_ev (k := k) (s := s) (c := c) (b := by') (p := pr) j1 (by omega) hk hs
        obtain ⟨v2, l1, l2, l3⟩ := lay_ev (k := k) (s := s) (c := c) (b := by') (p := pr) hm.1 (by omega) hk hs
        have hv0 : v2.1 0 0 = nI n := by rw [l2.at' _ rfl]; exact hm.2.2.2.1
        have bj' := bJ_up (k := k) (s := s) (c := c) (b := by') (p := pr) bj hk hs1 hs hcc (by omega) hpr
        have hp' : (p ++ [n]).Perm (List.range (n + 1)) := by rw [List.range_succ]; exact hp.append_right [n]
        have fC : Fr (fun o _ => o == 11 || (decide (2 ≤ o) && decide (o ≤ 2 + 5))) wC w2 := (f1.wd (fun o k q => by simp at q ⊢; omega)).tr (q2.wd (fun o k q => by simp at q ⊢; omega))
        have fM : Fr (fun o i => (o == 1) || (o == 7) || (o == 0 && i == 0)) wM (setI (setI v2 7 n (nI n)) 0 0 (nI (n + 1))) := (l2.wd (fun o k q => by simp at q ⊢; omega)).tr ((Fr.set (by simp)).tr (Fr.set (by simp)))
        refine ⟨nI n, w2, setI (setI v2 7 n (nI n)) 0 0 (nI (n + 1)), ?_, ?_, h.brd fC fM (fun o k q q1 => ?_) (fun o k q q1 => ?_) ⟨n + 1, upJ J n (jR k s c by' pr), L, lost, nig, day, col, left, till, p ++ [n], ⟨by omega, bj', b, hp'⟩, hc.with fC (fun k => rfl) (fun k => rfl) (fun k => rfl) (fun k _ _ => rfl) q3 ?_, ?_, ?_, ?_, ?_, ?_⟩⟩
        · have hcn2 : w2.1 2 0 = nI (n + 1) := q3.1
          simp only [fX11_job, isJobC_ev, h1, h2, bd_some', if_false, fX1_come, hcn, Nat.reduceAdd, ntn (show n ≤ 2147483647 by omega), lw_eq, q1, hcn2, n1, nsub (show 1 ≤ n + 1 by omega), Nat.add_sub_cancel]
          rw [if_pos (by rw [n6, nlt (by omega) (by omega)]; omega), gd_n (by omega) (by omega)]; rfl
        · simp only [fX12_job, isLike_ev, isPromised_ev, h1, h2, bd_some', if_false, hm.2.2.2.1, l1, hv0, ntn (show n ≤ 2147483647 by omega), lw_eq]
          rw [if_neg (by rw [n6, neq (by omega) (by omega)]; exact h6), gd_n (by omega) (by omega)]
          have e0 : (setI v2 7 n (nI n)).1 0 0 = nI n := by simp [setI1, hv0]
          rw [e0, show nI n + 1 = nI (n + 1) by rw [n1, nadd]]
          have e1 : (setI (setI v2 7 n (nI n)) 0 0 (nI (n + 1))).1 0 0 = nI (n + 1) := by simp [setI1]
          rw [e1, n1, nsub (by omega)]; rfl
        · simp only [pC, Bool.or_eq_true, Bool.and_eq_true, beq_iff_eq, decide_eq_true_eq] at q
          simp; omega
        · simp only [mB, Bool.or_eq_false_iff, Bool.and_eq_false_iff, beq_eq_false_iff_ne] at q1
          simp; omega
        · refine rowL_snoc (fun i v hv => ?_) ?_
          · have hi : i < n := by rw [List.getElem?_eq_some_iff] at hv; have := hv.1; omega
            rw [q2.at' _ (by simp)]
            simp only [setI1, Nat.reduceAdd, true_and, show ¬ i = n by omega, if_false]
            exact hc.2.2.2.2.1 i v hv
          · rw [hpl, q2.at' _ (by simp)]; simp [setI1]
        · exact l3.fr (Fr.tr (T := fun o i => (o == 7) || (o == 0 && i == 0)) (Fr.set (by simp)) (Fr.set (by simp))) (fun k => rfl)
        · exact hm.2.1.fr fM (fun k => rfl) (fun k => rfl) (fun k => rfl) rfl rfl rfl
        · refine rowL_snoc (fun i v hv => ?_) ?_
          · have hi : i < n := by rw [List.getElem?_eq_some_iff] at hv; have := hv.1; omega
            simp only [setI1, Nat.reduceEqDiff, false_and, if_false, true_and, show ¬ i = n by omega, show ¬ (7 = 0) by omega]
            rw [l2.at' _ rfl]
            exact hm.2.2.1 i v hv
          · rw [hpl]; simp [setI1]
        · simp [setI1]
        · rw [fM.at' _ rfl]; exact hm.2.2.2.2
theorem st_jobOf {wC wM : AW} (h : Rel wC wM) (a0 a1 : Int32) : ∃ r, fX11_jobOf a0 a1 wC = some r ∧ fX12_jobOf a0 a1 wM = some r := by
  obtain ⟨n, J, L, lost, nig, day, col, left, till, p, ok, hc, hm⟩ := h.1
  obtain ⟨hn, -⟩ := ok
  have e1 := has_wI (o := 2) (w := wC) a0 hc.1.1 (by omega)
  have e2 := isJob_wI (w := wM) a0 hm.2.2.2.1
  rcases wI_01 a0 0 (nI n - 1) with hr | hr
  · exact ⟨-1, by simp only [fX11_jobOf, e1, hr, bd_some', if_true], by simp only [fX12_jobOf, e2, hr, bd_some', if_true]⟩
  · obtain ⟨j, hj, rfl⟩ := wI_neg (by omega) hr
    obtain ⟨j0, j1, j2, j3, j4⟩ := hc.1.2 j hj
    have hx : ∀ i, i < 5 → fX12_its (nI j) (nI i) wM = some (nI (J i j)) := fun i hi => its_ev hm.1 hj (by omega) hi
    have hg : ∀ {β : Type} {k : Option β}, gd (inb (nI j) 6) k = k := fun {β k} => gd_n (by omega) (by omega)
    have ht : (nI j).toNatClampNeg = j := ntn (by omega)
    have h10 : ¬ (1 : Int32) = 0 := by decide
    simp only [fX11_jobOf, fX12_jobOf, e1, e2, hr, bd_some', h10, if_false, hg, ht, in_ev]
    rcases wI_01 a1 0 4 with hw | hw
    · refine ⟨-1, ?_, ?_⟩
      · have ne : ∀ i : Nat, i ≤ 4 → ¬ a1 = nI i := fun i hi q => by
          subst q
          have := wI_of (m := i) (lo := 0) (hi := 4) (by omega) hi (by omega)
          rw [show nI 0 = 0 from rfl, show nI 4 = 4 from rfl, hw] at this
          exact absurd this (by decide)
        rw [if_neg (show ¬ a1 = (0 : Int32) from ne 0 (by omega)), if_neg (show ¬ a1 = (1 : Int32) from ne 1 (by omega)), if_neg (show ¬ a1 = (2 : Int32) from ne 2 (by omega)), if_neg (show ¬ a1 = (3 : Int32) from ne 3 (by omega)), if_neg (show ¬ a1 = (4 : Int32) from ne 4 (by omega))]
      · simp only [hw, if_true]
    · obtain ⟨i, -, hi, rfl⟩ := wI_nat (lo := 0) (hi := 4) hw (by omega) (by omega)
      refine ⟨nI (J i j), ?_, ?_⟩
      · have : i = 0 ∨ i = 1 ∨ i = 2 ∨ i = 3 ∨ i = 4 := by omega
        rcases this with rfl | rfl | rfl | rfl | rfl
        · rw [if_pos (show nI 0 = (0 : Int32) from rfl)]; exact congrArg some j0
        · rw [if_neg (by decide), if_pos (show nI 1 = (1 : Int32) from rfl)]; exact congrArg some j1
        · rw [if_neg (by decide), if_neg (by decide), if_pos (show nI 2 = (2 : Int32) from rfl)]; exact congrArg some j2
        · rw [if_neg (by decide), if_neg (by decide), if_neg (by decide), if_pos (show nI 3 = (3 : Int32) from rfl)]; exact congrArg some j3
        · rw [if_neg (by decide), if_neg (by decide), if_neg (by decide), if_neg (by decide), if_pos (show nI 4 = (4 : Int32) from rfl)]; exact congrArg some j4
      · simp only [hw, h10, if_false, hx i (by omega), bd_some']
theorem st_slots {wC wM : AW} (h : Rel wC wM) (a0 : Int32) : ∃ r, fX11_slots a0 wC = some r ∧ fX12_slots a0 wM = some r := by
  obtain ⟨n, J, L, lost, nig, day, col, left, till, p, ok, hc, hm⟩ := h.1
  obtain ⟨hn, bj, b, hp⟩ := ok
  rcases wI_01 a0 0 99 with hr | hr
  · exact ⟨-1, by simp only [fX11_slots, within_ev, hr, bd_some', if_true], by simp only [fX12_slots, in_ev, hr, bd_some', if_true]⟩
  · have h10 : ¬ (1 : Int32) = 0 := by decide
    obtain ⟨d, -, hd, rfl⟩ := wI_nat (lo := 0) (hi := 99) hr (by omega) (by omega)
    have e1 : fX1_slotsOn 1 (nI d) wC = some (nI (sOf L lost nig d)) := slotsOn_ev hc.2.1 hc.2.2.1 hc.2.2.2.1 b.2.1 b.2.2.2.2.2.1 b.2.2.2.2.2.2.1 (by omega)
    have e2 := slotsOf_ev (d := d) hm.2.1 b (by omega)
    exact ⟨nI (sOf L lost nig d), by simp only [fX11_slots, within_ev, hr, bd_some', h10, if_false, e1], by simp only [fX12_slots, in_ev, hr, bd_some', h10, if_false, e2]⟩
theorem st_planOf {wC wM : AW} (h : Rel wC wM) (a0 : Int32) : ∃ r, fX11_planOf a0 wC = some r ∧ fX12_planOf a0 wM = some r := by
  obtain ⟨n, J, L, lost, nig, day, col, left, till, p, ok, hc, hm⟩ := h.1
  obtain ⟨hn, bj, b, hp⟩ := ok
  obtain ⟨hpl, hpm, hnd, hall⟩ := perm_facts hp
  have e1 := has_wI (o := 2) (w := wC) a0 hc.1.1 (by omega)
  have e2 := isJob_wI (w := wM) a0 hm.2.2.2.1
  rcases wI_01 a0 0 (nI n - 1) with hr | hr
  · exact ⟨-1, by simp only [fX11_planOf, e1, hr, bd_some', if_true], by simp only [fX12_planOf, e2, hr, bd_some', if_true]⟩
  · obtain ⟨j, hj, rfl⟩ := wI_neg (by omega) hr
    have h10 : ¬ (1 : Int32) = 0 := by decide
    have r1 : wC.1 11 j = nI (lf p j) := hc.2.2.2.2.1.get (by omega)
    have r2 : wM.1 7 j = nI (lf p j) := hm.2.2.1.get (by omega)
    refine ⟨nI (lf p j), ?_, ?_⟩
    · rw [fX11_planOf, e1, bd_some', hr, if_neg h10, gd_n (by omega) (by omega), ntn (by omega), r1]
    · rw [fX12_planOf, e2, bd_some', hr, if_neg h10, gd_n (by omega) (by omega), ntn (by omega), r2]
theorem st_press {wC wM : AW} (h : Rel wC wM) (a0 : Int32) : ∃ r, fX11_press a0 wC = some r ∧ fX12_press a0 wM = some r := by
  obtain ⟨n, J, L, lost, nig, day, col, left, till, p, ok, hc, hm⟩ := h.1
  have c5 := hc.2.2.2.2.2.1
  have c6 := hc.2.2.2.2.2.2.1
  have c7 := hc.2.2.2.2.2.2.2.1
  have m5 := hm.2.1.2.2.2.1
  have m6 := hm.2.1.2.2.2.2.1
  have m7 := hm.2.1.2.2.2.2.2
  refine ⟨if a0 = 0 then nI day else if a0 = 1 then nI col else if a0 = 2 then nI left else -1, ?_, ?_⟩
  · simp only [fX11_press, c5, c6, c7]
    repeat' split
    all_goals rfl
  · simp only [fX12_press, m5, m6, m7]
    repeat' split
    all_goals rfl
theorem st_till {wC wM : AW} (h : Rel wC wM) : ∃ r, fX11_till wC = some r ∧ fX12_till wM = some r := by
  obtain ⟨n, J, L, lost, nig, day, col, left, till, p, ok, hc, hm⟩ := h.1
  exact ⟨till, congrArg some hc.2.2.2.2.2.2.2.2, congrArg some hm.2.2.2.2⟩
theorem st_lose {wC wM : AW} (h : Rel wC wM) (a0 a1 : Int32) : ∃ r wC' wM', fX11_lose a0 a1 wC = some (r, wC') ∧ fX12_lose a0 a1 wM = some (r, wM') ∧ Rel wC' wM' := by
  obtain ⟨n, J, L, lost, nig, day, col, left, till, p, ok, hc, hm⟩ := h.1
  rcases wI_01 a0 0 60 with hr | hr
  · exact ⟨-1, wC, wM, by simp only [fX11_lose, within_ev, hr, bd_some', if_true], by simp only [fX12_lose, in_ev, hr, bd_some', if_true], h⟩
  · have h10 : ¬ (1 : Int32) = 0 := by decide
    rcases wI_01 a1 0 9 with hr2 | hr2
    · exact ⟨-1, wC, wM, by simp only [fX11_lose, within_ev, hr, hr2, bd_some', h10, if_false, if_true], by simp only [fX12_lose, in_ev, hr, hr2, bd_some', h10, if_false, if_true], h⟩
    · obtain ⟨d, -, hd, rfl⟩ := wI_nat (lo := 0) (hi := 60) hr (by omega) (by omega)
      obtain ⟨m, -, hm9, rfl⟩ := wI_nat (lo := 0) (hi := 9) hr2 (by omega) (by omega)
      obtain ⟨c1, c2, c3, c4, c5, c6, c7, c8, c9⟩ := id hc
      obtain ⟨m1, ⟨m2, m3, m4, m5, m6, m7⟩, m8, m9, m10⟩ := id hm
      obtain ⟨hn, bj, ⟨b1, b2, b3, b4, b5, b6, b7, b8⟩, hp⟩ := ok
      have fC : Fr (fun o _ => o == 9) wC (setI wC 9 d (nI m)) := Fr.set (by simp)
      have fM : Fr (fun o _ => o == 5) wM (setI wM 5 d (nI m)) := Fr.set (by simp)
      have r1 : wC.1 9 d = nI (lost d) := c3 d hd
      have r2 := m3 d hd
      refine ⟨nI (lost d), _, _, ?_, ?_, h.brd fC fM (fun o k q q1 => by simp; omega) (fun o k q q1 => ?_) ⟨n, J, L, fun i => if i = d then m else lost i, nig, day, col, left, till, p, ⟨hn, bj, ⟨b1, b2, b3, b4, b5, fun i hi => ?_, b7, b8⟩, hp⟩, ⟨c1.fr fC (fun i hi k => by simp; omega), c2, fun i hi => ?_, c4, c5, c6, c7, c8, c9⟩, ⟨m1, ⟨m2, fun i hi => ?_, m4, m5, m6, m7⟩, m8, m9, m10⟩⟩⟩
      · simp (disch := omega) only [fX11_lose, within_ev, hr, hr2, bd_some', h10, if_false, ntn, gd_n, lw_eq, r1]
      · simp (disch := omega) only [fX12_lose, in_ev, hr, hr2, bd_some', h10, if_false, ntn, gd_n, lw_eq, r2]
      · simp only [mB, Bool.or_eq_false_iff, beq_eq_false_iff_ne] at q1
        simp; omega
      · simp only []
        split
        · omega
        · exact b6 i hi
      · show (setI wC 9 d (nI m)).1 9 i = _
        by_cases hq : i = d
        · subst hq; simp [setI1]
        · simp only [setI1, hq, and_false, if_false]; exact c3 i hi
      · by_cases hq : i = d
        · subst hq; simp [setI1]
        · simp only [setI1, hq, and_false, if_false]; exact m3 i hi
theorem st_night {wC wM : AW} (h : Rel wC wM) (a0 a1 : Int32) : ∃ r wC' wM', fX11_night a0 a1 wC = some (r, wC') ∧ fX12_night a0 a1 wM = some (r, wM') ∧ Rel wC' wM' := by
  obtain ⟨n, J, L, lost, nig, day, col, left, till, p, ok, hc, hm⟩ := h.1
  rcases wI_01 a0 0 60 with hr | hr
  · exact ⟨-1, wC, wM, by simp only [fX11_night, within_ev, hr, bd_some', if_true], by simp only [fX12_night, in_ev, hr, bd_some', if_true], h⟩
  · have h10 : ¬ (1 : Int32) = 0 := by decide
    rcases wI_01 a1 0 9 with hr2 | hr2
    · exact ⟨-1, wC, wM, by simp only [fX11_night, within_ev, hr, hr2, bd_some', h10, if_false, if_true], by simp only [fX12_night, in_ev, hr, hr2, bd_some', h10, if_false, if_true], h⟩
    · obtain ⟨d, -, hd, rfl⟩ := wI_nat (lo := 0) (hi := 60) hr (by omega) (by omega)
      obtain ⟨m, -, hm9, rfl⟩ := wI_nat (lo := 0) (hi := 9) hr2 (by omega) (by omega)
      obtain ⟨c1, c2, c3, c4, c5, c6, c7, c8, c9⟩ := id hc
      obtain ⟨m1, ⟨m2, m3, m4, m5, m6, m7⟩, m8, m9, m10⟩ := id hm
      obtain ⟨hn, bj, ⟨b1, b2, b3, b4, b5, b6, b7, b8⟩, hp⟩ := ok
      have fC : Fr (fun o _ => o == 10) wC (setI wC 10 d (nI m)) := Fr.set (by simp)
      have fM : Fr (fun o _ => o == 6) wM (setI wM 6 d (nI m)) := Fr.set (by simp)
      have r1 : wC.1 10 d = nI (nig d) := c4 d hd
      have r2 := m4 d hd
      refine ⟨nI (nig d), _, _, ?_, ?_, h.brd fC fM (fun o k q q1 => by simp; omega) (fun o k q q1 => ?_) ⟨n, J, L, lost, fun i => if i = d then m else nig i, day, col, left, till, p, ⟨hn, bj, ⟨b1, b2, b3, b4, b5, b6, fun i hi => ?_, b8⟩, hp⟩, ⟨c1.fr fC (fun i hi k => by simp; omega), c2, c3, fun i hi => ?_, c5, c6, c7, c8, c9⟩, ⟨m1, ⟨m2, m3, fun i hi => ?_, m5, m6, m7⟩, m8, m9, m10⟩⟩⟩
      · simp (disch := omega) only [fX11_night, within_ev, hr, hr2, bd_some', h10, if_false, ntn, gd_n, lw_eq, r1]
      · simp (disch := omega) only [fX12_night, in_ev, hr, hr2, bd_some', h10, if_false, ntn, gd_n, lw_eq, r2]
      · simp only [mB, Bool.or_eq_false_iff, beq_eq_false_iff_ne] at q1
        simp; omega
      · simp only []
        split
        · omega
        · exact b7 i hi
      · show (setI wC 10 d (nI m)).1 10 i = _
        by_cases hq : i = d
        · subst hq; simp [setI1]
        · simp only [setI1, hq, and_false, if_false]; exact c4 i hi
      · by_cases hq : i = d
        · subst hq; simp [setI1]
        · simp only [setI1, hq, and_false, if_false]; exact m4 i hi
