/-! 67: a text, read -/
def LSt (L : Nat → Nat) (tl : Nat → Bool) (G : Nat → Nat) (wC wM : AW) : Prop := (∀ i, i < 4 → wC.1 45 i = if tl i then nI (G i) else -1) ∧ (∀ i, i < 4 → wM.1 11 i = nI (G i)) ∧ (∀ i, i < 4 → tl i = false → G i = L i) ∧ 1 ≤ G 0 ∧ G 0 ≤ 4 ∧ G 1 ≤ 3 ∧ G 2 ≤ 99 ∧ G 3 ≤ 4
def TR (o k : Nat) : Bool := TCj o k || o == 45
def TRM (o k : Nat) : Bool := TMj o k || o == 11
theorem TCj_TR {o k : Nat} (q : TR o k = false) : TCj o k = false := by simp only [TR, Bool.or_eq_false_iff] at q; exact q.1
theorem TMj_TRM {o k : Nat} (q : TRM o k = false) : TMj o k = false := by simp only [TRM, Bool.or_eq_false_iff] at q; exact q.1
theorem TCf_TR {o k : Nat} (q : TR o k = false) : TCf o k = false := TCf_TCj (TCj_TR q)
theorem TMf_TRM {o k : Nat} (q : TRM o k = false) : TMf o k = false := TMf_TMj (TMj_TRM q)
def TC45 (o _k : Nat) : Bool := o == 45
def TM11 (o _k : Nat) : Bool := o == 11
section
variable {c : Nat} {Y : Nat → Nat} {N : Nat} {s p e : Nat} {wC wM : AW} {L : Nat → Nat}
theorem LSt.fr {tl : Nat → Bool} {G : Nat → Nat} {wC' wM' : AW} {T T' : Nat → Nat → Bool} (h : LSt L tl G wC wM) (f : Fr T wC wC') (f' : Fm T' wM wM') (h1 : ∀ k, T 45 k = false) (h2 : ∀ k, T' 11 k = false) : LSt L tl G wC' wM' :=
  ⟨fun i hi => by rw [f.at' _ (h1 i)]; exact h.1 i hi, fun i hi => by rw [f'.at' _ (h2 i)]; exact h.2.1 i hi, h.2.2⟩
theorem LTk.fr {wC' wM' : AW} {T T' : Nat → Nat → Bool} (h : LTk Y c s p e wC wM) (f : Fr T wC wC') (f' : Fr T' wM wM') (h1 : ∀ o k, o = 37 ∨ o = 38 → T o k = false) (h2 : ∀ o k, o = 0 ∨ o = 9 → T' o k = false) : LTk Y c s p e wC' wM' := by
  obtain ⟨a1, a2, a3, a4, a5, a6⟩ := h
  refine ⟨a1.fr f (h1 37 1 (by omega)) (fun k => h1 38 k (by omega)), a2.fm f'.fm (h2 0 16 (by omega)) (fun k => h2 9 k (by omega)), ⟨?_, ?_, ?_⟩, ⟨?_, ?_, ?_, ?_, ?_⟩, ?_, a6⟩
  · rw [f.at' _ (h1 37 4 (by omega))]; exact a3.1
  · rw [f.at' _ (h1 37 5 (by omega))]; exact a3.2.1
  · rw [f.at' _ (h1 37 6 (by omega))]; exact a3.2.2
  · rw [f'.at' _ (h2 0 17 (by omega))]; exact a4.1
  · rw [f'.at' _ (h2 0 18 (by omega))]; exact a4.2.1
  · rw [f'.at' _ (h2 0 19 (by omega))]; exact a4.2.2.1
  · rw [f'.2]; exact a4.2.2.2.1
  · rw [f'.at' _ (h2 0 21 (by omega))]; exact a4.2.2.2.2
  · rw [f'.at' _ (h2 0 22 (by omega))]; exact a5
theorem Fl.no (h : Fl c wC wM) : wM.1 0 22 = 0 := h.choose_spec.2.2.2
/-- a job of the text -/
theorem job_item {m : Nat} {F : Nat → Nat → Nat} (h : LTk Y c s p e wC wM) (hY : ∀ i, Y i < 256) (hc : c ≤ 200) (hN : 300 < N) (hj : JSt m F wC wM) {r : Int32} (hk : fX12_kindHere wM = some r) (hkc : fX8_kindNamed N wC = some r) (hr : r = -1 ∨ (s = 1 ∧ ∃ k, k ≤ 5 ∧ r = nI k)) (hs : (0 ≤ r) ∨ s = 2) :
    Out Y c e (fun wC' wM' => ∃ F', JSt (m + 1) F' wC' wM') wC wM (fX8_readJob N wC) (fX12_wantJob N (if s = 2 then 0 else r) wM) := by
  have l3 := h.le.2.2.1
  obtain ⟨h1, h2, h3, h4, h5, e0, ht⟩ := id h
  have c0 : wC.1 39 0 = nI m := hj.2.1.1
  have m25 : wM.1 0 25 = nI m := hj.2.2.1
  have hm6 := hj.1
  have k1 := h3.1
  have q1 := h4.1
  by_cases hm : m < 6
  · have lt6 : nI m < 6 := by rw [n6, nlt (by omega) (by omega)]; exact hm
    have nle6 : ¬ 6 ≤ nI m := by rw [n6, nle (by omega) (by omega)]; omega
    by_cases h1s : s = 1
    · subst h1s
      have hr0 : 0 ≤ r := by rcases hs with q | q; exact q; omega
      obtain ⟨k, k5, rfl⟩ : ∃ k, k ≤ 5 ∧ r = nI k := by
        rcases hr with q | q
        · subst q; exact absurd hr0 (by decide)
        · exact q.2
      obtain ⟨s2, p2, e2, c2, m2, a2, b2, f2, g2, h2', l2⟩ := adv_pair h hY hc hN
      have F2 := f2.wd (T' := TCf) (fun o k q => T456_TCf q)
      have G2 := g2.wd (T' := TMf) (fun o k q => TMa_TMf q)
      have key := job_39 h2' hY hc hN (hj.fr F2 G2) hm k5
      have key2 := Out.of (F2.wd (fun o k q => TCf_TCj q)) (G2.wd (fun o k q => TMf_TMj q)) (show e ≤ e2 by have := h2'.le; omega) key
      have x1 : fX8_readJob N wC = bX8_readJob_39 N (nI k) c2 := by
        simp only [fX8_readJob, c0, lt6, if_true, k1, show nI 1 = 1 from rfl, hkc, bd_some', hr0, a2]
      have x2 : fX12_wantJob N (if 1 = 2 then 0 else nI k) wM = bX12_wantJob_37 N (nI k) m2 := by
        simp only [show ¬ ((1 : Nat) = 2) by omega, if_false, fX12_wantJob, m25, nle6, bX12_wantJob_15, show isb 1 = true from rfl, gd_true, lw_eq, good_same h, good_ne h5, q1, show nI 1 = 1 from rfl, if_true, b2, bd_some']
      rw [x1, x2]; exact key2
    · have h2s : s = 2 := by
        rcases hs with q | q
        · rcases hr with q2 | q2
          · subst q2; exact absurd q (by decide)
          · omega
        · exact q
      subst h2s
      have key := job_39 h hY hc hN hj hm (k := 0) (by omega)
      have x1 : fX8_readJob N wC = bX8_readJob_39 N (nI 0) wC := by
        simp only [fX8_readJob, c0, lt6, if_true, k1, show ¬ nI 2 = 1 by decide, if_false]; rfl
      have x2 : fX12_wantJob N (if 2 = 2 then 0 else r) wM = bX12_wantJob_37 N (nI 0) wM := by
        simp only [if_true, fX12_wantJob, m25, nle6, if_false, bX12_wantJob_15, show isb 1 = true from rfl, gd_true, lw_eq, good_same h, good_ne h5, q1, show ¬ nI 2 = 1 by decide]; rfl
      rw [x1, x2]; exact key
  · have nlt6 : ¬ nI m < 6 := by rw [n6, nlt (by omega) (by omega)]; exact hm
    have le6 : 6 ≤ nI m := by rw [n6, nle (by omega) (by omega)]; omega
    refine Out.no h ?_ ?_
    · simp only [fX8_readJob, c0, nlt6, if_false]
    · have e37 : ∀ x, bX12_wantJob_37 N x (setI wM 0 22 0) = some (setI wM 0 22 0) := fun x => by
        simp only [bX12_wantJob_37, dead_num dead_0, bd2_some', dead_0, if_true, bX12_wantJob_66, bX12_wantJob_67, dead_76 dead_0]
      simp only [fX12_wantJob, m25, le6, if_true, bX12_wantJob_15, show isb 0 = true from rfl, gd_true, lw_eq, dead_0, e37]
def RdI (Y : Nat → Nat) (c : Nat) (L : Nat → Nat) (wC0 wM0 : AW) (i : Nat) (wC wM : AW) : Prop := ∃ m F tl G s p e, LTk Y c s p e wC wM ∧ JSt m F wC wM ∧ LSt L tl G wC wM ∧ Fr TR wC0 wC ∧ Fm TRM wM0 wM ∧ i ≤ p
/-- a row of the text -/
theorem item_ev {wC0 wM0 : AW} {m : Nat} {F : Nat → Nat → Nat} {tl : Nat → Bool} {G : Nat → Nat} {i : Nat} (h : LTk Y c s p e wC wM) (hY : ∀ i, Y i < 256) (hc : c ≤ 200) (hN : 300 < N) (hj : JSt m F wC wM) (hl : LSt L tl G wC wM) (f0 : Fr TR wC0 wC) (g0 : Fm TRM wM0 wM) (h3 : ∀ i, i < 4 → wM0.1 3 i = leastS i ∧ wM0.1 4 i = mostS i) (hs : s ≠ 0) (hi : i ≤ p) :
    (∃ wC' wM', lbX8_read_39_2 N (nI i, wC) = some (.inl (nI (i + 1), wC')) ∧ lbX12_board_44_2 N wM = some (.inl wM') ∧ RdI Y c L wC0 wM0 (i + 1) wC' wM') ∨
    (∃ wC' wM', lbX8_read_39_2 N (nI i, wC) = some (.inr (.inr wC')) ∧ lbX12_board_44_2 N wM = some (.inl wM') ∧ Fl c wC' wM' ∧ Fr TR wC0 wC' ∧ Fm TRM wM0 wM') := by
  obtain ⟨l1, l2, l3, l4⟩ := h.le
  obtain ⟨r, a1, b1, d1⟩ := kind_pair h hY hc hN
  obtain ⟨v, a2, b2, d2⟩ := law_pair h hY hc hN
  obtain ⟨t1, t2, t3, t4, t5, e0, ht⟩ := id h
  have hpc : p < c := srt_lt (by rw [← ht.2.2.2.2.1]; exact hs)
  have hpe : p < e := by
    by_cases q3 : s = 3
    · have := ht.2.2.2.2.2.2.2.2.1 q3; omega
    · exact (ht.2.2.2.2.2.2.2.2.2 (by omega)).1
  have n200' : ¬ 200 ≤ nI i := by rw [n200, nle (by omega) (by omega)]; omega
  have s0 : ¬ wC.1 37 4 = 0 := by rw [t3.1, n0, neq (by omega) (by omega)]; exact hs
  have s0' : ¬ wM.1 0 17 = 0 := by rw [t4.1, n0, neq (by omega) (by omega)]; exact hs
  have gn := good_ne t5
  have h3' : ∀ i, i < 4 → wM.1 3 i = leastS i ∧ wM.1 4 i = mostS i := fun i hi => by rw [g0.at' _ rfl, g0.at' _ rfl]; exact h3 i hi
  have hi1 : nI i + 1 = nI (i + 1) := by rw [n1, nadd]
  rcases d2 with rfl | ⟨rfl, ⟨k, hk, rfl⟩, b3⟩
  · -- no law
    have hneg : (-1 : Int32) < 0 := by decide
    by_cases hjob : (0 ≤ r) ∨ s = 2
    · have key := job_item h hY hc hN hj b1 a1 d1 hjob
      have x2 : ∀ wM', fX12_wantJob N (if s = 2 then 0 else r) wM = some wM' → lbX12_board_44_2 N wM = some (.inl wM') := by
        intro wM' hw
        by_cases h2s : s = 2
        · subst h2s
          rw [if_pos rfl] at hw
          have hr : ¬ 0 ≤ r := by
            rcases d1 with q | q
            · subst q; decide
            · omega
          have s2 : wM.1 0 17 = 2 := t4.1
          simp only [lbX12_board_44_2, gn, if_false, b1, bd_some', hr, s2, show ¬ ((2 : Int32) = 0) by decide, if_true, hw]
        · rw [if_neg h2s] at hw
          have hr : 0 ≤ r := by rcases hjob with q | q; exact q; exact absurd q h2s
          have s2 : ¬ wM.1 0 17 = 2 := by rw [t4.1, n2, neq (by omega) (by omega)]; exact h2s
          simp only [lbX12_board_44_2, gn, s0', if_false, b1, bd_some', hr, s2, if_true, hw]
      rcases key with ⟨wC', wM', k1, k2, ⟨F', k3⟩, k4, k5, s', p', e', k6, k7⟩ | ⟨wC', wM', k1, k2, k3, k4, k5⟩
      · refine Or.inl ⟨wC', wM', ?_, x2 _ k2, m + 1, F', tl, G, s', p', e', k6, k3, hl.fr k4 k5 (fun k => rfl) (fun k => rfl), f0.tr (k4.wd (fun o k q => TCj_TR q)), g0.tr (k5.wd (fun o k q => TMj_TRM q)), by omega⟩
        simp only [lbX8_read_39_2, n200', s0, if_false, a2, bd_some', hneg, if_true, k1, bd2_some', on0, hi1]
      · refine Or.inr ⟨wC', wM', ?_, x2 _ k2, k3, f0.tr (k4.wd (fun o k q => TCj_TR q)), g0.tr (k5.wd (fun o k q => TMj_TRM q))⟩
        simp only [lbX8_read_39_2, n200', s0, if_false, a2, bd_some', hneg, if_true, k1, bd2_some']
    · -- neither
      have hr : ¬ 0 ≤ r := fun q => hjob (Or.inl q)
      have h2s : ¬ s = 2 := fun q => hjob (Or.inr q)
      have s2 : ¬ wM.1 0 17 = 2 := by rw [t4.1, n2, neq (by omega) (by omega)]; exact h2s
      have s2c : ¬ wC.1 37 4 = 2 := by rw [t3.1, n2, neq (by omega) (by omega)]; exact h2s
      refine Or.inr ⟨wC, setI wM 0 22 0, ?_, ?_, h.fl, f0, g0.tr (F22.wd (fun o k q => TMf_TRM q))⟩
      · have e39 : bX8_readJob_39 N 0 wC = some (0, wC) := by
          simp only [bX8_readJob_39, fX8_passNumber, s2c, if_false, bd2_some', if_true]
        have er : fX8_readJob N wC = some (0, wC) := by
          by_cases hm : wC.1 39 0 < 6
          · by_cases h1s : wC.1 37 4 = 1
            · simp only [fX8_readJob, hm, h1s, if_true, a1, bd_some', hr, if_false]
            · simp only [fX8_readJob, hm, h1s, if_true, if_false, e39]
          · simp only [fX8_readJob, hm, if_false]
        simp only [lbX8_read_39_2, n200', s0, if_false, a2, bd_some', hneg, if_true, er, bd2_some']
      · simp only [lbX12_board_44_2, gn, s0', if_false, b1, bd_some', hr, s2, b2, hneg, if_true, lw_eq]
  · have s2 : ¬ wM.1 0 17 = 2 := by rw [t4.1]; decide
    have hk0 : ¬ nI k < 0 := by rw [n0, nlt (by omega) (by omega)]; omega
    rcases law_ev hk h hY hc hN h3' with ⟨v, wC', wM', v1, v2, a4, b4, f4, g4, s', p', e', h4, l5⟩ | ⟨wC', wM', a4, b4, k3, f4, g4⟩
    · have FC : Fr TC45 wC' (setI wC' 45 k (nI v)) := Fr.set (by simp [TC45])
      have FM : Fr TM11 wM' (setI wM' 11 k (nI v)) := Fr.set (by simp [TM11])
      obtain ⟨u1, u2, u3, u4, u5, u6, u7, u8⟩ := hl.fr f4 g4 (fun k => rfl) (fun k => rfl)
      refine Or.inl ⟨setI wC' 45 k (nI v), setI wM' 11 k (nI v), ?_, ?_, m, F, fun x => if x = k then true else tl x, fun x => if x = k then v else G x, s', p', e', h4.fr FC FM (fun o k q => by simp [TC45]; omega) (fun o k q => by simp [TM11]; omega), ?_, ⟨fun x hx => ?_, fun x hx => ?_, fun x hx => ?_, ?_⟩, f0.tr ((f4.wd (fun o k q => TCf_TR q)).tr (FC.wd (fun o k q => by simp [TR, TC45] at q ⊢; omega))), g0.tr ((g4.wd (fun o k q => TMf_TRM q)).tr (FM.fm.wd (fun o k q => by simp [TRM, TM11] at q ⊢; omega))), by omega⟩
      · simp only [lbX8_read_39_2, n200', s0, if_false, a2, bd_some', hk0, a4, bd2_some', on0, hi1]
      · simp only [lbX12_board_44_2, gn, s0', if_false, b3, bd_some', show ¬ ((0 : Int32) ≤ -1) by decide, s2, b2, hk0, b4]
      · obtain ⟨y1, y2, y3, y4, y5⟩ := hj.fr f4 g4
        exact ⟨y1, y2.fr FC (fun i hi k => by simp [TC45]; omega), by rw [FM.at' _ rfl]; exact y3, fun x hx i hi => by rw [FM.at' _ rfl]; exact y4 x hx i hi, y5⟩
      · show (setI wC' 45 k (nI v)).1 45 x = if (if x = k then true else tl x) = true then nI (if x = k then v else G x) else -1
        by_cases hq : x = k
        · subst hq; simp [setI1]
        · simp only [setI1, hq, and_false, if_false]; exact u1 x hx
      · show (setI wM' 11 k (nI v)).1 11 x = nI (if x = k then v else G x)
        by_cases hq : x = k
        · subst hq; simp [setI1]
        · simp only [setI1, hq, and_false, if_false]; exact u2 x hx
      · show (if x = k then true else tl x) = false → (if x = k then v else G x) = L x
        by_cases hq : x = k
        · rw [if_pos hq]; intro q; cases q
        · rw [if_neg hq, if_neg hq]; exact u3 x hx
      · have : k = 0 ∨ k = 1 ∨ k = 2 := by omega
        rcases this with rfl | rfl | rfl <;> simp [LwL, LwH] at v1 v2 ⊢ <;> omega
    · refine Or.inr ⟨wC', wM', ?_, ?_, k3, f0.tr (f4.wd (fun o k q => TCf_TR q)), g0.tr (g4.wd (fun o k q => TMf_TRM q))⟩
      · simp only [lbX8_read_39_2, n200', s0, if_false, a2, bd_some', hk0, a4, bd2_some', if_true]
      · simp only [lbX12_board_44_2, gn, s0', if_false, b3, bd_some', show ¬ ((0 : Int32) ≤ -1) by decide, s2, b2, hk0, b4]
/-- all rows of the text -/
theorem rows_ev {wC0 wM0 : AW} (hY : ∀ i, Y i < 256) (hc : c ≤ 200) (hN : 300 < N) (h3 : ∀ i, i < 4 → wM0.1 3 i = leastS i ∧ wM0.1 4 i = mostS i) :
    ∀ d i wC wM KC KM, i + d = 201 → d < KC → d + 1 < KM → RdI Y c L wC0 wM0 i wC wM →
    (∃ wC' wM', wh (lbX8_read_39_2 N) KC (nI i, wC) = some (.inl wC') ∧ wh (lbX12_board_44_2 N) KM wM = some wM' ∧ RdI Y c L wC0 wM0 i wC' wM') ∨
    (∃ wC' wM', wh (lbX8_read_39_2 N) KC (nI i, wC) = some (.inr wC') ∧ wh (lbX12_board_44_2 N) KM wM = some wM' ∧ Fl c wC' wM' ∧ Fr TR wC0 wC' ∧ Fm TRM wM0 wM') := by
  intro d
  induction d with
  | zero =>
    intro i wC wM KC KM hid h1 h2 hI
    obtain ⟨m, F, tl, G, s, p, e, h, hj, hl, f0, g0, hi⟩ := hI
    have := h.le
    omega
  | succ d ih =>
    intro i wC wM KC KM hid h1 h2 hI
    have hI' := hI
    obtain ⟨m, F, tl, G, s, p, e, h, hj, hl, f0, g0, hi⟩ := hI'
    obtain ⟨KC, rfl⟩ : ∃ k, KC = k + 1 := ⟨KC - 1, by omega⟩
    obtain ⟨KM, rfl⟩ : ∃ k, KM = k + 1 := ⟨KM - 1, by omega⟩
    have gn := good_ne h.2.2.2.2.1
    by_cases hs : s = 0
    · subst hs
      refine Or.inl ⟨wC, wM, wh_out ?_, wh_out ?_, hI⟩
      · have k4 : wC.1 37 4 = 0 := h.2.2.1.1
        simp only [lbX8_read_39_2, k4, if_true]
        split <;> rfl
      · have k4 : wM.1 0 17 = 0 := h.2.2.2.1.1
        simp only [lbX12_board_44_2, gn, if_false, k4, if_true]
    · rcases item_ev h hY hc hN hj hl f0 g0 h3 hs hi with ⟨wC', wM', a1, b1, h'⟩ | ⟨wC', wM', a1, b1, h'⟩
      · rcases ih (i + 1) wC' wM' KC KM (by omega) (by omega) (by omega) h' with ⟨wC2, wM2, a2, b2, h2⟩ | ⟨wC2, wM2, a2, b2, h2⟩
        · obtain ⟨m, F, tl, G, s, p, e, h, hj, hl, f0, g0, hi⟩ := h2
          exact Or.inl ⟨wC2, wM2, by rw [wh_step a1]; exact a2, by rw [wh_step b1]; exact b2, m, F, tl, G, s, p, e, h, hj, hl, f0, g0, by omega⟩
        · exact Or.inr ⟨wC2, wM2, by rw [wh_step a1]; exact a2, by rw [wh_step b1]; exact b2, h2⟩
      · obtain ⟨KM, rfl⟩ : ∃ k, KM = k + 1 := ⟨KM - 1, by omega⟩
        refine Or.inr ⟨wC', wM', wh_out a1, ?_, h'⟩
        rw [wh_step b1]
        exact wh_out (by simp only [lbX12_board_44_2, h'.1.no, if_true])
end
