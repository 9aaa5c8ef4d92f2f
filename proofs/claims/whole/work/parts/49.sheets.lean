/-! 49: sheets and shelves -/
theorem Rel.shv {wC wM wC' wM' : AW} {T T' : Nat → Nat → Bool} (h : Rel wC wM) (f : Fr T wC wC') (f' : Fr T' wM (wM'.1, wM.2)) (hC : ∀ o k, pC o k = true → (o < 68 ∨ 73 < o) → T o k = false) (hM : ∀ o k, pM o k = true → (o < 19 ∨ 24 < o) → T' o k = false) (hb : RSh wC' wM') : Rel wC' wM' := by
  obtain ⟨h1, h2, h3, h4, h5, h6, h7, h8⟩ := h
  have mm : ∀ o k, mB o k = true → T' o k = false := fun o k hk => by
    simp only [mB, Bool.or_eq_true, Bool.and_eq_true, beq_iff_eq] at hk
    exact hM o k (by simp only [pM, Bool.or_eq_true, Bool.and_eq_true, beq_iff_eq, decide_eq_true_eq]; omega) (by omega)
  have k1 : RBd wC' (wM'.1, wM.2) := h1.fr f f' (fun o k a b => hC o k (by simp [pC]; omega) (by omega)) mm
  have k2 : RTy wC' (wM'.1, wM.2) := h2.fr f f' (fun o k a b => hC o k (by simp [pC]; omega) (by omega)) (fun k => hM 8 k rfl (by omega)) (hM 0 12 rfl (by omega)) (hM 0 14 rfl (by omega))
  have k3 : RKp wC' (wM'.1, wM.2) := h3.fr f f' (hC 0 4 rfl (by omega)) (fun o k a b => hC o k (by simp [pC]; omega) (by omega)) (fun o k a b => hC o k (by simp [pC]; omega) (by omega)) (hM 0 50 rfl (by omega)) (fun k => hM 26 k rfl (by omega))
  have k4 : RTp wC' (wM'.1, wM.2) := h4.fr f f' (hC 37 1 rfl (by omega)) (fun k => hC 38 k rfl (by omega)) (hM 0 16 rfl (by omega)) (fun k => hM 9 k rfl (by omega))
  have k5 : RRw wC' (wM'.1, wM.2) := h5.fr f f' (hC 59 2 rfl (by omega)) (fun k => hC 60 k rfl (by omega)) (hM 0 37 rfl (by omega)) (fun k => hM 18 k rfl (by omega))
  have k7 : RTh wC' (wM'.1, wM.2) := h7.fr f f' (hC 74 5 rfl (by omega)) (fun k => hC 75 k rfl (by omega)) (hM 0 48 rfl (by omega)) (fun k => hM 25 k rfl (by omega))
  have k8 : RCs (wM'.1, wM.2) := h8.fr f' (fun k => hM 3 k rfl (by omega)) (fun k => hM 4 k rfl (by omega))
  exact ⟨k1, k2, k3, k4, k5, hb, k7, k8⟩
theorem isPlace_ev (a : Int32) (w : AW) : fX7_isPlace a w = some (wI a 0 3) := by
  simp only [fX7_isPlace, within_ev, bd_some', isb_wI, gd_true]
theorem isShelf_ev (a : Int32) (w : AW) : fX12_isShelf a w = some (wI a 0 3) := by
  simp only [fX12_isShelf, in_ev, bd_some', isb_wI, gd_true]
theorem layC_ev {a N : Nat} {w : AW} (ha : a < 4) (hN : 50 < N) : ∃ w', wh (lbX7_lay_26_1 N (nI a)) N (0, w) = some w' ∧ w'.2 = w.2 ∧ ∀ o k, w'.1 o k = if o = 70 ∧ 40 * a ≤ k ∧ k < 40 * a + 40 then 0 else w.1 o k := by
  have key := wh_cnt (body := lbX7_lay_26_1 N (nI a)) (n := 40)
    (I := fun i s => ∃ w1 : AW, s = (nI i, w1) ∧ w1.2 = w.2 ∧ ∀ o k, w1.1 o k = if o = 70 ∧ 40 * a ≤ k ∧ k < 40 * a + i then 0 else w.1 o k)
    (Q := fun w1 => w1.2 = w.2 ∧ ∀ o k, w1.1 o k = if o = 70 ∧ 40 * a ≤ k ∧ k < 40 * a + 40 then 0 else w.1 o k)
    ?_ ?_ (N := N) (i := 0) (s := (0, w)) ⟨w, rfl, rfl, fun o k => by rw [if_neg (by omega)]⟩ (Nat.zero_le _) (by omega)
  · obtain ⟨w1, e1, e2, e3⟩ := key
    exact ⟨w1, e1, e2, e3⟩
  · rintro i s hi ⟨w1, rfl, h2, h3⟩
    refine ⟨(nI (i + 1), setI w1 70 (40 * a + i) 0), ?_, _, rfl, h2, fun o k => ?_⟩
    · simp only [lbX7_lay_26_1]
      rw [if_neg (by rw [n40, nle (by omega) (by omega)]; omega), show nI a * 40 + nI i = nI (40 * a + i) by rw [n40, nmul, nadd, Nat.mul_comm], gd_n (by omega) (by omega), ntn (by omega), lw_eq, show nI i + 1 = nI (i + 1) by rw [n1, nadd]]
    · simp only [setI1, h3]
      by_cases hq : o = 70 ∧ k = 40 * a + i
      · rw [if_pos hq, if_pos (by omega)]
      · rw [if_neg hq]
        by_cases hq2 : o = 70 ∧ 40 * a ≤ k ∧ k < 40 * a + i
        · rw [if_pos hq2, if_pos (by omega)]
        · rw [if_neg hq2, if_neg (by omega)]
  · rintro s ⟨w1, rfl, h2, h3⟩
    exact ⟨w1, rfl, h2, h3⟩
theorem layM_ev {a N : Nat} {w : AW} (ha : a < 4) (hN : 50 < N) : ∃ w', wh (lbX12_sheet_64_1 N (nI a)) N (0, w) = some w' ∧ w'.1 = w.1 ∧ ∀ o k, w'.2 o k = if o = 21 ∧ 40 * a ≤ k ∧ k < 40 * a + 40 then 0 else w.2 o k := by
  have key := wh_cnt (body := lbX12_sheet_64_1 N (nI a)) (n := 40)
    (I := fun i s => ∃ w1 : AW, s = (nI i, w1) ∧ w1.1 = w.1 ∧ ∀ o k, w1.2 o k = if o = 21 ∧ 40 * a ≤ k ∧ k < 40 * a + i then 0 else w.2 o k)
    (Q := fun w1 => w1.1 = w.1 ∧ ∀ o k, w1.2 o k = if o = 21 ∧ 40 * a ≤ k ∧ k < 40 * a + 40 then 0 else w.2 o k)
    ?_ ?_ (N := N) (i := 0) (s := (0, w)) ⟨w, rfl, rfl, fun o k => by rw [if_neg (by omega)]⟩ (Nat.zero_le _) (by omega)
  · obtain ⟨w1, e1, e2, e3⟩ := key
    exact ⟨w1, e1, e2, e3⟩
  · rintro i s hi ⟨w1, rfl, h2, h3⟩
    refine ⟨(nI (i + 1), setL w1 21 (40 * a + i) 0), ?_, _, rfl, h2, fun o k => ?_⟩
    · simp only [lbX12_sheet_64_1]
      rw [if_neg (by rw [n40, nle (by omega) (by omega)]; omega), show 40 * nI a + nI i = nI (40 * a + i) by rw [n40, nmul, nadd], gd_n (by omega) (by omega), ntn (by omega), lw_eq, show nI i + 1 = nI (i + 1) by rw [n1, nadd]]
    · simp only [setL2, h3]
      by_cases hq : o = 21 ∧ k = 40 * a + i
      · rw [if_pos hq, if_pos (by omega)]
      · rw [if_neg hq]
        by_cases hq2 : o = 21 ∧ 40 * a ≤ k ∧ k < 40 * a + i
        · rw [if_pos hq2, if_pos (by omega)]
        · rw [if_neg hq2, if_neg (by omega)]
  · rintro s ⟨w1, rfl, h2, h3⟩
    exact ⟨w1, rfl, h2, h3⟩
theorem lay_both {wC wM : AW} (h : Rel wC wM) {a z : Nat} {s : Int} (ha : a < 4) (hz : z ≤ 40) (hs1 : -1 ≤ s) (hs2 : s ≤ 3) :
    ∃ wC' wM', wh (lbX7_lay_26_1 N0 (nI a)) N0 (0, setI (setI wC 68 a (zI s)) 69 a (nI z)) = some wC' ∧ wh (lbX12_sheet_64_1 N0 (nI a)) N0 (0, setI (setI wM 19 a (zI s)) 20 a (nI z)) = some wM' ∧ Rel wC' wM' := by
  have hN := N0_big
  obtain ⟨r1, r2, r3⟩ := h.2.2.2.2.2.1
  obtain ⟨w1, e1, e2, e3⟩ := layC_ev (N := N0) (w := setI (setI wC 68 a (zI s)) 69 a (nI z)) ha (by omega)
  obtain ⟨w2, k1, k2, k3⟩ := layM_ev (N := N0) (w := setI (setI wM 19 a (zI s)) 20 a (nI z)) ha (by omega)
  have fC : Fr (fun o _ => o == 68 || o == 69 || o == 70) wC w1 := ⟨fun o k q => by
    simp only [Bool.or_eq_false_iff, beq_eq_false_iff_ne] at q
    rw [e3, if_neg (by omega)]
    simp only [setI1]
    rw [if_neg (by omega), if_neg (by omega)], e2⟩
  have fM : Fr (fun o _ => o == 19 || o == 20) wM (w2.1, wM.2) := ⟨fun o k q => by
    simp only [Bool.or_eq_false_iff, beq_eq_false_iff_ne] at q
    simp only [k2, setI1]
    rw [if_neg (by omega), if_neg (by omega)], rfl⟩
  refine ⟨w1, w2, e1, k1, h.shv fC fM (fun o k q q1 => by simp; omega) (fun o k q q1 => by simp; omega) ⟨fun i hi => ?_, fun k hk => ?_, fun i hi => ?_⟩⟩
  · by_cases hia : i = a
    · subst hia
      refine ⟨s, z, hs1, hs2, hz, ?_, ?_, ?_, ?_⟩
      · rw [e3, if_neg (by omega)]; simp [setI1]
      · rw [k2]; simp [setI1]
      · rw [e3, if_neg (by omega)]; simp [setI1]
      · rw [k2]; simp [setI1]
    · obtain ⟨s', z', a1, a2, a3, a4, a5, a6, a7⟩ := r1 i hi
      refine ⟨s', z', a1, a2, a3, ?_, ?_, ?_, ?_⟩
      · rw [e3, if_neg (by omega)]; simp [setI1, hia, a4]
      · rw [k2]; simp [setI1, hia, a5]
      · rw [e3, if_neg (by omega)]; simp [setI1, hia, a6]
      · rw [k2]; simp [setI1, hia, a7]
  · rw [e3, k3]
    by_cases hq : 40 * a ≤ k ∧ k < 40 * a + 40
    · rw [if_pos ⟨rfl, hq⟩, if_pos ⟨rfl, hq⟩]; rfl
    · rw [if_neg (by omega), if_neg (by omega)]
      simp only [setI1, setI2, Nat.reduceEqDiff, false_and, if_false]
      exact r2 k hk
  · have eC : ∀ o, o = 71 ∨ o = 72 ∨ o = 73 → w1.1 o i = wC.1 o i := fun o ho => fC.at' _ (by simp; omega)
    have eM : ∀ o, o = 22 ∨ o = 23 ∨ o = 24 → w2.1 o i = wM.1 o i := fun o ho => fM.at' i (by simp; omega)
    rw [eC 71 (by simp), eC 72 (by simp), eC 73 (by simp), eM 22 (by simp), eM 23 (by simp), eM 24 (by simp)]
    exact r3 i hi
theorem wI_sort {a : Int32} (h : wI a (-1) 3 = 1) : ∃ s : Int, -1 ≤ s ∧ s ≤ 3 ∧ a = zI s := by
  obtain ⟨z, rfl, h1, h2⟩ := toZ a
  unfold wI at h
  rw [show (-1 : Int32) = zI (-1) from rfl, show (3 : Int32) = zI 3 from rfl] at h
  simp (disch := omega) only [zlt] at h
  by_cases c1 : z < -1
  · rw [if_pos c1] at h; exact absurd h (by decide)
  · rw [if_neg c1] at h
    by_cases c2 : (3 : Int) < z
    · rw [if_pos c2] at h; exact absurd h (by decide)
    · exact ⟨z, by omega, by omega, rfl⟩
theorem st_sheet {wC wM : AW} (h : Rel wC wM) (a0 a1 a2 : Int32) : ∃ r wC' wM', fX11_sheet N0 a0 a1 a2 wC = some (r, wC') ∧ fX12_sheet N0 a0 a1 a2 wM = some (r, wM') ∧ Rel wC' wM' := by
  have h10 : ¬ (1 : Int32) = 0 := by decide
  rcases wI_01 a0 0 3 with hr | hr
  · exact ⟨-1, wC, wM, by simp only [fX11_sheet, isPlace_ev, hr, bd_some', if_true], by simp only [fX12_sheet, isShelf_ev, hr, bd_some', if_true], h⟩
  · rcases wI_01 a1 (-1) 3 with hr1 | hr1
    · exact ⟨-1, wC, wM, by simp only [fX11_sheet, isPlace_ev, within_ev, hr, hr1, bd_some', h10, if_false, if_true], by simp only [fX12_sheet, isShelf_ev, in_ev, hr, hr1, bd_some', h10, if_false, if_true], h⟩
    · obtain ⟨a, -, ha, rfl⟩ := wI_nat (lo := 0) (hi := 3) hr (by omega) (by omega)
      obtain ⟨s, hs1, hs2, rfl⟩ := wI_sort hr1
      have hg : ∀ {β : Type} {k : Option β}, gd (inb (nI a) 4) k = k := fun {β k} => gd_n (by omega) (by omega)
      have ht : (nI a).toNatClampNeg = a := ntn (by omega)
      have hneg : (zI s < 0) = (s < 0) := by rw [show (0 : Int32) = zI 0 from rfl, zlt (by omega) (by omega) (by omega) (by omega)]
      have hm1 : (zI s = -1) = (s = -1) := by rw [show (-1 : Int32) = zI (-1) from rfl, zeq (by omega) (by omega) (by omega) (by omega)]
      have hge : (0 ≤ zI s) = (0 ≤ s) := by rw [show (0 : Int32) = zI 0 from rfl, zle (by omega) (by omega) (by omega) (by omega)]
      by_cases hms : s = -1
      · have hmT : zI s = -1 := by rw [hm1]; exact hms
        obtain ⟨wC', wM', e1, e2, e3⟩ := lay_both h (a := a) (z := 0) (s := s) (by omega) (by omega) hs1 hs2
        have hlt : s < 0 := by omega
        have hnge : ¬ 0 ≤ s := by omega
        rw [show nI 0 = 0 from rfl] at e1 e2
        refine ⟨1, wC', wM', ?_, ?_, e3⟩
        · simp only [fX11_sheet, isPlace_ev, within_ev, hr, hr1, bd_some', h10, if_false, if_pos hmT, fX7_lay, hg, ht, lw_eq, e1]
        · have e2' : wh (lbX12_sheet_64_2 N0 (nI a)) N0 (0, setI (setI wM 19 a (zI s)) 20 a 0) = some wM' := e2
          simp only [fX12_sheet, isShelf_ev, in_ev, hr, hr1, bd_some', h10, if_false, hneg, hlt, if_true, bX12_sheet_28, bX12_sheet_39, hg, ht, lw_eq, hge, hnge, e2']
      · have hmF : ¬ zI s = -1 := by rw [hm1]; exact hms
        have hlt : ¬ s < 0 := by omega
        have hge' : 0 ≤ s := by omega
        by_cases h40 : a2 ≤ 40
        · by_cases h0 : 0 ≤ a2
          · obtain ⟨z, rfl, hz1, hz2⟩ := toZ a2
            have hz0 : 0 ≤ z := by rwa [show (0 : Int32) = zI 0 from rfl, zle (by omega) (by omega) (by omega) (by omega)] at h0
            have hz40 : z ≤ 40 := by rwa [show (40 : Int32) = zI 40 from rfl, zle (by omega) (by omega) (by omega) (by omega)] at h40
            have hzn : zI z = nI z.toNat := by rw [zI_nI, Int.toNat_of_nonneg hz0]
            obtain ⟨wC', wM', e1, e2, e3⟩ := lay_both h (a := a) (z := z.toNat) (s := s) (by omega) (by omega) hs1 hs2
            rw [← hzn] at e1 e2
            have e1' : wh (lbX7_lay_26_2 N0 (nI a)) N0 (0, setI (setI wC 68 a (zI s)) 69 a (zI z)) = some wC' := e1
            refine ⟨1, wC', wM', ?_, ?_, e3⟩
            · simp only [fX11_sheet, isPlace_ev, within_ev, hr, hr1, bd_some', h10, if_false, hmF, h40, h0, if_true, fX7_lay, hg, ht, lw_eq, e1']
            · simp only [fX12_sheet, isShelf_ev, in_ev, hr, hr1, bd_some', h10, if_false, hneg, hlt, h40, h0, if_true, bX12_sheet_28, bX12_sheet_39, hg, ht, lw_eq, hge, hge', e2]
          · exact ⟨-14, wC, wM, by simp only [fX11_sheet, isPlace_ev, within_ev, hr, hr1, bd_some', h10, if_false, hmF, h40, h0, if_true], by simp only [fX12_sheet, isShelf_ev, in_ev, hr, hr1, bd_some', h10, if_false, hneg, hlt, h40, h0, if_true, bX12_sheet_28], h⟩
        · exact ⟨-1, wC, wM, by simp only [fX11_sheet, isPlace_ev, within_ev, hr, hr1, bd_some', h10, if_false, hmF, h40], by simp only [fX12_sheet, isShelf_ev, in_ev, hr, hr1, bd_some', h10, if_false, hneg, hlt, h40], h⟩
theorem st_put {wC wM : AW} (h : Rel wC wM) (a0 a1 a2 : Int32) : ∃ r wC' wM', fX11_put a0 a1 a2 wC = some (r, wC') ∧ fX12_put a0 a1 a2 wM = some (r, wM') ∧ Rel wC' wM' := by
  have h10 : ¬ (1 : Int32) = 0 := by decide
  obtain ⟨r1, r2, r3⟩ := h.2.2.2.2.2.1
  rcases wI_01 a0 0 3 with hr | hr
  · exact ⟨-1, wC, wM, by simp only [fX11_put, isPlace_ev, hr, bd_some', if_true], by simp only [fX12_put, isShelf_ev, hr, bd_some', if_true], h⟩
  · obtain ⟨a, -, ha, rfl⟩ := wI_nat (lo := 0) (hi := 3) hr (by omega) (by omega)
    have hg : ∀ {β : Type} {k : Option β}, gd (inb (nI a) 4) k = k := fun {β k} => gd_n (by omega) (by omega)
    have ht : (nI a).toNatClampNeg = a := ntn (by omega)
    obtain ⟨s, z, hs1, hs2, hz, c1, m1, c2, m2⟩ := r1 a (by omega)
    have hm1 : (zI s = -1) = (s = -1) := by rw [show (-1 : Int32) = zI (-1) from rfl, zeq (by omega) (by omega) (by omega) (by omega)]
    have hge : (0 ≤ zI s) = (0 ≤ s) := by rw [show (0 : Int32) = zI 0 from rfl, zle (by omega) (by omega) (by omega) (by omega)]
    have he0 : (zI s = 0) = (s = 0) := by rw [show (0 : Int32) = zI 0 from rfl, zeq (by omega) (by omega) (by omega) (by omega)]
    have he1 : (zI s = 1) = (s = 1) := by rw [show (1 : Int32) = zI 1 from rfl, zeq (by omega) (by omega) (by omega) (by omega)]
    by_cases hms : s = -1
    · have hnge : ¬ 0 ≤ s := by omega
      have hmT : zI s = -1 := by rw [hm1]; exact hms
      exact ⟨-11, wC, wM, by simp only [fX11_put, isPlace_ev, hr, bd_some', h10, if_false, hg, ht, c1, if_pos hmT], by simp only [fX12_put, isShelf_ev, hr, bd_some', h10, if_false, hg, ht, m1, hge, hnge], h⟩
    · have hge' : 0 ≤ s := by omega
      have hmF : ¬ zI s = -1 := by rw [hm1]; exact hms
      rcases wI_01 a1 0 (nI z - 1) with hw | hw
      · exact ⟨-12, wC, wM, by simp only [fX11_put, isPlace_ev, within_ev, hr, bd_some', h10, if_false, hg, ht, c1, hmF, c2, hw, if_true], by simp only [fX12_put, isShelf_ev, in_ev, hr, bd_some', h10, if_false, hg, ht, m1, hge, hge', if_true, m2, hw], h⟩
      · obtain ⟨i, hi, rfl⟩ := wI_neg (by omega) hw
        have hixC : nI a * 40 + nI i = nI (40 * a + i) := by rw [n40, nmul, nadd, Nat.mul_comm]
        have hixM : 40 * nI a + nI i = nI (40 * a + i) := by rw [n40, nmul, nadd]
        have hg2 : ∀ {β : Type} {k : Option β}, gd (inb (nI (40 * a + i)) 160) k = k := fun {β k} => gd_n (by omega) (by omega)
        have ht2 : (nI (40 * a + i)).toNatClampNeg = 40 * a + i := ntn (by omega)
        have fin : ∀ v : Int32, Rel (setI wC 70 (40 * a + i) v) (setL wM 21 (40 * a + i) v.toInt64) := fun v => by
          refine h.shv (T := fun o _ => o == 70) (T' := fun o _ => false) (Fr.set (by simp)) ⟨fun o k _ => rfl, rfl⟩ (fun o k q q1 => by simp; omega) (fun o k q q1 => rfl) ⟨fun j hj => ?_, fun k hk => ?_, fun j hj => ?_⟩
          · obtain ⟨s', z', b1, b2, b3, b4, b5, b6, b7⟩ := r1 j hj
            exact ⟨s', z', b1, b2, b3, by simp [setI1, b4], by simp [setL1, b5], by simp [setI1, b6], by simp [setL1, b7]⟩
          · simp only [setI1, setL2, true_and]
            by_cases hq : k = 40 * a + i
            · rw [if_pos hq, if_pos hq, Int32.toInt32_toInt64]
            · rw [if_neg hq, if_neg hq]; exact r2 k hk
          · simp only [setI1, setL1, Nat.reduceEqDiff, false_and, if_false]
            exact r3 j hj
        refine ⟨1, setI wC 70 (40 * a + i) (if s = 0 then a2.toInt8.toInt32 else if s = 1 then a2.toInt16.toInt32 else a2), setL wM 21 (40 * a + i) (if s = 0 then a2.toInt8.toInt32 else if s = 1 then a2.toInt16.toInt32 else a2).toInt64, ?_, ?_, fin _⟩
        · simp only [fX11_put, isPlace_ev, within_ev, hr, bd_some', h10, if_false, hg, ht, c1, hmF, c2, hw, fX7_narrowed, he0, he1, hixC, hg2, ht2, lw_eq]
          by_cases q0 : s = 0
          · simp only [q0, if_true, bd_some']
          · by_cases q1 : s = 1
            · simp only [q0, q1, if_true, if_false, bd_some']
              rfl
            · simp only [q0, q1, if_false, bd_some']
        · simp only [fX12_put, isShelf_ev, in_ev, hr, bd_some', h10, if_false, hg, ht, m1, hge, hge', if_true, m2, hw, he0, he1, hixM, hg2, ht2, lw_eq]
          by_cases q0 : s = 0
          · simp only [q0, if_true]
          · by_cases q1 : s = 1
            · simp only [q0, q1, if_true, if_false]
              rfl
            · simp only [q0, q1, if_false]
theorem st_item {wC wM : AW} (h : Rel wC wM) (a0 a1 a2 : Int32) : ∃ r, fX11_item a0 a1 a2 wC = some r ∧ fX12_item a0 a1 a2 wM = some r := by
  have h10 : ¬ (1 : Int32) = 0 := by decide
  obtain ⟨r1, r2, r3⟩ := h.2.2.2.2.2.1
  rcases wI_01 a0 0 3 with hr | hr
  · exact ⟨-1, by simp only [fX11_item, isPlace_ev, hr, bd_some', if_true], by simp only [fX12_item, isShelf_ev, hr, bd_some', if_true]⟩
  · rcases wI_01 a1 0 3 with hr1 | hr1
    · exact ⟨-1, by simp only [fX11_item, isPlace_ev, within_ev, hr, hr1, bd_some', h10, if_false, if_true], by simp only [fX12_item, isShelf_ev, in_ev, hr, hr1, bd_some', h10, if_false, if_true]⟩
    · obtain ⟨a, -, ha, rfl⟩ := wI_nat (lo := 0) (hi := 3) hr (by omega) (by omega)
      have hg : ∀ {β : Type} {k : Option β}, gd (inb (nI a) 4) k = k := fun {β k} => gd_n (by omega) (by omega)
      have ht : (nI a).toNatClampNeg = a := ntn (by omega)
      obtain ⟨s, z, hs1, hs2, hz, c1, m1, c2, m2⟩ := r1 a (by omega)
      have hm1 : (zI s = -1) = (s = -1) := by rw [show (-1 : Int32) = zI (-1) from rfl, zeq (by omega) (by omega) (by omega) (by omega)]
      have hge : (0 ≤ zI s) = (0 ≤ s) := by rw [show (0 : Int32) = zI 0 from rfl, zle (by omega) (by omega) (by omega) (by omega)]
      by_cases hms : s = -1
      · have hnge : ¬ 0 ≤ s := by omega
        have hmT : zI s = -1 := by rw [hm1]; exact hms
        have n11 : ¬ (-11 : Int32) = 0 := by decide
        exact ⟨-11, by simp only [fX11_item, isPlace_ev, within_ev, hr, hr1, bd_some', h10, if_false, hg, ht, c1, if_pos hmT], by simp only [fX12_item, isShelf_ev, in_ev, hr, hr1, bd_some', h10, if_false, fX12_lacksSort, hg, ht, m1, hge, hnge, n11]⟩
      · have hge' : 0 ≤ s := by omega
        have hmF : ¬ zI s = -1 := by rw [hm1]; exact hms
        by_cases hsa : zI s = a1
        · subst hsa
          rcases wI_01 a2 0 (nI z - 1) with hw | hw
          · exact ⟨-12, by simp only [fX11_item, isPlace_ev, within_ev, hr, hr1, bd_some', h10, if_false, hg, ht, c1, hmF, if_true, c2, hw], by simp only [fX12_item, isShelf_ev, in_ev, hr, hr1, bd_some', h10, if_false, fX12_lacksSort, hg, ht, m1, hge, hge', if_true, m2, hw]⟩
          · obtain ⟨i, hi, rfl⟩ := wI_neg (by omega) hw
            have hixC : nI a * 40 + nI i = nI (40 * a + i) := by rw [n40, nmul, nadd, Nat.mul_comm]
            have hixM : 40 * nI a + nI i = nI (40 * a + i) := by rw [n40, nmul, nadd]
            have hg2 : ∀ {β : Type} {k : Option β}, gd (inb (nI (40 * a + i)) 160) k = k := fun {β k} => gd_n (by omega) (by omega)
            have ht2 : (nI (40 * a + i)).toNatClampNeg = 40 * a + i := ntn (by omega)
            refine ⟨(wM.2 21 (40 * a + i)).toInt32, ?_, ?_⟩
            · rw [← r2 (40 * a + i) (by omega)]
              simp only [fX11_item, isPlace_ev, within_ev, hr, hr1, bd_some', h10, if_false, hg, ht, c1, hmF, if_true, c2, hw, hixC, hg2, ht2]
            · simp only [fX12_item, isShelf_ev, in_ev, hr, hr1, bd_some', h10, if_false, fX12_lacksSort, hg, ht, m1, hge, hge', if_true, m2, hw, hixM, hg2, ht2]
        · have n13 : ¬ (-13 : Int32) = 0 := by decide
          exact ⟨-13, by simp only [fX11_item, isPlace_ev, within_ev, hr, hr1, bd_some', h10, if_false, hg, ht, c1, hmF, hsa], by simp only [fX12_item, isShelf_ev, in_ev, hr, hr1, bd_some', h10, if_false, fX12_lacksSort, hg, ht, m1, hge, hge', hsa, if_true, if_false, n13]⟩
