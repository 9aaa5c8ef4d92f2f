/-! 69: the board told by a text -/
theorem read_ev {wC wM : AW} (h : Rel wC wM) {N : Nat} (hN : 300 < N) :
    ∃ L wC' wM' r, fX8_read N wC = some (r, wC') ∧ (bd (wh (lbX12_board_17_1 N) N (0, setI (setI (setI wM 0 19 0) 0 22 1) 0 25 0)) (fun w8 => bd (fX12_advance N w8) (fun w10 => wh (lbX12_board_44_2 N) N w10))) = some wM' ∧ Fr TR wC wC' ∧ Fm TRM wM wM' ∧ (∀ i, i < 4 → wC.1 8 i = nI (L i)) ∧
    ((r < 0 ∧ wM'.1 0 22 = nI 1 ∧ ∃ m F tl G, JSt m F wC' wM' ∧ LSt L tl G wC' wM') ∨ (∃ p, p ≤ 200 ∧ r = nI p ∧ wM'.1 0 18 = nI p ∧ wM'.1 0 22 = 0)) := by
  obtain ⟨n, J, L, lost, nig, day, col, left, till, pl, ok, hc, hm⟩ := h.1
  obtain ⟨c, Y, g1, g2, g3, g4, g5, g6⟩ := h.2.2.2.1
  have hcs := h.2.2.2.2.2.2.2
  obtain ⟨hn, bj, b, hp⟩ := ok
  -- the program sets out
  obtain ⟨w6, a1, a2, a3⟩ : ∃ w6, wh (lbX8_read_10_1 N) N (0, setI wC 39 0 0) = some w6 ∧ Fr (fun o _ => o == 45) (setI wC 39 0 0) w6 ∧ ∀ x, x < 4 → w6.1 45 x = -1 := by
    have key := wh_cnt (body := lbX8_read_10_1 N) (n := 4) (I := fun i s => ∃ w', s = (nI i, w') ∧ Fr (fun o _ => o == 45) (setI wC 39 0 0) w' ∧ ∀ x, x < i → w'.1 45 x = -1) (Q := fun w2 => Fr (fun o _ => o == 45) (setI wC 39 0 0) w2 ∧ ∀ x, x < 4 → w2.1 45 x = -1)
      ?_ ?_ (N := N) (i := 0) (s := (0, setI wC 39 0 0)) ⟨_, rfl, Fr.rf, fun x hx => by omega⟩ (by omega) (by omega)
    · obtain ⟨w', e1, e2⟩ := key; exact ⟨w', e1, e2⟩
    · rintro i s hi ⟨w', rfl, g1, g2⟩
      refine ⟨(nI (i + 1), setI w' 45 i (-1)), ?_, _, rfl, g1.tr (Fr.set (by simp)), fun x hx => ?_⟩
      · simp (disch := omega) only [lbX8_read_10_1, n4, nle, if_neg (show ¬ 4 ≤ i by omega), gd_n, ntn, lw_eq, show nI i + 1 = nI (i + 1) by rw [n1, nadd]]
      · by_cases hq : x = i
        · subst hq; simp [setI1]
        · simp only [setI1, hq, and_false, if_false]; exact g2 x (by omega)
    · rintro s ⟨w', rfl, g1, g2⟩
      exact ⟨w', by simp only [lbX8_read_10_1, show nI 4 = 4 from rfl, Int32.le_refl, if_true], g1, g2⟩
  have A0 : Fr (fun o k => o == 39 && k == 0) wC (setI wC 39 0 0) := Fr.set (by simp)
  have A6 : Fr (fun o k => o == 37 && k == 6) w6 (setI w6 37 6 0) := Fr.set (by simp)
  have A7 : Fr TR wC (setI w6 37 6 0) := (A0.wd (fun o k q => by simp [TR, TCj, TCf] at q ⊢; omega)).tr ((a2.wd (fun o k q => by simp [TR] at q ⊢; omega)).tr (A6.wd (fun o k q => by simp [TR, TCj, TCf] at q ⊢; omega)))
  have q39 : (setI w6 37 6 0).1 39 0 = nI 0 := by rw [A6.at' _ rfl, a2.at' _ rfl]; simp [setI1]; rfl
  have q45 : ∀ i, i < 4 → (setI w6 37 6 0).1 45 i = -1 := fun i hi => by rw [A6.at' _ rfl]; exact a3 i hi
  have q6 : (setI w6 37 6 0).1 37 6 = nI 0 := by simp [setI1]; rfl
  generalize hwa : setI w6 37 6 0 = wa at *
  -- the reference sets out
  have B0 : Fr (fun o k => o == 0 && (k == 19 || k == 22 || k == 25)) wM (setI (setI (setI wM 0 19 0) 0 22 1) 0 25 0) := ((Fr.set (by simp)).tr (Fr.set (by simp))).tr (Fr.set (by simp))
  have z19 : (setI (setI (setI wM 0 19 0) 0 22 1) 0 25 0).1 0 19 = nI 0 := by simp [setI1]; rfl
  have z22 : (setI (setI (setI wM 0 19 0) 0 22 1) 0 25 0).1 0 22 = nI 1 := by simp [setI1]; rfl
  have z25 : (setI (setI (setI wM 0 19 0) 0 22 1) 0 25 0).1 0 25 = nI 0 := by simp [setI1]; rfl
  generalize hwb : setI (setI (setI wM 0 19 0) 0 22 1) 0 25 0 = wb at *
  have M2 : ∀ i, i < 4 → wb.1 2 i = nI (L i) := fun i hi => by rw [B0.at' _ rfl]; exact hm.2.1.1 i hi
  obtain ⟨w8, b1, b2, b3⟩ : ∃ w8, wh (lbX12_board_17_1 N) N (0, wb) = some w8 ∧ Fr (fun o _ => o == 11) wb w8 ∧ ∀ x, x < 4 → w8.1 11 x = nI (L x) := by
    have key := wh_cnt (body := lbX12_board_17_1 N) (n := 4) (I := fun i s => ∃ w', s = (nI i, w') ∧ Fr (fun o _ => o == 11) wb w' ∧ ∀ x, x < i → w'.1 11 x = nI (L x)) (Q := fun w2 => Fr (fun o _ => o == 11) wb w2 ∧ ∀ x, x < 4 → w2.1 11 x = nI (L x))
      ?_ ?_ (N := N) (i := 0) (s := (0, wb)) ⟨_, rfl, Fr.rf, fun x hx => by omega⟩ (by omega) (by omega)
    · obtain ⟨w', e1, e2⟩ := key; exact ⟨w', e1, e2⟩
    · rintro i s hi ⟨w', rfl, g1, g2⟩
      have e2 : w'.1 2 i = nI (L i) := by rw [g1.at' _ rfl]; exact M2 i hi
      refine ⟨(nI (i + 1), setI w' 11 i (nI (L i))), ?_, _, rfl, g1.tr (Fr.set (by simp)), fun x hx => ?_⟩
      · simp (disch := omega) only [lbX12_board_17_1, n4, nle, if_neg (show ¬ 4 ≤ i by omega), gd_n, ntn, lw_eq, e2, show nI i + 1 = nI (i + 1) by rw [n1, nadd]]
      · by_cases hq : x = i
        · subst hq; simp [setI1]
        · simp only [setI1, hq, and_false, if_false]; exact g2 x (by omega)
    · rintro s ⟨w', rfl, g1, g2⟩
      exact ⟨w', by simp only [lbX12_board_17_1, show nI 4 = 4 from rfl, Int32.le_refl, if_true], g1, g2⟩
  have B8 : Fr TRM wM w8 := (B0.wd (fun o k q => by simp [TRM, TMj, TMf] at q ⊢; omega)).tr (b2.wd (fun o k q => by simp [TRM] at q ⊢; omega))
  -- the first piece
  have tc : TpC c Y wa := TpC.fr (w := wC) ⟨g3, g5⟩ A7 rfl (fun k => rfl)
  have tm : TpM c Y w8 := TpM.fm (w := wM) ⟨g4, g6⟩ B8.fm rfl (fun k => rfl)
  obtain ⟨s, p, e, ht⟩ := tok_ex (Y := Y) (Nat.zero_le c)
  obtain ⟨wc, c1, c2, c3⟩ := next_ev (N := N) tc g2 g1 ht q6 hN
  obtain ⟨wm, d1, d2, d3⟩ := advance_ev (N := N) tm g2 g1 ht (by rw [b2.at' _ rfl]; exact z19) hN
  have C2 := c2.wd (T' := TR) (fun o k q => T456_TCf (TCf_TR q))
  have D2 := d2.wd (T' := TRM) (fun o k q => TMa_TMf (TMf_TRM q))
  have L0 : LTk Y c s p e wc wm := ⟨tc.fr c2 rfl (fun k => rfl), tm.fm d2 rfl (fun k => rfl), c3, d3, by rw [d2.at' _ rfl, b2.at' _ rfl]; exact z22, 0, ht⟩
  have J0 : JSt 0 (fun _ _ => 0) wc wm := ⟨by omega, ⟨by rw [c2.at' _ rfl]; exact q39, fun j hj => by omega⟩, by rw [d2.at' _ rfl, b2.at' _ rfl]; exact z25, fun x hx => by omega, fun x hx => by omega⟩
  have LS : LSt L (fun _ => false) L wc wm := ⟨fun i hi => by rw [c2.at' _ rfl, if_neg (by simp)]; exact q45 i hi, fun i hi => by rw [d2.at' _ rfl]; exact b3 i hi, fun i hi _ => rfl, b.1, b.2.1, b.2.2.1, b.2.2.2.1, b.2.2.2.2.1⟩
  have key := rows_ev (L := L) (N := N) (wC0 := wC) (wM0 := wM) g2 g1 hN hcs 201 0 wc wm N N (by omega) (by omega) (by omega) ⟨0, _, _, _, s, p, e, L0, J0, LS, A7.tr C2, B8.fm.tr D2, Nat.zero_le _⟩
  rcases key with ⟨wC', wM', k1, k2, m, F, tl, G, s', p', e', k3, k4, k5, k6, k7, -⟩ | ⟨wC', wM', k1, k2, ⟨p', kp, k3, k4, k5⟩, k6, k7⟩
  · refine ⟨L, wC', wM', -1, ?_, ?_, k6, k7, hc.2.1, Or.inl ⟨by decide, k3.2.2.2.2.1, m, F, tl, G, k4, k5⟩⟩
    · have k1' : wh (lbX8_read_39_2 N) N (0, wc) = some (.inl wC') := k1
      simp only [fX8_read, lw_eq, a1, bd_some', hwa, c1, k1']
      rfl
    · rw [b1, bd_some', d1, bd_some', k2]
  · refine ⟨L, wC', wM', nI p', ?_, ?_, k6, k7, hc.2.1, Or.inr ⟨p', ?_, rfl, k4, k5⟩⟩
    · have k1' : wh (lbX8_read_39_2 N) N (0, wc) = some (.inr wC') := k1
      simp only [fX8_read, lw_eq, a1, bd_some', hwa, c1, k1']
      rw [← k3]; rfl
    · rw [b1, bd_some', d1, bd_some', k2]
    · omega
theorem board_ev {wC wM : AW} (h : Rel wC wM) {N : Nat} (hN : 3000 < N) : ∃ r wC' wM', fX11_board N wC = some (r, wC') ∧ fX12_board N wM = some (r, wM') ∧ Rel wC' wM' := by
  obtain ⟨L, wc, wm, r, a1, b1, f1, g1, hL, hres⟩ := read_ev h (N := N) (by omega)
  have F1 : Fr Tbc wC wc := f1.wd (fun o k q => TR_Tbc q)
  have G1 : Fm Tbm wM wm := g1.wd (fun o k q => TRM_Tbm q)
  have F2 : Fr (fun o k => o == 37 && k == 1) wc (setI wc 37 1 0) := Fr.set (by simp)
  have G2 : Fr (fun o k => o == 0 && k == 16) wm (setI wm 0 16 0) := Fr.set (by simp)
  have t1 : (setI wc 37 1 0).1 37 1 = nI 0 := by simp [setI1]; rfl
  have t2 : (setI wm 0 16 0).1 0 16 = nI 0 := by simp [setI1]; rfl
  generalize hw2 : setI wc 37 1 0 = w2 at *
  generalize hv2 : setI wm 0 16 0 = v2 at *
  have F12 : Fr Tbc wC w2 := F1.tr (F2.wd (fun o k q => by simp [Tbc] at q ⊢; omega))
  have G12 : Fm Tbm wM v2 := G1.tr (G2.fm.wd (fun o k q => by simp [Tbm] at q ⊢; omega))
  -- how the reference goes on
  have eM : ∀ x, bX12_board_122 N wm = x → fX12_board N wM = x := fun x hx => by
    obtain ⟨w8, y1, y2⟩ : ∃ w8, wh (lbX12_board_17_1 N) N (0, setI (setI (setI wM 0 19 0) 0 22 1) 0 25 0) = some w8 ∧ bd (fX12_advance N w8) (fun w10 => wh (lbX12_board_44_2 N) N w10) = some wm := by
      cases hq : wh (lbX12_board_17_1 N) N (0, setI (setI (setI wM 0 19 0) 0 22 1) 0 25 0) with
      | none => rw [hq] at b1; cases b1
      | some w8 => rw [hq] at b1; exact ⟨w8, rfl, b1⟩
    obtain ⟨w10, y3, y4⟩ : ∃ w10, fX12_advance N w8 = some w10 ∧ wh (lbX12_board_44_2 N) N w10 = some wm := by
      cases hq : fX12_advance N w8 with
      | none => rw [hq] at y2; cases y2
      | some w10 => rw [hq] at y2; exact ⟨w10, rfl, y2⟩
    simp only [fX12_board, lw_eq, y1, bd_some', y3, y4]
    exact hx
  have tp : ∀ {w v : AW}, w.1 37 1 = nI 0 → v.1 0 16 = nI 0 → RTp w v := fun {w v} h1 h2 => ⟨0, fun _ => 0, by omega, fun _ => by show 0 < 256; omega, h1, h2, fun i hi => by omega, fun i hi => by omega⟩
  rcases hres with ⟨hr, hgood, m, F, tl, G, hj, hl⟩ | ⟨p, hp, rfl, hpos, hbad⟩
  · obtain ⟨j1, j2, j3, j4, j5⟩ := hj
    obtain ⟨l1, l2, l3, l4⟩ := hl
    have gb : ∀ i, i < 4 → G i ≤ 99 := fun i hi => by
      have : i = 0 ∨ i = 1 ∨ i = 2 ∨ i = 3 := by omega
      rcases this with rfl | rfl | rfl | rfl <;> omega
    obtain ⟨w3, c1, c2, c3⟩ := brdNew_ev (N := N) (J := jRF F) (tl := tl) (G := G) (L := L) (w := w2) (j2.fr F2 (fun i hi k => by simp; omega)) j1 (fun i hi => by rw [F2.at' _ rfl, f1.at' _ rfl]; exact hL i hi) (fun i hi => by rw [F2.at' _ rfl]; exact l1 i hi) l3 gb (by omega)
    have F4 : Fr (fun o k => o == 59 && k == 2) w3 (setI w3 59 2 0) := Fr.set (by simp)
    -- the reference
    have G3 : Fr (fun o k => o == 0 && k == 0) v2 (setI v2 0 0 (nI m)) := Fr.set (by simp)
    obtain ⟨v4, d1, d2, d3, d4, d5, d6, d7⟩ := laid_ev (N := N) (m := m) (F := F) (G := G) (w := setI v2 0 0 (nI m)) 0 0 (by simp [setI1]) j1 (fun x hx i hi => by rw [G3.at' _ rfl, G2.at' _ rfl]; exact j4 x hx i hi) j5 (fun i hi => by rw [G3.at' _ rfl, G2.at' _ rfl]; exact l2 i hi) (by omega)
    have G5 : Fr (fun o k => o == 0 && (k == 5 || k == 6 || k == 7 || k == 8 || k == 37)) v4 (setI (setI (setI (setI (setI v4 0 5 0) 0 6 0) 0 7 0) 0 8 0) 0 37 0) := ((((Fr.set (by simp)).tr (Fr.set (by simp))).tr (Fr.set (by simp))).tr (Fr.set (by simp))).tr (Fr.set (by simp))
    have y5 : (setI (setI (setI (setI (setI v4 0 5 0) 0 6 0) 0 7 0) 0 8 0) 0 37 0).1 0 5 = nI 0 := by simp [setI1]; rfl
    have y6 : (setI (setI (setI (setI (setI v4 0 5 0) 0 6 0) 0 7 0) 0 8 0) 0 37 0).1 0 6 = nI 0 := by simp [setI1]; rfl
    have y7 : (setI (setI (setI (setI (setI v4 0 5 0) 0 6 0) 0 7 0) 0 8 0) 0 37 0).1 0 7 = nI 0 := by simp [setI1]; rfl
    have y8 : (setI (setI (setI (setI (setI v4 0 5 0) 0 6 0) 0 7 0) 0 8 0) 0 37 0).1 0 8 = 0 := by simp [setI1]
    have y37 : (setI (setI (setI (setI (setI v4 0 5 0) 0 6 0) 0 7 0) 0 8 0) 0 37 0).1 0 37 = nI 0 := by simp [setI1]; rfl
    generalize hv5 : setI (setI (setI (setI (setI v4 0 5 0) 0 6 0) 0 7 0) 0 8 0) 0 37 0 = v5 at *
    have y0 : v5.1 0 0 = nI m := by rw [G5.at' _ rfl, d2.at' _ rfl]; simp [setI1]
    have x0 : (setI w3 59 2 0).1 2 0 = nI m := by rw [F4.at' _ rfl]; exact c3.1.1
    refine ⟨nI m, setI w3 59 2 0, v5, ?_, eM _ ?_, h.txt (F12.tr ((c2.wd (fun o k q => by simp [Tbc] at q ⊢; omega)).tr (F4.wd (fun o k q => by simp [Tbc] at q ⊢; omega)))) (G12.tr ((G3.fm.wd (fun o k q => by simp [Tbm] at q ⊢; omega)).tr ((d2.fm.wd (fun o k q => by simp [Tbm] at q ⊢; omega)).tr (G5.fm.wd (fun o k q => by simp [Tbm] at q ⊢; omega))))) ⟨m, jRF F, G, fun _ => 0, fun _ => 0, 0, 0, 0, 0, List.range m, ⟨j1, ?_, ?_, List.Perm.refl _⟩, c3.fr F4 (fun i hi k => by simp; omega), ?_⟩ (tp ?_ ?_) ⟨0, by omega, ?_, y37, ?_⟩⟩
    · simp only [fX11_board, a1, bd2_some', fX8_useUp, lw_eq, hw2, bd_some', hr, if_true, c1, x0]
    · have hne : ¬ v2.1 0 22 = 0 := by rw [G2.at' _ rfl, hgood]; decide
      have h25 : v2.1 0 25 = nI m := by rw [G2.at' _ rfl]; exact j3
      obtain ⟨w55, e1, e2⟩ : ∃ w55, wh (lbX12_board_152_3 N) N (0, setI v2 0 0 (nI m)) = some w55 ∧ bd (wh (lbX12_board_222_4 N) N (0, w55)) (fun w60 => wh (lbX12_board_247_5 N) N (0, w60)) = some v4 := by
        cases hq : wh (lbX12_board_152_3 N) N (0, setI v2 0 0 (nI m)) with
        | none => rw [hq] at d1; cases d1
        | some w55 => rw [hq] at d1; exact ⟨w55, rfl, d1⟩
      obtain ⟨w60, e3, e4⟩ : ∃ w60, wh (lbX12_board_222_4 N) N (0, w55) = some w60 ∧ wh (lbX12_board_247_5 N) N (0, w60) = some v4 := by
        cases hq : wh (lbX12_board_222_4 N) N (0, w55) with
        | none => rw [hq] at e2; cases e2
        | some w60 => rw [hq] at e2; exact ⟨w60, rfl, e2⟩
      simp only [bX12_board_122, lw_eq, hv2, hne, if_false, h25, e1, bd_some', e3, e4, hv5, y0]
    · intro x hx
      obtain ⟨f0, f1, f2, f3, f4, f5⟩ := j5 x hx
      simp only [jRF, jR, Nat.one_ne_zero, if_true, if_false, Nat.reduceEqDiff]
      refine ⟨f0, ?_, ?_, f3, by omega, f5⟩ <;> split <;> omega
    · exact ⟨l4.1, l4.2.1, l4.2.2.1, l4.2.2.2.1, l4.2.2.2.2, fun i hi => by show 0 ≤ 9; omega, fun i hi => by show 0 ≤ 9; omega, by omega, by omega, by omega⟩
    · refine ⟨d3.fr G5 (fun k => rfl), ⟨fun i hi => by rw [G5.at' _ rfl]; exact d4 i hi, fun i hi => by rw [G5.at' _ rfl]; exact d5 i hi, fun i hi => by rw [G5.at' _ rfl]; exact d6 i hi, y5, y6, y7⟩, fun i v hv => by rw [G5.at' _ rfl]; exact d7 i v hv, y0, y8⟩
    · rw [F4.at' _ rfl, c2.at' _ (by simp)]; exact t1
    · rw [G5.at' _ rfl, d2.at' _ rfl, G3.at' _ rfl]; exact t2
    · simp [setI1]; rfl
    · obtain ⟨m0, r1, r2, r3, r4⟩ := h.2.2.2.2.1
      intro k hk
      rw [F4.at' _ (by simp), c2.at' _ (by simp), F12.at' _ rfl, G5.at' _ rfl, d2.at' _ rfl, G3.at' _ rfl, G12.at' _ rfl]
      exact r4 k hk
  · have hpn : ¬ nI p < 0 := by rw [n0, nlt (by omega) (by omega)]; omega
    have hbad2 : v2.1 0 22 = 0 := by rw [G2.at' _ rfl]; exact hbad
    have hpos2 : v2.1 0 18 = nI p := by rw [G2.at' _ rfl]; exact hpos
    have gg : Fr TRM wM (wm.1, wM.2) := ⟨g1.1, rfl⟩
    have gg2 : Fr (fun o k => TRM o k || (o == 0 && k == 16)) wM (v2.1, wM.2) := ⟨fun o k q => by
      simp only [Bool.or_eq_false_iff] at q
      show v2.1 o k = _
      rw [G2.at' _ q.2]; exact g1.1 o k q.1, rfl⟩
    have ff2 : Fr (fun o k => TR o k || (o == 37 && k == 1)) wC w2 := (f1.wd (fun o k q => by simp only [Bool.or_eq_false_iff] at q; exact q.1)).tr (F2.wd (fun o k q => by simp only [Bool.or_eq_false_iff] at q; exact q.2))
    have hb := h.1.fr ff2 gg2 (fun o k q1 q2 => by simp [TR, TCj, TCf]; omega) (fun o k hk => by simp [mB] at hk; simp [TRM, TMj, TMf]; omega)
    have hrr := h.2.2.2.2.1.fr ff2 gg2 rfl (fun k => rfl) rfl (fun k => rfl)
    refine ⟨-100 - nI p, w2, v2, ?_, eM _ ?_, h.txt F12 G12 hb (tp t1 t2) hrr⟩
    · simp only [fX11_board, a1, bd2_some', fX8_useUp, lw_eq, hw2, bd_some', hpn, if_false]
    · simp only [bX12_board_122, lw_eq, hv2, hbad2, if_true, hpos2]
theorem st_board {wC wM : AW} (h : Rel wC wM) : ∃ r wC' wM', fX11_board N0 wC = some (r, wC') ∧ fX12_board N0 wM = some (r, wM') ∧ Rel wC' wM' := board_ev h N0_big
