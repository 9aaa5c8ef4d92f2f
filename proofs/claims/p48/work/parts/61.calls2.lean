/-! 61: across, nights, the odds -/
section
variable {n : Nat} {J : Nat → Nat → Nat} {L lost nig : Nat → Nat} {day col left : Nat} {till : Int32} {p : List Nat} {w : AW}
theorem c_across (ok : okB n J L lost nig day col left p) (hc : CBd 1 n J L lost nig day col left till p w) (a0 : Int32) (hr : wI a0 0 1 = 1) :
    ∃ w', fX11_across N0 a0 w = some (if a0 = 0 then (acr (Vb (dyS (sOf L lost nig) day) (L 1) col left (L 2) J n) (J 4) n).1 else zI (acr (Vb (dyS (sOf L lost nig) day) (L 1) col left (L 2) J n) (J 4) n).2, w') ∧ Fr TB w w' ∧ CBd 1 n J L lost nig day col left till p w'
      ∧ (∀ i, i ≤ n → -3000 ≤ (acr (Vb (dyS (sOf L lost nig) day) (L 1) col left (L 2) J n) (J 4) i).2 ∧ (acr (Vb (dyS (sOf L lost nig) day) (L 1) col left (L 2) J n) (J 4) i).2 ≤ 3000) := by
  have hN := N0_big
  obtain ⟨w1, m1, m2, m3, m4, m5⟩ := meas_ev (lg := 0) (N := N0) ok hc (by omega) (by omega)
  rw [sLg0] at m3 m5
  rw [show nI 0 = 0 from rfl] at m1
  obtain ⟨hn, bj, b, hp⟩ := ok
  have evC : ∀ w x bI, ((bI = -9 ∧ x = 6) ∨ (bI = nI x ∧ x < n)) → Fr TL w1 w → ∃ w', fX5_mostWorth N0 2 bI w = some (zI (Vb (dyS (sOf L lost nig) day) (L 1) col left (L 2) J n x), w') ∧ Fr TL w1 w' ∧ -2000 ≤ Vb (dyS (sOf L lost nig) day) (L 1) col left (L 2) J n x ∧ Vb (dyS (sOf L lost nig) day) (L 1) col left (L 2) J n x ≤ 2000 := by
    intro w x bI hx hF
    obtain ⟨w2, mo, ch, g1, g2, -, g5, g6, g4⟩ := mostWorth_ev (o := 2) (N := N0) (b := x) (bI := bI) m5 bj hn (Or.inl rfl) (by omega) hx (m3.fr hF (fun k => rfl) (fun k => rfl)) (m4.1.fr hF (TL_o (Or.inl rfl)))
    have : mo = Vb (dyS (sOf L lost nig) day) (L 1) col left (L 2) J n x := congrArg Prod.fst g4
    subst this
    exact ⟨w2, g1, hF.tr g2, g5, g6⟩
  obtain ⟨w2, g1, g2, g3⟩ := evC w1 6 (-9) (Or.inl ⟨rfl, rfl⟩) Fr.rf
  have hVb : ∀ i, i < n → -2000 ≤ Vb (dyS (sOf L lost nig) day) (L 1) col left (L 2) J n i ∧ Vb (dyS (sOf L lost nig) day) (L 1) col left (L 2) J n i ≤ 2000 := fun i hi => by
    obtain ⟨-, -, -, h1⟩ := evC w1 i (nI i) (Or.inr ⟨rfl, hi⟩) Fr.rf
    exact h1
  generalize hV : Vb (dyS (sOf L lost nig) day) (L 1) col left (L 2) J n = V at *
  have hab := acr_bd (V := V) (pr := J 4) (n := n) g3 hVb (fun i hi => (bj i hi).2.2.2.2.2)
  have keyC := wh_cnt (body := lbX11_across_47_1 N0 a0) (n := n)
    (I := fun i s => ∃ w, s = ((acr V (J 4) i).1, zI (acr V (J 4) i).2, nI i, w) ∧ Fr TL w1 w)
    (Q := fun e => ∃ w, e = ((acr V (J 4) n).1, zI (acr V (J 4) n).2, w) ∧ Fr TL w1 w)
    ?_ ?_ (N := N0) (i := 0) (s := (-9, zI (V 6), 0, w2)) ⟨w2, rfl, g2⟩ (Nat.zero_le _) (by omega)
  · obtain ⟨e, e1, w3, rfl, e2⟩ := keyC
    have hF : Fr TB w w3 := (m2.wd (fun o k q => TB_M4 q)).tr (e2.wd (fun o k q => TB_L q))
    refine ⟨w3, ?_, hF, hc.tb (b := 1) hF (fun o k q => q), hab⟩
    simp only [fX11_across, within_ev, hr, bd_some', m1, g1, bd2_some', e1]
    rw [if_neg (by decide)]
    split <;> rfl
  · rintro i s hi ⟨w, rfl, hF⟩
    obtain ⟨w', q1, q2, -⟩ := evC w i (nI i) (Or.inr ⟨rfl, hi⟩) hF
    have hJ' := m4.1.fr q2 (TL_o (Or.inl rfl))
    have hJ0 := m4.1.fr hF (TL_o (Or.inl rfl))
    have e4 : w'.1 7 i = nI (J 4 i) := (hJ'.2 i hi).2.2.2.2
    have hcnt : w.1 2 0 = nI n := hJ0.1
    have hbi := (bj i hi).2.2.2.2.2
    have ha := hab i (by omega)
    have hvi := hVb i hi
    have hs : zI (V i) + nI (J 4 i) / 2 = zI (V i + ((J 4 i / 2 : Nat) : Int)) := by rw [n2, ndiv (by omega) (by omega) (by omega), zI_nI, zadd]
    refine ⟨((acr V (J 4) (i + 1)).1, zI (acr V (J 4) (i + 1)).2, nI (i + 1), w'), ?_, w', rfl, q2⟩
    have hnn : ¬ nI n ≤ nI i := by rw [nle (by omega) (by omega)]; omega
    have h1i : nI i + 1 = nI (i + 1) := by rw [n1, nadd]
    simp only [lbX11_across_47_1, hcnt, hnn, if_false, q1, bd2_some', gd_n (show i < 6 by omega) (show i ≤ 2147483647 by omega), ntn (show i ≤ 2147483647 by omega), e4, lw_eq, hs, acr]
    by_cases hcd : V i + ((J 4 i / 2 : Nat) : Int) ≤ (acr V (J 4) i).2
    · have hz : zI (V i + ((J 4 i / 2 : Nat) : Int)) ≤ zI (acr V (J 4) i).2 := by rw [zle (by omega) (by omega) (by omega) (by omega)]; exact hcd
      simp only [hz, hcd, if_true, h1i]
    · have hz : ¬ zI (V i + ((J 4 i / 2 : Nat) : Int)) ≤ zI (acr V (J 4) i).2 := by rw [zle (by omega) (by omega) (by omega) (by omega)]; exact hcd
      simp only [hz, hcd, if_false, h1i]
  · rintro s ⟨w, rfl, hF⟩
    have hJ0 := m4.1.fr hF (TL_o (Or.inl rfl))
    have hcnt : w.1 2 0 = nI n := hJ0.1
    refine ⟨_, ?_, w, rfl, hF⟩
    simp only [lbX11_across_47_1, hcnt, Int32.le_refl, if_true]
theorem nights_in (ok : okB n J L lost nig day col left p) (hc : CBd 1 n J L lost nig day col left till p w) :
    ∀ d lg : Nat, 1 ≤ lg → lg + d = 10 → ∀ (w1 : AW) (M : Nat), Fr TB w w1 → d < M → ∃ w1', Fr TB w w1' ∧
      (wh (lbX11_nights_2_1 N0) M (nI lg, w1) = some (.inl w1') ∨ ∃ k, 1 ≤ k ∧ k ≤ 9 ∧ wh (lbX11_nights_2_1 N0) M (nI lg, w1) = some (.inr (nI k, w1'))) := by
  have hN := N0_big
  intro d
  induction d with
  | zero =>
    intro lg hl1 hlg w1 M hf1 hM
    obtain ⟨M, rfl⟩ : ∃ k, M = k + 1 := ⟨M - 1, by omega⟩
    have : lg = 10 := by omega
    subst this
    exact ⟨w1, hf1, Or.inl (wh_out rfl)⟩
  | succ d ih =>
    intro lg hl1 hlg w1 M hf1 hM
    obtain ⟨M, rfl⟩ : ∃ k, M = k + 1 := ⟨M - 1, by omega⟩
    have c1 := hc.tb (b := 1) hf1 (fun o k q => q)
    obtain ⟨w3, w4, le, ch, e1, e2, e3, e4, e5, e6⟩ := fewC_ev (lg := lg) (N := N0) ok c1 (by omega) (by omega)
    have h9C : ¬ (9 : Int32) < nI lg := by rw [n9, nlt (by omega) (by omega)]; omega
    have h1l : nI lg + 1 = nI (lg + 1) := by rw [n1, nadd]
    by_cases hle : le = 0
    · refine ⟨w4, hf1.tr e3, Or.inr ⟨lg, hl1, by omega, wh_out ?_⟩⟩
      simp only [lbX11_nights_2_1, h9C, if_false, e1, bd_some', e2, bd2_some', hle, show nI 0 = 0 from rfl, if_true]
    · have hle2 : ¬ nI le = 0 := by rw [n0, neq (by omega) (by omega)]; exact hle
      have s1 : lbX11_nights_2_1 N0 (nI lg, w1) = some (.inl (nI (lg + 1), w4)) := by
        simp only [lbX11_nights_2_1, h9C, if_false, e1, bd_some', e2, bd2_some', hle2, h1l]
      rw [wh_step s1]
      exact ih (lg + 1) (by omega) (by omega) w4 M (hf1.tr e3) (by omega)
theorem c_nights (ok : okB n J L lost nig day col left p) (hc : CBd 1 n J L lost nig day col left till p w) :
    ∃ r w', fX11_nights N0 w = some (r, w') ∧ Fr TB w w' ∧ CBd 1 n J L lost nig day col left till p w' ∧ (r = 0 ↔ few (dyS (sOf L lost nig) day) (L 1) col left J n = 0) := by
  have hN := N0_big
  obtain ⟨w3, w4, le, ch, e1, e2, e3, e4, e5, e6⟩ := fewC_ev (lg := 0) (N := N0) ok hc (by omega) (by omega)
  rw [sLg0] at e6
  have hle : le = few (dyS (sOf L lost nig) day) (L 1) col left J n := congrArg Prod.fst e6
  subst hle
  have h9C : ¬ (9 : Int32) < nI 0 := by decide
  obtain ⟨M, hM⟩ : ∃ k, N0 = k + 1 := ⟨N0 - 1, by omega⟩
  by_cases hle : few (dyS (sOf L lost nig) day) (L 1) col left J n = 0
  · refine ⟨0, w4, ?_, e3, hc.tb (b := 1) e3 (fun o k q => q), by simp [hle]⟩
    have : wh (lbX11_nights_2_1 N0) N0 (0, w) = some (.inr (0, w4)) := by
      rw [show wh (lbX11_nights_2_1 N0) N0 (0, w) = wh (lbX11_nights_2_1 N0) (M + 1) (0, w) by rw [← hM]]
      refine wh_out ?_
      rw [show (0 : Int32) = nI 0 from rfl]
      simp only [lbX11_nights_2_1, h9C, if_false, e1, bd_some', e2, bd2_some', hle, if_true]
      rfl
    simp only [fX11_nights, this, bd_some', se]
  · have hle2 : ¬ nI (few (dyS (sOf L lost nig) day) (L 1) col left J n) = 0 := by rw [n0, neq (by omega) (by omega)]; exact hle
    have s1 : lbX11_nights_2_1 N0 (0, w) = some (.inl (nI 1, w4)) := by
      rw [show (0 : Int32) = nI 0 from rfl]
      simp only [lbX11_nights_2_1, h9C, if_false, e1, bd_some', e2, bd2_some']
      rw [if_neg hle2]; rfl
    obtain ⟨w5, f1, h1⟩ := nights_in ok hc 9 1 (by omega) (by omega) w4 M e3 (by omega)
    have e0 : wh (lbX11_nights_2_1 N0) N0 (0, w) = wh (lbX11_nights_2_1 N0) M (nI 1, w4) := by
      rw [show wh (lbX11_nights_2_1 N0) N0 (0, w) = wh (lbX11_nights_2_1 N0) (M + 1) (0, w) by rw [← hM]]
      exact wh_step s1
    rcases h1 with h1 | ⟨k, k1, k2, h1⟩
    · refine ⟨-3, w5, by simp only [fX11_nights, e0, h1, bd_some', se], f1, hc.tb (b := 1) f1 (fun o k q => q), ?_⟩
      simp only [hle, iff_false]; decide
    · refine ⟨nI k, w5, by simp only [fX11_nights, e0, h1, bd_some', se], f1, hc.tb (b := 1) f1 (fun o k q => q), ?_⟩
      rw [n0, neq (by omega) (by omega)]
      simp only [hle, iff_false]; omega
theorem pow4i {n : Nat} (hn : n ≤ 6) : (1 : Int) ≤ (4 : Int) ^ n ∧ (4 : Int) ^ n ≤ 4096 := by
  have h1 : ((4 ^ n : Nat) : Int) ≤ ((4096 : Nat) : Int) := by have := four_le hn; omega
  have h2 : 1 ≤ 4 ^ n := Nat.one_le_pow _ _ (by omega)
  have h3 : ((4 ^ n : Nat) : Int) = (4 : Int) ^ n := by simp
  omega
theorem c_sure (ok : okB n J L lost nig day col left p) (hc : CBd 1 n J L lost nig day col left till p w) (a0 : Int32) (hr : wI a0 0 1 = 1) :
    ∃ w', fX11_sure N0 a0 w = some (if a0 = 0 then zI (rdc (svL (dyS (sOf L lost nig) day) (L 1) col left (L 3) J 0 0 p) (2 * n)).1 else nI (2 ^ (rdc (svL (dyS (sOf L lost nig) day) (L 1) col left (L 3) J 0 0 p) (2 * n)).2), w') ∧ Fr TB w w' ∧ CBd 1 n J L lost nig day col left till p w' := by
  have hN := N0_big
  obtain ⟨w1, m1, m2, m3, m4, m5⟩ := meas_ev (lg := 0) (N := N0) ok hc (by omega) (by omega)
  rw [sLg0] at m3 m5
  rw [show nI 0 = 0 from rfl] at m1
  obtain ⟨hn, bj, b, hp⟩ := ok
  obtain ⟨hpl, hpm, hnd, hall⟩ := perm_facts hp
  obtain ⟨⟨w2, g1, g2⟩, -⟩ := sureMean_ev (N := N0) m3 m4.1 m5 bj hn (by omega) m4.2.2.2.2.1 hpl hpm
  have hbd := svL_bd (dy := dyS (sOf L lost nig) day) (st := L 1) (c0 := col) (l0 := left) (J := J) (l := p) (u := 0) (was := 0) b.2.2.2.2.1
  rw [hpl] at hbd
  have h4i := pow4i hn
  have hF : Fr TB w w2 := (m2.wd (fun o k q => TB_M4 q)).tr (g2.wd (fun o k q => TB_C q))
  generalize hV : svL (dyS (sOf L lost nig) day) (L 1) col left (L 3) J 0 0 p = v at *
  have cnt : w2.1 2 0 = nI n := (m4.tb (b := 1) g2 (fun o k q => TB_C q)).1.1
  have pe := partOf_ev (a := v) (t := 2 * n) (N := N0) (part := a0) (w := w2) (by omega) (by omega) (by omega) (by omega)
  refine ⟨w2, ?_, hF, hc.tb (b := 1) hF (fun o k q => q)⟩
  have e2n : (2 : Int32) * nI n = nI (2 * n) := by rw [n2, nmul]
  simp only [fX11_sure, within_ev, hr, bd_some', m1, g1, bd2_some', cnt, e2n, pe]
  rw [if_neg (by decide)]
theorem c_mean (ok : okB n J L lost nig day col left p) (hc : CBd 1 n J L lost nig day col left till p w) (a0 : Int32) (hr : wI a0 0 1 = 1) :
    ∃ w', fX11_mean N0 a0 w = some (if a0 = 0 then zI (rdc (mvL (dyS (sOf L lost nig) day) (L 1) col left (L 2) (L 3) J 0 0 p) (2 * n)).1 else nI (2 ^ (rdc (mvL (dyS (sOf L lost nig) day) (L 1) col left (L 2) (L 3) J 0 0 p) (2 * n)).2), w') ∧ Fr TB w w' ∧ CBd 1 n J L lost nig day col left till p w' := by
  have hN := N0_big
  obtain ⟨w1, m1, m2, m3, m4, m5⟩ := meas_ev (lg := 0) (N := N0) ok hc (by omega) (by omega)
  rw [sLg0] at m3 m5
  rw [show nI 0 = 0 from rfl] at m1
  obtain ⟨hn, bj, b, hp⟩ := ok
  obtain ⟨hpl, hpm, hnd, hall⟩ := perm_facts hp
  obtain ⟨-, ⟨w2, g1, g2⟩⟩ := sureMean_ev (N := N0) m3 m4.1 m5 bj hn (by omega) m4.2.2.2.2.1 hpl hpm
  have hbd := mvL_bd (dy := dyS (sOf L lost nig) day) (st := L 1) (c0 := col) (l0 := left) (odds := L 3) (u := 0) (was := 0) bj b.2.2.2.1 b.2.2.2.2.1 hpm
  rw [hpl] at hbd
  have h4i : (n : Int) * (4 : Int) ^ n ≤ 24576 ∧ 0 ≤ (n : Int) * (4 : Int) ^ n := by
    have h1 : n * 4 ^ n ≤ 6 * 4096 := Nat.mul_le_mul hn (four_le hn)
    have : (n : Int) * (4 : Int) ^ n = ((n * 4 ^ n : Nat) : Int) := by simp
    omega
  have hF : Fr TB w w2 := (m2.wd (fun o k q => TB_M4 q)).tr (g2.wd (fun o k q => TB_C q))
  generalize hV : mvL (dyS (sOf L lost nig) day) (L 1) col left (L 2) (L 3) J 0 0 p = v at *
  have cnt : w2.1 2 0 = nI n := (m4.tb (b := 1) g2 (fun o k q => TB_C q)).1.1
  have pe := partOf_ev (a := v) (t := 2 * n) (N := N0) (part := a0) (w := w2) (by omega) (by omega) (by omega) (by omega)
  refine ⟨w2, ?_, hF, hc.tb (b := 1) hF (fun o k q => q)⟩
  have e2n : (2 : Int32) * nI n = nI (2 * n) := by rw [n2, nmul]
  simp only [fX11_mean, within_ev, hr, bd_some', m1, g1, bd2_some', cnt, e2n, pe]
  rw [if_neg (by decide)]
theorem c_safest (ok : okB n J L lost nig day col left p) (hc : CBd 1 n J L lost nig day col left till p w) (m : Nat) (hm : m = 1 ∨ m = 2) :
    ∃ w', fX11_safest N0 (nI m) w = some (if m = 1 then zI (rdc (sfe (dyS (sOf L lost nig) day) (L 1) col left (L 3) J n).1 (2 * n)).1 else nI (2 ^ (rdc (sfe (dyS (sOf L lost nig) day) (L 1) col left (L 3) J n).1 (2 * n)).2), w') ∧ Fr TB w w' ∧ CBd 1 n J L lost nig day col left till p w'
      ∧ -1 ≤ (sfe (dyS (sOf L lost nig) day) (L 1) col left (L 3) J n).1 ∧ (sfe (dyS (sOf L lost nig) day) (L 1) col left (L 3) J n).1 ≤ 5000 := by
  have hN := N0_big
  have hr : wI (nI m) 0 2 = 1 := wI_of (lo := 0) (hi := 2) (by omega) (by omega) (by omega)
  obtain ⟨w1, m1, m2, m3, m4, m5⟩ := meas_ev (lg := 0) (N := N0) ok hc (by omega) (by omega)
  rw [sLg0] at m3 m5
  rw [show nI 0 = 0 from rfl] at m1
  obtain ⟨hn, bj, b, hp⟩ := ok
  obtain ⟨w2, mo, ch, g1, g2, g3, g5, g6, g4⟩ := surest_ev (N := N0) m3 m4.1 m5 bj hn (by omega)
  have hmo : mo = (sfe (dyS (sOf L lost nig) day) (L 1) col left (L 3) J n).1 := congrArg Prod.fst g4
  have hF : Fr TB w w2 := (m2.wd (fun o k q => TB_M4 q)).tr (g2.wd (fun o k q => TB_D q))
  have cnt : w2.1 2 0 = nI n := (m4.tb (b := 1) g2 (fun o k q => TB_D q)).1.1
  rw [← hmo]
  have pe : ∀ part, fX11_partOf N0 (zI mo) (nI (2 * n)) part w2 = some (if part = 0 then zI (rdc mo (2 * n)).1 else nI (2 ^ (rdc mo (2 * n)).2)) := fun part => partOf_ev (a := mo) (t := 2 * n) (N := N0) (part := part) (w := w2) (by omega) (by omega) (by omega) (by omega)
  have e2n : (2 : Int32) * nI n = nI (2 * n) := by rw [n2, nmul]
  refine ⟨w2, ?_, hF, hc.tb (b := 1) hF (fun o k q => q), g5, g6⟩
  have h10 : ¬ (1 : Int32) = 0 := by decide
  simp only [fX11_safest, within_ev, hr, bd_some', m1, g1, bd2_some', cnt, e2n, pe, h10, if_false]
  rcases hm with rfl | rfl
  · simp only [show ¬ nI 1 = (0 : Int32) by decide, show nI 1 - 1 = (0 : Int32) from rfl, if_true, if_false]
  · simp only [show ¬ nI 2 = (0 : Int32) by decide, show ¬ nI 2 - 1 = (0 : Int32) by decide, show ¬ (2 = 1) by decide, if_false]
end
