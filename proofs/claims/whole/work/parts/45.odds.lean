/-! 45: across, nights, sure, mean, safest -/
def Vb (dy : Nat → Nat) (st c0 l0 fine : Nat) (J : Nat → Nat → Nat) (n b : Nat) : Int := ((prm n b).foldl (bestG (fun p => wN dy st c0 l0 fine J (J 1) (lf p) p.length)) (-2147483648, [])).1
def acr (V : Nat → Int) (pr : Nat → Nat) : Nat → Int32 × Int
  | 0 => (-9, V 6)
  | i + 1 => if V i + ((pr i / 2 : Nat) : Int) ≤ (acr V pr i).2 then acr V pr i else (nI i, V i + ((pr i / 2 : Nat) : Int))
theorem acr_bd {V : Nat → Int} {pr : Nat → Nat} {n : Nat} (h6 : -2000 ≤ V 6 ∧ V 6 ≤ 2000) (hV : ∀ i, i < n → -2000 ≤ V i ∧ V i ≤ 2000) (hp : ∀ i, i < n → pr i ≤ 99) : ∀ i, i ≤ n → -3000 ≤ (acr V pr i).2 ∧ (acr V pr i).2 ≤ 3000 := by
  intro i
  induction i with
  | zero => intro _; simp only [acr]; omega
  | succ i ih =>
    intro h
    have h1 := hV i (by omega)
    have h2 := hp i (by omega)
    rw [acr]
    split
    · exact ih (by omega)
    · simp only []; omega
theorem job_iff {n b : Nat} (hb : b < n) (hn : n ≤ 6) : ∀ j, j < n → ((nI j = nI b) ↔ j = b) := fun j hj => by rw [neq (by omega) (by omega)]
theorem mB_TO {o k : Nat} (q : mB o k = true) : TO o k = false := TO_p (by
  simp only [mB, Bool.or_eq_true, Bool.and_eq_true, beq_iff_eq] at q
  simp only [pM, Bool.or_eq_true, Bool.and_eq_true, beq_iff_eq, decide_eq_true_eq]; omega)
theorem st_across {wC wM : AW} (h : Rel wC wM) (a0 : Int32) : ∃ r wC' wM', fX11_across N0 a0 wC = some (r, wC') ∧ fX12_across N0 a0 wM = some (r, wM') ∧ Rel wC' wM' := by
  obtain ⟨n, J, L, lost, nig, day, col, left, till, p, ok, hc, hm⟩ := h.1
  rcases wI_01 a0 0 1 with hr | hr
  · exact ⟨-2147483648, wC, wM, by simp only [fX11_across, within_ev, hr, bd_some', if_true], by simp only [fX12_across, isSide_ev, hr, bd_some', if_true], h⟩
  · have hN := N0_big
    obtain ⟨w1, m1, m2, m3, m4, m5⟩ := meas_ev (lg := 0) (N := N0) ok hc (by omega) (by omega)
    rw [sLg0] at m3 m5
    rw [show nI 0 = 0 from rfl] at m1
    obtain ⟨hn, bj, b, hp⟩ := ok
    have evC : ∀ w x bI, ((bI = -9 ∧ x = 6) ∨ (bI = nI x ∧ x < n)) → Fr TL w1 w → ∃ w', fX5_mostWorth N0 2 bI w = some (zI (Vb (dyS (sOf L lost nig) day) (L 1) col left (L 2) J n x), w') ∧ Fr TL w1 w' ∧ -2000 ≤ Vb (dyS (sOf L lost nig) day) (L 1) col left (L 2) J n x ∧ Vb (dyS (sOf L lost nig) day) (L 1) col left (L 2) J n x ≤ 2000 := by
      intro w x bI hx hF
      obtain ⟨w2, mo, ch, g1, g2, -, g5, g6, g4⟩ := mostWorth_ev (o := 2) (N := N0) (b := x) (bI := bI) m5 bj hn (Or.inl rfl) (by omega) hx (m3.fr hF (fun k => rfl) (fun k => rfl)) (m4.1.fr hF (TL_o (Or.inl rfl)))
      have : mo = Vb (dyS (sOf L lost nig) day) (L 1) col left (L 2) J n x := congrArg Prod.fst g4
      subst this
      exact ⟨w2, g1, hF.tr g2, g5, g6⟩
    have evM : ∀ w x bI, x ≤ 6 → (∀ j, j < n → ((nI j = bI) ↔ j = x)) → Fr TO wM w → ∃ w', fX12_mostOfAll N0 (nI n) bI w = some (zI (Vb (dyS (sOf L lost nig) day) (L 1) col left (L 2) J n x), w') ∧ Fr TO wM w' := by
      intro w x bI hx hb hF
      have hw : MBd n J L lost nig day col left till p w := hm.fr hF (fun o k q => mB_TO q)
      obtain ⟨w2, mo, ch, k1, k2, -, k4⟩ := mostOfAll_ev (bb := x) (bI := bI) (N := N0) hw.1 hw.2.1 b bj hn hx hb (by omega)
      have : mo = Vb (dyS (sOf L lost nig) day) (L 1) col left (L 2) J n x := congrArg Prod.fst k4
      subst this
      exact ⟨w2, k1, hF.tr k2⟩
    obtain ⟨w2, g1, g2, g3⟩ := evC w1 6 (-9) (Or.inl ⟨rfl, rfl⟩) Fr.rf
    obtain ⟨v1, k1, k2⟩ := evM wM 6 (-1) (by omega) (neg1_iff hn) Fr.rf
    have hVb : ∀ i, i < n → -2000 ≤ Vb (dyS (sOf L lost nig) day) (L 1) col left (L 2) J n i ∧ Vb (dyS (sOf L lost nig) day) (L 1) col left (L 2) J n i ≤ 2000 := fun i hi => by
      obtain ⟨-, -, -, h1⟩ := evC w1 i (nI i) (Or.inr ⟨rfl, hi⟩) Fr.rf
      exact h1
    generalize hV : Vb (dyS (sOf L lost nig) day) (L 1) col left (L 2) J n = V at *
    have hab := acr_bd (V := V) (pr := J 4) (n := n) g3 hVb (fun i hi => (bj i hi).2.2.2.2.2)
    have keyC := wh_cnt (body := lbX11_across_47_1 N0 a0) (n := n)
      (I := fun i s => ∃ w, s = ((acr V (J 4) i).1, zI (acr V (J 4) i).2, nI i, w) ∧ Fr TL w1 w)
      (Q := fun e => ∃ w, e = ((acr V (J 4) n).1, zI (acr V (J 4) n).2, w) ∧ Fr TL w1 w)
      ?_ ?_ (N := N0) (i := 0) (s := (-9, zI (V 6), 0, w2)) ⟨w2, rfl, g2⟩ (Nat.zero_le _) (by omega)
    · have keyM := wh_cnt (body := lbX12_across_27_1 N0 a0) (n := n)
        (I := fun i s => ∃ w, s = ((acr V (J 4) i).1, zI (acr V (J 4) i).2, nI i, w) ∧ Fr TO wM w)
        (Q := fun e => ∃ w, e = ((acr V (J 4) n).1, zI (acr V (J 4) n).2, w) ∧ Fr TO wM w)
        ?_ ?_ (N := N0) (i := 0) (s := (-9, zI (V 6), 0, v1)) ⟨v1, rfl, k2⟩ (Nat.zero_le _) (by omega)
      · obtain ⟨e, e1, w3, rfl, e2⟩ := keyC
        obtain ⟨e', f1, v3, rfl, f2⟩ := keyM
        refine ⟨if a0 = 0 then (acr V (J 4) n).1 else zI (acr V (J 4) n).2, w3, v3, ?_, ?_, h.scr ((m2.wd (fun o k q => TB_M4 q)).tr (e2.wd (fun o k q => TB_L q))) f2 (fun o k q => TB_p q) (fun o k q => TO_p q)⟩
        · simp only [fX11_across, within_ev, hr, bd_some', m1, g1, bd2_some', e1]
          rw [if_neg (by decide)]
          split <;> rfl
        · simp only [fX12_across, isSide_ev, hr, bd_some', hm.2.2.2.1, k1, bd2_some', f1]
          rw [if_neg (by decide)]
          split <;> rfl
      · rintro i s hi ⟨w, rfl, hF⟩
        obtain ⟨w', q1, q2⟩ := evM w i (nI i) (by omega) (job_iff hi hn) hF
        have hw : MBd n J L lost nig day col left till p w' := hm.fr q2 (fun o k q => mB_TO q)
        have hw0 : MBd n J L lost nig day col left till p w := hm.fr hF (fun o k q => mB_TO q)
        have e4 := its_ev hw.1 hi (by omega) (show 4 < 5 by omega)
        have hbi := (bj i hi).2.2.2.2.2
        have ha := hab i (by omega)
        have hvi := hVb i hi
        have hs : zI (V i) + nI (J 4 i) / 2 = zI (V i + ((J 4 i / 2 : Nat) : Int)) := by rw [n2, ndiv (by omega) (by omega) (by omega), zI_nI, zadd]
        refine ⟨((acr V (J 4) (i + 1)).1, zI (acr V (J 4) (i + 1)).2, nI (i + 1), w'), ?_, w', rfl, q2⟩
        have hnn : ¬ nI n ≤ nI i := by rw [nle (by omega) (by omega)]; omega
        have h1i : nI i + 1 = nI (i + 1) := by rw [n1, nadd]
        rw [show (nI 4 : Int32) = 4 from rfl] at e4
        simp only [lbX12_across_27_1, hw0.2.2.2.1, hnn, if_false, q1, bd2_some', e4, bd_some', hs, acr]
        by_cases hcd : V i + ((J 4 i / 2 : Nat) : Int) ≤ (acr V (J 4) i).2
        · have hz : zI (V i + ((J 4 i / 2 : Nat) : Int)) ≤ zI (acr V (J 4) i).2 := by rw [zle (by omega) (by omega) (by omega) (by omega)]; exact hcd
          simp only [hz, hcd, if_true, h1i]
        · have hz : ¬ zI (V i + ((J 4 i / 2 : Nat) : Int)) ≤ zI (acr V (J 4) i).2 := by rw [zle (by omega) (by omega) (by omega) (by omega)]; exact hcd
          simp only [hz, hcd, if_false, h1i]
      · rintro s ⟨w, rfl, hF⟩
        have hw0 : MBd n J L lost nig day col left till p w := hm.fr hF (fun o k q => mB_TO q)
        refine ⟨_, ?_, w, rfl, hF⟩
        simp only [lbX12_across_27_1, hw0.2.2.2.1, Int32.le_refl, if_true]
    · rintro i s hi ⟨w, rfl, hF⟩
      obtain ⟨w', q1, q2, -⟩ := evC w i (nI i) (Or.inr ⟨rfl, hi⟩) hF
      have hJ' := m4.1.fr q2 (TL_o (Or.inl rfl))
      have hJ0 := m4.1.fr hF (TL_o (Or.inl rfl))
      have e4 : w'.1 7 i = nI (J 4 i) := (hJ'.2 i hi).2.2.2.2
      have hcnt : w.1 2 0 = nI n := hJ0.1
      have hbi := (bj i hi).2.2.2.2.2
      have ha := hab i (by omega)
      have hvi := hVb i hi
      have hs : zI (V i) + nI (J 4 i) / 2 = zI (V i + ((J 4 i / 2 : Nat) : Int)) := by rw [n2, ndiv (by omega) (by omega) (by omega), zI_nI, zadd]
      refine ⟨((acr V (J 4) (i + 1)).1, zI (acr V (J 4) (i + 1)).2, nI (i + 1), w'), ?_, w', rfl, q2⟩
      have hnn : ¬ nI n ≤ nI i := by rw [nle (by omega) (by omega)]; omega
      have h1i : nI i + 1 = nI (i + 1) := by rw [n1, nadd]
      simp only [lbX11_across_47_1, hcnt, hnn, if_false, q1, bd2_some', gd_n (show i < 6 by omega) (show i ≤ 2147483647 by omega), ntn (show i ≤ 2147483647 by omega), e4, lw_eq, hs, acr]
      by_cases hcd : V i + ((J 4 i / 2 : Nat) : Int) ≤ (acr V (J 4) i).2
      · have hz : zI (V i + ((J 4 i / 2 : Nat) : Int)) ≤ zI (acr V (J 4) i).2 := by rw [zle (by omega) (by omega) (by omega) (by omega)]; exact hcd
        simp only [hz, hcd, if_true, h1i]
      · have hz : ¬ zI (V i + ((J 4 i / 2 : Nat) : Int)) ≤ zI (acr V (J 4) i).2 := by rw [zle (by omega) (by omega) (by omega) (by omega)]; exact hcd
        simp only [hz, hcd, if_false, h1i]
    · rintro s ⟨w, rfl, hF⟩
      have hJ0 := m4.1.fr hF (TL_o (Or.inl rfl))
      have hcnt : w.1 2 0 = nI n := hJ0.1
      refine ⟨_, ?_, w, rfl, hF⟩
      simp only [lbX11_across_47_1, hcnt, Int32.le_refl, if_true]
theorem nights_both {n : Nat} {J : Nat → Nat → Nat} {L lost nig : Nat → Nat} {day col left : Nat} {till : Int32} {p : List Nat} {wC wM : AW} (ok : okB n J L lost nig day col left p) (hc : CBd 1 n J L lost nig day col left till p wC) (hm : MBd n J L lost nig day col left till p wM) :
    ∀ d lg : Nat, lg + d = 10 → ∀ (w1 w2 : AW) (M : Nat), Fr TB wC w1 → Fr TO wM w2 → d < M → ∃ w1' w2', Fr TB wC w1' ∧ Fr TO wM w2' ∧
      ((wh (lbX11_nights_2_1 N0) M (nI lg, w1) = some (.inl w1') ∧ wh (lbX12_nights_2_1 N0) M (nI lg, w2) = some (.inl w2')) ∨ ∃ k, wh (lbX11_nights_2_1 N0) M (nI lg, w1) = some (.inr (k, w1')) ∧ wh (lbX12_nights_2_1 N0) M (nI lg, w2) = some (.inr (k, w2'))) := by
  have hN := N0_big
  intro d
  induction d with
  | zero =>
    intro lg hlg w1 w2 M hf1 hf2 hM
    obtain ⟨M, rfl⟩ : ∃ k, M = k + 1 := ⟨M - 1, by omega⟩
    have : lg = 10 := by omega
    subst this
    exact ⟨w1, w2, hf1, hf2, Or.inl ⟨wh_out rfl, wh_out rfl⟩⟩
  | succ d ih =>
    intro lg hlg w1 w2 M hf1 hf2 hM
    obtain ⟨M, rfl⟩ : ∃ k, M = k + 1 := ⟨M - 1, by omega⟩
    have c1 := hc.tb (b := 1) hf1 (fun o k q => q)
    have m1 : MBd n J L lost nig day col left till p w2 := hm.fr hf2 (fun o k q => mB_TO q)
    obtain ⟨w3, w4, le, ch, e1, e2, e3, e4, e5, e6⟩ := fewC_ev (lg := lg) (N := N0) ok c1 (by omega) (by omega)
    obtain ⟨hn, bj, b, hp⟩ := id ok
    obtain ⟨v3, g1, g2, g3⟩ := firstOrder_ev (N := N0) (w := w2) (b := 6) (bI := -1) hn (neg1_iff hn) (by omega)
    have g2' : Fr TO w2 v3 := g2.wd (fun o k q => by simp only [TO, Bool.or_eq_false_iff] at q; exact q.1.2)
    have m3 : MBd n J L lost nig day col left till p v3 := m1.fr g2' (fun o k q => mB_TO q)
    obtain ⟨v4, k1, k2⟩ := refNights_in (lg := lg) (N := N0) m3.1 m3.2.1 b bj hn (by omega) (by omega) g3
    have hz := zero_iff (c := fun p => ltN (dyS (sLg (sOf L lost nig) day lg) day) (L 1) col left J (J 1) (lf p) p.length) (L := prm n 6) (b := (1000000, []))
    rw [← e6] at hz
    simp only [show ¬ (1000000 = 0) by omega, false_or] at hz
    have h9C : ¬ (9 : Int32) < nI lg := by rw [n9, nlt (by omega) (by omega)]; omega
    have h10M : ¬ (10 : Int32) ≤ nI lg := by rw [n10, nle (by omega) (by omega)]; omega
    have h1l : nI lg + 1 = nI (lg + 1) := by rw [n1, nadd]
    by_cases hex : ∃ p ∈ prm n 6, ltN (dyS (sLg (sOf L lost nig) day lg) day) (L 1) col left J (J 1) (lf p) p.length = 0
    · rw [if_pos hex] at k2
      have hle : le = 0 := hz.mpr hex
      refine ⟨w4, v4, hf1.tr e3, hf2.tr (g2'.tr k1), Or.inr ⟨nI lg, wh_out ?_, wh_out ?_⟩⟩
      · simp only [lbX11_nights_2_1, h9C, if_false, e1, bd_some', e2, bd2_some', hle, show nI 0 = 0 from rfl, if_true]
      · simp only [lbX12_nights_2_1, h10M, if_false, m1.2.2.2.1, g1, bd2_some', k2, bd_some', se]
    · rw [if_neg hex] at k2
      have hle : le ≠ 0 := fun q => hex (hz.mp q)
      have hle2 : ¬ nI le = 0 := by rw [n0, neq (by omega) (by omega)]; exact hle
      have s1 : lbX11_nights_2_1 N0 (nI lg, w1) = some (.inl (nI (lg + 1), w4)) := by
        simp only [lbX11_nights_2_1, h9C, if_false, e1, bd_some', e2, bd2_some', hle2, h1l]
      have s2 : lbX12_nights_2_1 N0 (nI lg, w2) = some (.inl (nI (lg + 1), v4)) := by
        simp only [lbX12_nights_2_1, h10M, if_false, m1.2.2.2.1, g1, bd2_some', k2, bd_some', se, h1l]
      rw [wh_step s1, wh_step s2]
      exact ih (lg + 1) (by omega) w4 v4 M (hf1.tr e3) (hf2.tr (g2'.tr k1)) (by omega)
theorem st_nights {wC wM : AW} (h : Rel wC wM) : ∃ r wC' wM', fX11_nights N0 wC = some (r, wC') ∧ fX12_nights N0 wM = some (r, wM') ∧ Rel wC' wM' := by
  obtain ⟨n, J, L, lost, nig, day, col, left, till, p, ok, hc, hm⟩ := h.1
  have hN := N0_big
  obtain ⟨w1, w2, f1, f2, h1 | ⟨k, h1⟩⟩ := nights_both ok hc hm 10 0 (by omega) wC wM N0 Fr.rf Fr.rf (by omega)
  · rw [show nI 0 = 0 from rfl] at h1
    exact ⟨-3, w1, w2, by simp only [fX11_nights, h1.1, bd_some', se], by simp only [fX12_nights, h1.2, bd_some', se], h.scr f1 f2 (fun o k q => TB_p q) (fun o k q => TO_p q)⟩
  · rw [show nI 0 = 0 from rfl] at h1
    exact ⟨k, w1, w2, by simp only [fX11_nights, h1.1, bd_some', se], by simp only [fX12_nights, h1.2, bd_some', se], h.scr f1 f2 (fun o k q => TB_p q) (fun o k q => TO_p q)⟩
def TLo (o k : Nat) : Bool := TO o k || (o == 0 && (k == 32 || k == 33))
theorem TLo_p {o k : Nat} (h : pM o k = true) : TLo o k = false := by
  unfold TLo; rw [TO_p h]
  simp only [pM, Bool.or_eq_true, Bool.and_eq_true, beq_iff_eq, decide_eq_true_eq] at h
  simp; omega
theorem TLo_O {o k : Nat} (h : TLo o k = false) : TO o k = false := by simp only [TLo, Bool.or_eq_false_iff] at h; exact h.1
theorem TLo_l {o k : Nat} (h : TLo o k = false) : (o == 0 && (k == 32 || k == 33)) = false := by simp only [TLo, Bool.or_eq_false_iff] at h; exact h.2
theorem orderOfPlan_ev {n : Nat} {J : Nat → Nat → Nat} {L lost nig : Nat → Nat} {day col left N : Nat} {till : Int32} {p : List Nat} {w : AW} (ok : okB n J L lost nig day col left p) (h : MBd n J L lost nig day col left till p w) (hN : 300 < N) :
    ∃ w', fX12_orderOfPlan N w = some w' ∧ Fr TO w w' ∧ rowL (w'.1 12) p := by
  obtain ⟨h1, h2, h3, h4, h5⟩ := id h
  obtain ⟨hpl, hpm, hnd, hall⟩ := perm_facts ok.2.2.2
  have hn := ok.1
  obtain ⟨w1, e1, e2, e3⟩ := rowcopy_ev (n := n) (N := N) (w := w) (p := p) (lbX12_orderOfPlan_2_1 N) 7 (by omega) (fun i w1 hi h0 hr => by simp (disch := omega) only [lbX12_orderOfPlan_2_1, n0, n1, n2, n3, n4, n5, n6, n7, n8, n9, n10, n13, n16, n18, n20, n30, n32, n40, n48, n57, n59, n60, n64, n97, n99, n122, n126, n186, n200, n1000000, nadd, nmul, nlt, nle, neq, ntn, gd_n, lw_eq, bd_some', bd2_some', gd_true, h0, if_neg (show ¬ n ≤ i by omega)]) (fun w1 h0 => by simp (disch := omega) only [lbX12_orderOfPlan_2_1, n0, n1, n2, n3, n4, n5, n6, n7, n8, n9, n10, n13, n16, n18, n20, n30, n32, n40, n48, n57, n59, n60, n64, n97, n99, n122, n126, n186, n200, n1000000, nadd, nmul, nlt, nle, neq, ntn, gd_n, h0, Nat.le_refl, if_true]) h4 h3 hpl (by omega) hn
  exact ⟨w1, by simp only [fX12_orderOfPlan, e1, lw_eq, bd_some', bd2_some', gd_true], e2.wd (fun o k q => by simp only [TO, Bool.or_eq_false_iff] at q; exact q.1.2), e3⟩
theorem ltlt {n : Nat} (hn : n ≤ 6) : (1 : Int32) <<< ((2 * nI n) &&& 31) = nI (4 ^ n) := by rw [n2, nmul]; exact shl2 (by omega)
theorem st_sure {wC wM : AW} (h : Rel wC wM) (a0 : Int32) : ∃ r wC' wM', fX11_sure N0 a0 wC = some (r, wC') ∧ fX12_sure N0 a0 wM = some (r, wM') ∧ Rel wC' wM' := by
  obtain ⟨n, J, L, lost, nig, day, col, left, till, p, ok, hc, hm⟩ := h.1
  rcases wI_01 a0 0 1 with hr | hr
  · exact ⟨-1, wC, wM, by simp only [fX11_sure, within_ev, hr, bd_some', if_true], by simp only [fX12_sure, isSide_ev, hr, bd_some', if_true], h⟩
  · have hN := N0_big
    obtain ⟨w1, m1, m2, m3, m4, m5⟩ := meas_ev (lg := 0) (N := N0) ok hc (by omega) (by omega)
    rw [sLg0] at m3 m5
    rw [show nI 0 = 0 from rfl] at m1
    obtain ⟨v1, o1, o2, o3⟩ := orderOfPlan_ev (N := N0) ok hm (by omega)
    obtain ⟨hn, bj, b, hp⟩ := ok
    obtain ⟨hpl, hpm, hnd, hall⟩ := perm_facts hp
    obtain ⟨⟨w2, g1, g2⟩, -⟩ := sureMean_ev (N := N0) m3 m4.1 m5 bj hn (by omega) m4.2.2.2.2.1 hpl hpm
    have M1 : MBd n J L lost nig day col left till p v1 := hm.fr o2 (fun o k q => mB_TO q)
    obtain ⟨v2, k1, k2⟩ := sureOf_ev (N := N0) M1.1 M1.2.1 b bj hn M1.2.2.2.1 (by omega) o3 (perm_prm hn hp)
    have k2' : Fr TO v1 v2 := k2.wd (fun o k q => TW_TO q)
    have M2 : MBd n J L lost nig day col left till p v2 := M1.fr k2' (fun o k q => mB_TO q)
    have hbd := svL_bd (dy := dyS (sOf L lost nig) day) (st := L 1) (c0 := col) (l0 := left) (J := J) (l := p) (u := 0) (was := 0) b.2.2.2.2.1
    rw [hpl] at hbd
    have h4i : (4 : Int) ^ n ≤ 4096 := by
      have : ((4 ^ n : Nat) : Int) ≤ ((4096 : Nat) : Int) := by have := four_le hn; omega
      simpa using this
    generalize hV : svL (dyS (sOf L lost nig) day) (L 1) col left (L 3) J 0 0 p = v at *
    have cnt : w2.1 2 0 = nI n := (m4.tb (b := 1) g2 (fun o k q => TB_C q)).1.1
    have pe := partOf_ev (a := v) (t := 2 * n) (N := N0) (part := a0) (w := w2) (by omega) (by omega) (by omega) (by omega)
    obtain ⟨v3, l1, l2, l3, l4⟩ := lowest_ev (a := v) (k := n) (N := N0) (w := v2) (by omega) (by omega) hn (by omega)
    refine ⟨if a0 = 0 then zI (rdc v (2 * n)).1 else nI (2 ^ (rdc v (2 * n)).2), w2, v3, ?_, ?_, h.scr ((m2.wd (fun o k q => TB_M4 q)).tr (g2.wd (fun o k q => TB_C q))) ((o2.wd (fun o k q => TLo_O q)).tr ((k2'.wd (fun o k q => TLo_O q)).tr (l2.wd (fun o k q => TLo_l q)))) (fun o k q => TB_p q) (fun o k q => TLo_p q)⟩
    · have e2n : (2 : Int32) * nI n = nI (2 * n) := by rw [n2, nmul]
      simp only [fX11_sure, within_ev, hr, bd_some', m1, g1, bd2_some', cnt, e2n, pe]
      rw [if_neg (by decide)]
    · simp only [fX12_sure, isSide_ev, hr, bd_some', o1, k1, bd2_some', M2.2.2.2.1, ltlt hn, l1, l3, l4]
      rw [if_neg (by decide)]
      split <;> rfl
theorem oB_comb {odds : Nat} {x y X : Int} (ho : odds ≤ 4) (hx : x ≤ X) (hy : y ≤ X) : oB odds false * x + oB odds true * y ≤ 4 * X := by
  have h1 := Int.mul_le_mul_of_nonneg_left hx (oB_nn ho false)
  have h2 := Int.mul_le_mul_of_nonneg_left hy (oB_nn ho true)
  have e : oB odds false * X + oB odds true * X = 4 * X := by rw [← Int.add_mul]; congr 1; simp [oB]
  omega
theorem oB_comb2 {odds : Nat} {x y X : Int} (ho : odds ≤ 4) (hx : X ≤ x) (hy : X ≤ y) : 4 * X ≤ oB odds false * x + oB odds true * y := by
  have h1 := Int.mul_le_mul_of_nonneg_left hx (oB_nn ho false)
  have h2 := Int.mul_le_mul_of_nonneg_left hy (oB_nn ho true)
  have e : oB odds false * X + oB odds true * X = 4 * X := by rw [← Int.add_mul]; congr 1; simp [oB]
  omega
theorem mvL_bd {dy : Nat → Nat} {st c0 l0 fine odds n : Nat} {J : Nat → Nat → Nat} (bj : bJ n J) (bf : fine ≤ 99) (ho : odds ≤ 4) : ∀ {l : List Nat} {u was : Nat}, (∀ j ∈ l, j < n) → -198 * ((l.length : Int) * 4 ^ l.length) ≤ mvL dy st c0 l0 fine odds J u was l ∧ mvL dy st c0 l0 fine odds J u was l ≤ 198 * ((l.length : Int) * 4 ^ l.length) := by
  intro l
  induction l with
  | nil => intro u was _; simp [mvL]
  | cons j l ih =>
    intro u was h
    have hl : ∀ i ∈ l, i < n := fun i hi => h i (List.mem_cons_of_mem _ hi)
    have b5 := (bj j (h j List.mem_cons_self)).2.2.2.2.2
    have a := ih (u := uB st c0 l0 J (J 1) u was j) (was := J 2 j) hl
    have b := ih (u := uB st c0 l0 J (J 1) u was j + J 1 j) (was := J 2 j) hl
    have vb : ∀ e, -198 ≤ vOf fine J j e ∧ vOf fine J j e ≤ 198 := fun e => by
      have v1 := vOf_le (fine := fine) (J := J) (j := j) (e := e)
      have v2 := vOf_ge (fine := fine) (J := J) (j := j) (e := e)
      omega
    have hp : (0 : Int) ≤ 4 ^ l.length := Int.pow_nonneg (by omega)
    have m1 := fun e => Int.mul_le_mul_of_nonneg_right (vb e).1 hp
    have m2 := fun e => Int.mul_le_mul_of_nonneg_right (vb e).2 hp
    have e4 : ((l.length + 1 : Nat) : Int) * 4 ^ (l.length + 1) = 4 * ((l.length : Int) * 4 ^ l.length + 4 ^ l.length) := by
      rw [Int.pow_succ, Int.natCast_add, Int.add_mul, Int.mul_add, Int.mul_comm (4 ^ l.length) 4, ← Int.mul_assoc, Int.mul_comm (l.length : Int) 4, Int.mul_assoc]
      simp
    rw [List.length_cons, e4, mvL]
    generalize hX : (l.length : Int) * 4 ^ l.length = X at *
    generalize (4 : Int) ^ l.length = P at *
    have c1 := oB_comb (odds := odds) (X := 198 * X + 198 * P) (x := vOf fine J j (dy (uB st c0 l0 J (J 1) u was j)) * P + mvL dy st c0 l0 fine odds J (uB st c0 l0 J (J 1) u was j) (J 2 j) l) (y := vOf fine J j (dy (uB st c0 l0 J (J 1) u was j + J 1 j)) * P + mvL dy st c0 l0 fine odds J (uB st c0 l0 J (J 1) u was j + J 1 j) (J 2 j) l) ho (by have := m2 (dy (uB st c0 l0 J (J 1) u was j)); omega) (by have := m2 (dy (uB st c0 l0 J (J 1) u was j + J 1 j)); omega)
    have c2 := oB_comb2 (odds := odds) (X := -198 * X + -198 * P) (x := vOf fine J j (dy (uB st c0 l0 J (J 1) u was j)) * P + mvL dy st c0 l0 fine odds J (uB st c0 l0 J (J 1) u was j) (J 2 j) l) (y := vOf fine J j (dy (uB st c0 l0 J (J 1) u was j + J 1 j)) * P + mvL dy st c0 l0 fine odds J (uB st c0 l0 J (J 1) u was j + J 1 j) (J 2 j) l) ho (by have := m1 (dy (uB st c0 l0 J (J 1) u was j)); omega) (by have := m1 (dy (uB st c0 l0 J (J 1) u was j + J 1 j)); omega)
    constructor
    · have : -198 * (4 * (X + P)) = 4 * (-198 * X + -198 * P) := by omega
      omega
    · have : 198 * (4 * (X + P)) = 4 * (198 * X + 198 * P) := by omega
      omega
theorem st_mean {wC wM : AW} (h : Rel wC wM) (a0 : Int32) : ∃ r wC' wM', fX11_mean N0 a0 wC = some (r, wC') ∧ fX12_mean N0 a0 wM = some (r, wM') ∧ Rel wC' wM' := by
  obtain ⟨n, J, L, lost, nig, day, col, left, till, p, ok, hc, hm⟩ := h.1
  rcases wI_01 a0 0 1 with hr | hr
  · exact ⟨-2147483648, wC, wM, by simp only [fX11_mean, within_ev, hr, bd_some', if_true], by simp only [fX12_mean, isSide_ev, hr, bd_some', if_true], h⟩
  · have hN := N0_big
    obtain ⟨w1, m1, m2, m3, m4, m5⟩ := meas_ev (lg := 0) (N := N0) ok hc (by omega) (by omega)
    rw [sLg0] at m3 m5
    rw [show nI 0 = 0 from rfl] at m1
    obtain ⟨v1, o1, o2, o3⟩ := orderOfPlan_ev (N := N0) ok hm (by omega)
    obtain ⟨hn, bj, b, hp⟩ := ok
    obtain ⟨hpl, hpm, hnd, hall⟩ := perm_facts hp
    obtain ⟨-, ⟨w2, g1, g2⟩⟩ := sureMean_ev (N := N0) m3 m4.1 m5 bj hn (by omega) m4.2.2.2.2.1 hpl hpm
    have M1 : MBd n J L lost nig day col left till p v1 := hm.fr o2 (fun o k q => mB_TO q)
    obtain ⟨v2, k1, k2⟩ := refMean_ev (N := N0) (c1 := a0) M1.1 M1.2.1 b bj hn M1.2.2.2.1 (by omega) o3 (perm_prm hn hp)
    have k2' : Fr TO v1 v2 := k2.wd (fun o k q => TW_TO q)
    have M2 : MBd n J L lost nig day col left till p v2 := M1.fr k2' (fun o k q => mB_TO q)
    have hbd := mvL_bd (dy := dyS (sOf L lost nig) day) (st := L 1) (c0 := col) (l0 := left) (odds := L 3) (u := 0) (was := 0) bj b.2.2.2.1 b.2.2.2.2.1 hpm
    rw [hpl] at hbd
    have h4i : (n : Int) * (4 : Int) ^ n ≤ 24576 ∧ 0 ≤ (n : Int) * (4 : Int) ^ n := by
      have h1 : n * 4 ^ n ≤ 6 * 4096 := Nat.mul_le_mul hn (four_le hn)
      have : (n : Int) * (4 : Int) ^ n = ((n * 4 ^ n : Nat) : Int) := by simp
      omega
    generalize hV : mvL (dyS (sOf L lost nig) day) (L 1) col left (L 2) (L 3) J 0 0 p = v at *
    have cnt : w2.1 2 0 = nI n := (m4.tb (b := 1) g2 (fun o k q => TB_C q)).1.1
    have pe := partOf_ev (a := v) (t := 2 * n) (N := N0) (part := a0) (w := w2) (by omega) (by omega) (by omega) (by omega)
    obtain ⟨v3, l1, l2, l3, l4⟩ := lowest_ev (a := v) (k := n) (N := N0) (w := v2) (by omega) (by omega) hn (by omega)
    refine ⟨if a0 = 0 then zI (rdc v (2 * n)).1 else nI (2 ^ (rdc v (2 * n)).2), w2, v3, ?_, ?_, h.scr ((m2.wd (fun o k q => TB_M4 q)).tr (g2.wd (fun o k q => TB_C q))) ((o2.wd (fun o k q => TLo_O q)).tr ((k2'.wd (fun o k q => TLo_O q)).tr (l2.wd (fun o k q => TLo_l q)))) (fun o k q => TB_p q) (fun o k q => TLo_p q)⟩
    · have e2n : (2 : Int32) * nI n = nI (2 * n) := by rw [n2, nmul]
      simp only [fX11_mean, within_ev, hr, bd_some', m1, g1, bd2_some', cnt, e2n, pe]
      rw [if_neg (by decide)]
    · simp only [fX12_mean, isSide_ev, hr, bd_some', o1, k1, M2.2.2.2.1, ltlt hn, l1, l3, l4]
      rw [if_neg (by decide)]
      split <;> rfl
theorem st_safest {wC wM : AW} (h : Rel wC wM) (a0 : Int32) : ∃ r wC' wM', fX11_safest N0 a0 wC = some (r, wC') ∧ fX12_safest N0 a0 wM = some (r, wM') ∧ Rel wC' wM' := by
  obtain ⟨n, J, L, lost, nig, day, col, left, till, p, ok, hc, hm⟩ := h.1
  rcases wI_01 a0 0 2 with hr | hr
  · exact ⟨-1, wC, wM, by simp only [fX11_safest, within_ev, hr, bd_some', if_true], by simp only [fX12_safest, in_ev, hr, bd_some', if_true], h⟩
  · have hN := N0_big
    obtain ⟨w1, m1, m2, m3, m4, m5⟩ := meas_ev (lg := 0) (N := N0) ok hc (by omega) (by omega)
    rw [sLg0] at m3 m5
    rw [show nI 0 = 0 from rfl] at m1
    obtain ⟨hn, bj, b, hp⟩ := ok
    have h4n := four_le hn
    obtain ⟨w2, mo, ch, g1, g2, g3, g5, g6, g4⟩ := surest_ev (N := N0) m3 m4.1 m5 bj hn (by omega)
    obtain ⟨v1, e1, e2, e3⟩ := firstOrder_ev (N := N0) (w := wM) (b := 6) (bI := -1) hn (neg1_iff hn) (by omega)
    have e2' : Fr TO wM v1 := e2.wd (fun o k q => by simp only [TO, Bool.or_eq_false_iff] at q; exact q.1.2)
    have M1 : MBd n J L lost nig day col left till p v1 := hm.fr e2' (fun o k q => mB_TO q)
    obtain ⟨v2, mo', ch', k1, k2, k3, k4⟩ := refSafest_ev (N := N0) (c1 := a0) M1.1 M1.2.1 b bj hn M1.2.2.2.1 (by omega) e3
    obtain ⟨rfl, rfl⟩ : mo = mo' ∧ ch = ch' := by have := g4.trans k4.symm; exact ⟨congrArg Prod.fst this, congrArg Prod.snd this⟩
    have hch : ch ∈ prm n 6 := by
      have := bestG_in (n := n) (b := 6) (b0 := -1) (f := fun p => svL (dyS (sOf L lost nig) day) (L 1) col left (L 3) J 0 0 p) hn (by omega) (fun p hp => by have := svL_bd (dy := dyS (sOf L lost nig) day) (st := L 1) (c0 := col) (l0 := left) (J := J) (l := p) (u := 0) (was := 0) b.2.2.2.2.1; show (-1 : Int) < svL (dyS (sOf L lost nig) day) (L 1) col left (L 3) J 0 0 p; omega)
      rw [← g4] at this; exact this
    have hcl := (prm_range hn hch).2
    have M2 : MBd n J L lost nig day col left till p v2 := M1.fr k2 (fun o k q => mB_TO q)
    have cnt : w2.1 2 0 = nI n := (m4.tb (b := 1) g2 (fun o k q => TB_D q)).1.1
    have d1 := digitsC_ev (N := N0) g3 hcl hn (by omega)
    obtain ⟨v3, l1, l2, l3, l4⟩ := lowest_ev (a := mo) (k := n) (N := N0) (w := v2) (by omega) (by omega) hn (by omega)
    have M3 : MBd n J L lost nig day col left till p v3 := M2.fr (l2.wd (fun o k q => TLo_l q)) (fun o k q => TLo_p (by
      simp only [mB, Bool.or_eq_true, Bool.and_eq_true, beq_iff_eq] at q
      simp only [pM, Bool.or_eq_true, Bool.and_eq_true, beq_iff_eq, decide_eq_true_eq]; omega))
    have k3' : rowL (v3.1 15) ch := fun i v hv => by rw [l2.at' _ rfl]; exact k3 i v hv
    have d2 := digitsM_ev (N := N0) k3' hcl hn (by omega)
    have pe : ∀ part, fX11_partOf N0 (zI mo) (nI (2 * n)) part w2 = some (if part = 0 then zI (rdc mo (2 * n)).1 else nI (2 ^ (rdc mo (2 * n)).2)) := fun part => partOf_ev (a := mo) (t := 2 * n) (N := N0) (part := part) (w := w2) (by omega) (by omega) (by omega) (by omega)
    obtain ⟨m, -, hm2, rfl⟩ := wI_nat (lo := 0) (hi := 2) hr (by omega) (by omega)
    have e2n : (2 : Int32) * nI n = nI (2 * n) := by rw [n2, nmul]
    refine ⟨if m = 0 then dg ch n else if m = 1 then zI (rdc mo (2 * n)).1 else nI (2 ^ (rdc mo (2 * n)).2), w2, v3, ?_, ?_, h.scr ((m2.wd (fun o k q => TB_M4 q)).tr (g2.wd (fun o k q => TB_D q))) ((e2'.wd (fun o k q => TLo_O q)).tr ((k2.wd (fun o k q => TLo_O q)).tr (l2.wd (fun o k q => TLo_l q)))) (fun o k q => TB_p q) (fun o k q => TLo_p q)⟩
    · have h10 : ¬ (1 : Int32) = 0 := by decide
      simp only [fX11_safest, within_ev, hr, bd_some', m1, g1, bd2_some', cnt, e2n, pe, d1, h10, if_false]
      have : m = 0 ∨ m = 1 ∨ m = 2 := by omega
      rcases this with rfl | rfl | rfl
      · simp only [show nI 0 = (0 : Int32) from rfl, if_true]
      · simp only [show ¬ nI 1 = (0 : Int32) by decide, show nI 1 - 1 = (0 : Int32) from rfl, show ¬ (1 = 0) by decide, if_true, if_false]
      · simp only [show ¬ nI 2 = (0 : Int32) by decide, show ¬ nI 2 - 1 = (0 : Int32) by decide, show ¬ (2 = 0) by decide, show ¬ (2 = 1) by decide, if_false]
    · have h10 : ¬ (1 : Int32) = 0 := by decide
      simp only [fX12_safest, in_ev, hr, bd_some', hm.2.2.2.1, e1, bd2_some', k1, M2.2.2.2.1, ltlt hn, l1, M3.2.2.2.1, d2, l3, l4, h10, if_false]
      have : m = 0 ∨ m = 1 ∨ m = 2 := by omega
      rcases this with rfl | rfl | rfl
      · simp only [show nI 0 = (0 : Int32) from rfl, if_true]
      · simp only [show ¬ nI 1 = (0 : Int32) by decide, show nI 1 = (1 : Int32) from rfl, h10, show ¬ (1 = 0) by decide, if_true, if_false]
      · simp only [show ¬ nI 2 = (0 : Int32) by decide, show ¬ nI 2 = (1 : Int32) by decide, show ¬ (2 = 0) by decide, show ¬ (2 = 1) by decide, if_false]
