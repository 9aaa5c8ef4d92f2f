/-! 36: the reference's SAFEST, FEWEST, SOONEST, NIGHTS -/
theorem refSafest_ev {n : Nat} {J : Nat → Nat → Nat} {L lost nig : Nat → Nat} {day col left N : Nat} {w : AW} {c1 : Int32} (hJ : MJs n J w) (hM : MLs L lost nig day col left w) (b : bL L lost nig day col left) (bj : bJ n J) (hn : n ≤ 6) (h0 : w.1 0 0 = nI n) (hN : 800 < N)
    (hr : rowL (w.1 12) (rmB n 6)) :
    ∃ w' mo ch, wh (lbX12_safest_26_1 N c1 (nI (rmB n 6).length)) N ((-1), 1, w) = some (zI mo, w') ∧ Fr TO w w' ∧ rowL (w'.1 15) ch ∧ (mo, ch) = (prm n 6).foldl (bestG (fun p => svL (dyS (sOf L lost nig) day) (L 1) col left (L 3) J 0 0 p)) (-1, []) := by
  have ho := b.2.2.2.2.1
  have h4n := four_le hn
  obtain ⟨a', w', k1, k2⟩ := ord_ind (N := N) (n := n) (bb := 6) (m := (rmB n 6).length) (body := lbX12_safest_26_1 N c1 (nI (rmB n 6).length))
    (V := fun (x : Int × List Nat) a w2 => a = zI x.1 ∧ -1 ≤ x.1 ∧ x.1 ≤ 5000 ∧ Fr TO w w2 ∧ rowL (w2.1 15) x.2)
    (g := bestG (fun p => svL (dyS (sOf L lost nig) day) (L 1) col left (L 3) J 0 0 p))
    hN hn (by omega) rfl
    (fun x a w2 w3 hv hf => ⟨hv.1, hv.2.1, hv.2.2.1, hv.2.2.2.1.tr (hf.wd (fun o k h => by simp only [TO, Bool.or_eq_false_iff] at h; exact h.1.2)), by
      intro i v h; rw [hf.at' _ rfl]; exact hv.2.2.2.2 i v h⟩)
    (fun x p a w2 hv hr hp => by
      obtain ⟨rfl, hv1, hv2, hv3, hv4⟩ := hv
      have hJ2 : MJs n J w2 := hJ.fr hv3 (fun k => rfl)
      have hM2 : MLs L lost nig day col left w2 := hM.fr hv3 (fun k => rfl) (fun k => rfl) (fun k => rfl) rfl rfl rfl
      have hpl := prm_len hp
      have hple := rmB_len n 6
      have hpr := (prm_range hn hp).2
      obtain ⟨w3, g1, g2⟩ := sureOf_ev (N := N) hJ2 hM2 b bj hn (by rw [hv3.at' _ rfl]; exact h0) (by omega) hr hp
      have hbd := svL_bd (dy := dyS (sOf L lost nig) day) (st := L 1) (c0 := col) (l0 := left) (J := J) (l := p) (u := 0) (was := 0) ho
      rw [hpr] at hbd
      have h4i : (4 : Int) ^ n ≤ 4096 := by
        have : ((4 ^ n : Nat) : Int) ≤ ((4096 : Nat) : Int) := by omega
        simpa using this
      generalize hV : svL (dyS (sOf L lost nig) day) (L 1) col left (L 3) J 0 0 p = v at *
      have hr3 : rowL (w3.1 12) p := fun i v h => by rw [g2.at' _ rfl]; exact hr i v h
      have hF3 : Fr TO w w3 := hv3.tr (g2.wd (fun o k h => TW_TO h))
      by_cases hc : x.1 < v
      · obtain ⟨w4, q1, q2, q3⟩ := keepsOrder_ev (N := N) hr3 (by omega) (by omega)
        refine ⟨zI v, w4, ?_, fun i u h => by rw [q2.at' _ rfl]; exact hr3 i u h, fun r w'' hn => ?_⟩
        · simp only [bestG, hV, hc, if_true]
          exact ⟨trivial, by omega, by omega, hF3.tr (q2.wd (fun o k h => by simp only [TO, Bool.or_eq_false_iff] at h; exact h.2)), q3⟩
        · rw [hpl] at q1
          simp (disch := omega) only [lbX12_safest_26_1, n0, n1, neq, if_neg (show ¬ 1 = 0 by omega), g1, lw_eq, bd_some', bd2_some', gd_true, zle, if_neg (show ¬ v ≤ x.1 by omega), q1, hn]
      · refine ⟨zI x.1, w3, ?_, hr3, fun r w'' hn => ?_⟩
        · simp only [bestG, hV, hc, if_false]
          exact ⟨trivial, hv1, hv2, hF3, fun i u h => by rw [g2.at' _ rfl]; exact hv4 i u h⟩
        · simp (disch := omega) only [lbX12_safest_26_1, n0, n1, neq, if_neg (show ¬ 1 = 0 by omega), g1, lw_eq, bd_some', bd2_some', gd_true, zle, if_pos (show v ≤ x.1 by omega), hn])
    (fun a w2 => by simp only [lbX12_safest_26_1, if_true])
    (b := (-1, [])) (a := -1) (w := w) ⟨rfl, by simp, by simp, Fr.rf, fun i v h => by simp at h⟩ hr
  refine ⟨w', _, _, ?_, k2.2.2.2.1, k2.2.2.2.2, rfl⟩
  have := k2.1
  subst this
  exact k1
def lowG (f : List Nat → Nat) (b : Nat) (p : List Nat) : Nat := if f p < b then f p else b
theorem refFewest_ev {n : Nat} {J : Nat → Nat → Nat} {L lost nig : Nat → Nat} {day col left N : Nat} {w : AW} (hJ : MJs n J w) (hM : MLs L lost nig day col left w) (b : bL L lost nig day col left) (bj : bJ n J) (hn : n ≤ 6) (hN : 800 < N)
    (hr : rowL (w.1 12) (rmB n 6)) :
    ∃ w' mo, wh (lbX12_fewest_15_1 N (nI (rmB n 6).length)) N (9, 1, w) = some (nI mo, w') ∧ Fr TO w w' ∧ mo = (prm n 6).foldl (lowG (fun p => ltN (dyS (sOf L lost nig) day) (L 1) col left J (J 1) (lf p) p.length)) 9 := by
  have hs0 : sLg (sOf L lost nig) day 0 = sOf L lost nig := by funext d; simp [sLg]
  obtain ⟨a', w', k1, k2⟩ := ord_ind (N := N) (n := n) (bb := 6) (m := (rmB n 6).length) (body := lbX12_fewest_15_1 N (nI (rmB n 6).length))
    (V := fun (x : Nat) a w2 => a = nI x ∧ x ≤ 9 ∧ Fr TO w w2)
    (g := lowG (fun p => ltN (dyS (sOf L lost nig) day) (L 1) col left J (J 1) (lf p) p.length))
    hN hn (by omega) rfl
    (fun x a w2 w3 hv hf => ⟨hv.1, hv.2.1, hv.2.2.tr (hf.wd (fun o k h => by simp only [TO, Bool.or_eq_false_iff] at h; exact h.1.2))⟩)
    (fun x p a w2 hv hr hp => by
      obtain ⟨rfl, hv1, hv3⟩ := hv
      have hJ2 : MJs n J w2 := hJ.fr hv3 (fun k => rfl)
      have hM2 : MLs L lost nig day col left w2 := hM.fr hv3 (fun k => rfl) (fun k => rfl) (fun k => rfl) rfl rfl rfl
      have hpl := prm_len hp
      have hple := rmB_len n 6
      have hpr := (prm_range hn hp).2
      obtain ⟨w3, g1, g2, g3, g4, g5⟩ := work_ev (tw := 0) (lg := 0) (N := N) hJ2 hM2 b bj hn (by omega) (by omega) (by omega) hr hp
      rw [hs0, Rd_0] at g5
      have hbd := lN_bd (dy := dyS (sOf L lost nig) day) (st := L 1) (c0 := col) (l0 := left) (J := J) (R := J 1) (p := lf p) p.length
      generalize hV : ltN (dyS (sOf L lost nig) day) (L 1) col left J (J 1) (lf p) p.length = v at *
      have hr3 : rowL (w3.1 12) p := fun i v h => by rw [g2.at' _ rfl]; exact hr i v h
      have hF3 : Fr TO w w3 := hv3.tr (g2.wd (fun o k h => TW_TO h))
      rw [hpl] at g5
      have hw : fX12_worksAll N (nI (rmB n 6).length) 0 0 w2 = some w3 := by
        rw [← hpl, n0, hpr]; rw [hpr] at g1; simp only [fX12_worksAll, g1, lw_eq, bd_some', bd2_some', gd_true]
      by_cases hc : v < x
      · refine ⟨nI v, w3, ?_, hr3, fun r w'' hn => ?_⟩
        · simp only [lowG, hV, hc, if_true]
          exact ⟨trivial, by omega, hF3⟩
        · simp only [lbX12_fewest_15_1, hw, g5, lw_eq, bd_some', bd2_some', gd_true, hn]
          rw [if_neg (show ¬ (1 : Int32) = 0 by decide), if_neg (show ¬ nI x ≤ nI v by rw [nle (by omega) (by omega)]; omega)]
      · refine ⟨nI x, w3, ?_, hr3, fun r w'' hn => ?_⟩
        · simp only [lowG, hV, hc, if_false]
          exact ⟨trivial, hv1, hF3⟩
        · simp only [lbX12_fewest_15_1, hw, g5, lw_eq, bd_some', bd2_some', gd_true, hn]
          rw [if_neg (show ¬ (1 : Int32) = 0 by decide), if_pos (show nI x ≤ nI v by rw [nle (by omega) (by omega)]; omega)])
    (fun a w2 => by simp only [lbX12_fewest_15_1, if_true])
    (b := 9) (a := 9) (w := w) ⟨rfl, by omega, Fr.rf⟩ hr
  refine ⟨w', _, ?_, k2.2.2, rfl⟩
  have := k2.1
  subst this
  exact k1
/-- the day on which job n ends, by an order -/
def eJ (dy : Nat → Nat) (st c0 l0 : Nat) (J : Nat → Nat → Nat) (n : Nat) (p : List Nat) : Nat := dy (uN st c0 l0 J (J 1) (lf p) (p.idxOf n + 1))
def soonG (e : List Nat → Nat) (l : List Nat → Nat) (b : Int) (p : List Nat) : Int := if l p = 0 ∧ (b < 0 ∨ (e p : Int) < b) then (e p : Int) else b
theorem lf_idxOf {p : List Nat} {n : Nat} (h : n ∈ p) : p.idxOf n < p.length ∧ lf p (p.idxOf n) = n := by
  have h1 : p.idxOf n < p.length := List.idxOf_lt_length_iff.mpr h
  refine ⟨h1, ?_⟩
  have := getD_some h1
  rw [List.getElem?_eq_getElem h1, List.getElem_idxOf h1] at this
  exact (Option.some.inj this).symm
theorem dy_le {L lost nig : Nat → Nat} {day col left n : Nat} {J : Nat → Nat → Nat} {p : List Nat} {i : Nat} (b : bL L lost nig day col left) (bj : bJ n J) (hn : n ≤ 6) (hpl : p.length ≤ 6) (hpm : ∀ j ∈ p, j < n) (hi : i < p.length) : dyS (sOf L lost nig) day (uN (L 1) col left J (J 1) (lf p) (i + 1)) ≤ 186 := by
  have h1 : ∀ k, k < p.length → J 1 (lf p k) ≤ 18 := fun k hk => by
    have := bj _ (hpm _ (getD_mem (l := p) hk))
    unfold lf; omega
  have := uN_le (st := L 1) (c0 := col) (l0 := left) (J := J) h1 b.2.2.1 b.2.2.2.2.2.2.2.2.2 (i + 1) (by omega)
  exact dyS_le (d0 := day) b.2.2.2.2.2.2.2.1 (sOf_pos (lost := lost) (nig := nig) b.1) (uN_pos (bj _ (hpm _ (getD_mem (l := p) hi))).2.1) (by omega)
theorem refSoonest_ev {n : Nat} {J : Nat → Nat → Nat} {L lost nig : Nat → Nat} {day col left N : Nat} {w : AW} (hJ : MJs (n + 1) J w) (hM : MLs L lost nig day col left w) (b : bL L lost nig day col left) (bj : bJ (n + 1) J) (hn : n + 1 ≤ 6) (h0 : w.1 0 0 = nI n) (hN : 800 < N)
    (hr : rowL (w.1 12) (rmB (n + 1) 6)) :
    ∃ w' mo, wh (lbX12_soonest_57_1 N (nI (rmB (n + 1) 6).length)) N ((-3), 1, w) = some (zI mo, w') ∧ Fr TO w w' ∧ mo = (prm (n + 1) 6).foldl (soonG (eJ (dyS (sOf L lost nig) day) (L 1) col left J n) (fun p => ltN (dyS (sOf L lost nig) day) (L 1) col left J (J 1) (lf p) p.length)) (-3) := by
  have hs0 : sLg (sOf L lost nig) day 0 = sOf L lost nig := by funext d; simp [sLg]
  obtain ⟨a', w', k1, k2⟩ := ord_ind (N := N) (n := n + 1) (bb := 6) (m := (rmB (n + 1) 6).length) (body := lbX12_soonest_57_1 N (nI (rmB (n + 1) 6).length))
    (V := fun (x : Int) a w2 => a = zI x ∧ -3 ≤ x ∧ x ≤ 1000 ∧ Fr TO w w2)
    (g := soonG (eJ (dyS (sOf L lost nig) day) (L 1) col left J n) (fun p => ltN (dyS (sOf L lost nig) day) (L 1) col left J (J 1) (lf p) p.length))
    hN hn (by omega) rfl
    (fun x a w2 w3 hv hf => ⟨hv.1, hv.2.1, hv.2.2.1, hv.2.2.2.tr (hf.wd (fun o k h => by simp only [TO, Bool.or_eq_false_iff] at h; exact h.1.2))⟩)
    (fun x p a w2 hv hr hp => by
      obtain ⟨rfl, hv1, hv2, hv3⟩ := hv
      have hJ2 : MJs (n + 1) J w2 := hJ.fr hv3 (fun k => rfl)
      have hM2 : MLs L lost nig day col left w2 := hM.fr hv3 (fun k => rfl) (fun k => rfl) (fun k => rfl) rfl rfl rfl
      have hpl := prm_len hp
      have hpr := (prm_range hn hp).2
      have hmem : n ∈ p := by
        have := (prm_perm hp).mem_iff (a := n)
        rw [this, rmB_mem]; omega
      obtain ⟨hi1, hi2⟩ := lf_idxOf hmem
      obtain ⟨w3, g1, g2, g3, g4, g5⟩ := work_ev (tw := 0) (lg := 0) (N := N) hJ2 hM2 b bj hn (by omega) (by omega) (by omega) hr hp
      rw [hs0, Rd_0] at g5 g3
      have hbd := lN_bd (dy := dyS (sOf L lost nig) day) (st := L 1) (c0 := col) (l0 := left) (J := J) (R := J 1) (p := lf p) p.length
      have he : w3.1 14 n = nI (eJ (dyS (sOf L lost nig) day) (L 1) col left J n p) := by
        have := g3 (p.idxOf n) hi1
        rw [hi2] at this
        exact this
      have heb : eJ (dyS (sOf L lost nig) day) (L 1) col left J n p ≤ 186 := dy_le b bj hn (by omega) (prm_mem hp) hi1
      generalize hE : eJ (dyS (sOf L lost nig) day) (L 1) col left J n p = e at *
      generalize hV : ltN (dyS (sOf L lost nig) day) (L 1) col left J (J 1) (lf p) p.length = v at *
      have hr3 : rowL (w3.1 12) p := fun i v h => by rw [g2.at' _ rfl]; exact hr i v h
      have hF3 : Fr TO w w3 := hv3.tr (g2.wd (fun o k h => TW_TO h))
      have h03 : w3.1 0 0 = nI n := by rw [hF3.at' _ rfl]; exact h0
      rw [hpl] at g5
      have hw : fX12_worksAll N (nI (rmB (n + 1) 6).length) 0 0 w2 = some w3 := by
        rw [← hpl, n0, hpr]; rw [hpr] at g1; simp only [fX12_worksAll, g1, lw_eq, bd_some', bd2_some', gd_true]
      have h10 : ¬ (1 : Int32) = 0 := by decide
      have hgn : ∀ {β : Type} {k : Option β}, gd (inb (nI n) 8) k = k := fun {β k} => gd_n (by omega) (by omega)
      have htn : (nI n).toNatClampNeg = n := ntn (by omega)
      by_cases hc : v = 0
      · have hv0 : nI v = 0 := by rw [hc]; rfl
        by_cases hx : x < 0
        · refine ⟨nI e, w3, ?_, hr3, fun r w'' hn => ?_⟩
          · simp only [soonG, hE, hV, hc, hx, true_or, and_self, if_true]
            exact ⟨zI_nI e, by omega, by omega, hF3⟩
          · have : zI x < 0 := by rw [show (0 : Int32) = zI 0 from rfl, zlt (by omega) (by omega) (by omega) (by omega)]; exact hx
            simp only [lbX12_soonest_57_1, hw, g5, lw_eq, bd_some', bd2_some', gd_true, hn, h10, if_false, h03, hgn, hv0, if_true, this, htn, he]
        · have hx0 : ¬ zI x < 0 := by rw [show (0 : Int32) = zI 0 from rfl, zlt (by omega) (by omega) (by omega) (by omega)]; exact hx
          by_cases hd : (e : Int) < x
          · refine ⟨nI e, w3, ?_, hr3, fun r w'' hn => ?_⟩
            · simp only [soonG, hE, hV, hc, hd, or_true, and_self, if_true]
              exact ⟨zI_nI e, by omega, by omega, hF3⟩
            · have : ¬ zI x ≤ nI e := by rw [zI_nI, zle (by omega) (by omega) (by omega) (by omega)]; omega
              simp only [lbX12_soonest_57_1, hw, g5, lw_eq, bd_some', bd2_some', gd_true, hn, h10, if_false, h03, hgn, hv0, if_true, hx0, htn, he, this]
          · refine ⟨zI x, w3, ?_, hr3, fun r w'' hn => ?_⟩
            · simp only [soonG, hE, hV, hc, hd, hx, or_self, and_false, if_false]
              exact ⟨trivial, by omega, by omega, hF3⟩
            · have : zI x ≤ nI e := by rw [zI_nI, zle (by omega) (by omega) (by omega) (by omega)]; omega
              simp only [lbX12_soonest_57_1, hw, g5, lw_eq, bd_some', bd2_some', gd_true, hn, h10, if_false, h03, hgn, hv0, if_true, hx0, htn, he, this]
      · have hv0 : ¬ nI v = 0 := by rw [n0, neq (by omega) (by omega)]; exact hc
        refine ⟨zI x, w3, ?_, hr3, fun r w'' hn => ?_⟩
        · simp only [soonG, hE, hV, hc, false_and, if_false]
          exact ⟨trivial, by omega, by omega, hF3⟩
        · simp only [lbX12_soonest_57_1, hw, g5, lw_eq, bd_some', bd2_some', gd_true, hn, h10, if_false, h03, hgn, hv0])
    (fun a w2 => by simp only [lbX12_soonest_57_1, if_true])
    (b := -3) (a := -3) (w := w) ⟨rfl, by omega, by omega, Fr.rf⟩ hr
  refine ⟨w', _, ?_, k2.2.2.2, rfl⟩
  have := k2.1
  subst this
  exact k1
theorem refNights_in {n : Nat} {J : Nat → Nat → Nat} {L lost nig : Nat → Nat} {day col left N lg : Nat} {w : AW} (hJ : MJs n J w) (hM : MLs L lost nig day col left w) (b : bL L lost nig day col left) (bj : bJ n J) (hn : n ≤ 6) (hlg : lg ≤ 9) (hN : 800 < N)
    (hr : rowL (w.1 12) (rmB n 6)) :
    ∃ w', Fr TO w w' ∧ wh (lbX12_nights_20_2 N (nI lg) (nI (rmB n 6).length)) N (1, w) = some (if ∃ p ∈ prm n 6, ltN (dyS (sLg (sOf L lost nig) day lg) day) (L 1) col left J (J 1) (lf p) p.length = 0 then .inr w' else .inl w') := by
  obtain ⟨c1, c2⟩ := chk_prm1 hn (show 6 ≤ 6 by omega)
  have c3 := prm_count n (by omega) 6 (by omega)
  have h10 : ¬ (1 : Int32) = 0 := by decide
  have gen : ∀ (l : List (List Nat)) (p : List Nat) (w2 : AW) (M : Nat), chk (p :: l) = true → (∀ q ∈ p :: l, q ∈ prm n 6) → l.length + 2 < M → Fr TO w w2 → rowL (w2.1 12) p →
      ∃ w', Fr TO w w' ∧ wh (lbX12_nights_20_2 N (nI lg) (nI (rmB n 6).length)) M (1, w2) = some (if ∃ q ∈ p :: l, ltN (dyS (sLg (sOf L lost nig) day lg) day) (L 1) col left J (J 1) (lf q) q.length = 0 then .inr w' else .inl w') := by
    intro l
    induction l with
    | nil =>
      intro p w2 M hc hq hMM hF hr
      obtain ⟨M, rfl⟩ : ∃ k, M = k + 2 := ⟨M - 2, by omega⟩
      have hp := hq p List.mem_cons_self
      have hpl := prm_len hp
      have hpm := prm_mem hp
      have hpr := (prm_range hn hp).2
      obtain ⟨w3, g1, g2, g3, g4, g5⟩ := work_ev (tw := 0) (lg := lg) (N := N) (hJ.fr hF (fun k => rfl)) (hM.fr hF (fun k => rfl) (fun k => rfl) (fun k => rfl) rfl rfl rfl : MLs L lost nig day col left w2) b bj hn (by omega) hlg (by omega) hr hp
      rw [Rd_0] at g5
      have hbd := lN_bd (dy := dyS (sLg (sOf L lost nig) day lg) day) (st := L 1) (c0 := col) (l0 := left) (J := J) (R := J 1) (p := lf p) p.length
      have hF3 : Fr TO w w3 := hF.tr (g2.wd (fun o k h => TW_TO h))
      have hr3 : rowL (w3.1 12) p := fun i v h => by rw [g2.at' _ rfl]; exact hr i v h
      have hw : fX12_worksAll N (nI (rmB n 6).length) 0 (nI lg) w2 = some w3 := by
        rw [← hpl, n0, hpr]; rw [hpr] at g1; simp only [fX12_worksAll, g1, lw_eq, bd_some', bd2_some', gd_true]
      have hnx : nx p = none := by simpa [chk] using hc
      have e := (nextOrder_ev (N := N) hr3 (fun x hx => by have := hpm x hx; omega) (by omega) (by omega)).2 hnx
      rw [hpl] at e g5
      refine ⟨w3, hF3, ?_⟩
      by_cases hz : ltN (dyS (sLg (sOf L lost nig) day lg) day) (L 1) col left J (J 1) (lf p) p.length = 0
      · rw [if_pos ⟨p, List.mem_cons_self, hz⟩]
        apply wh_out (n := M + 1)
        rw [hpl] at hz
        simp only [lbX12_nights_20_2, h10, if_false, hw, g5, lw_eq, bd_some', bd2_some', gd_true, hz]
        rfl
      · rw [if_neg (by rintro ⟨q, hq, h⟩; simp at hq; subst hq; exact hz h)]
        have hz2 : ¬ nI (ltN (dyS (sLg (sOf L lost nig) day lg) day) (L 1) col left J (J 1) (lf p) p.length) = 0 := by rw [n0, neq (by omega) (by omega)]; exact hz
        rw [hpl] at hz2
        have hstep : lbX12_nights_20_2 N (nI lg) (nI (rmB n 6).length) (1, w2) = some (.inl (0, w3)) := by
          simp only [lbX12_nights_20_2, h10, if_false, hw, g5, lw_eq, bd_some', bd2_some', gd_true, hz2, e]
        exact (wh_step (n := M + 1) hstep).trans (wh_out (n := M) (by simp only [lbX12_nights_20_2, if_true]))
    | cons q l ih =>
      intro p w2 M hc hq hMM hF hr
      obtain ⟨M, rfl⟩ : ∃ k, M = k + 1 := ⟨M - 1, by simp at hMM; omega⟩
      have hp := hq p List.mem_cons_self
      have hpl := prm_len hp
      have hpm := prm_mem hp
      have hpr := (prm_range hn hp).2
      obtain ⟨w3, g1, g2, g3, g4, g5⟩ := work_ev (tw := 0) (lg := lg) (N := N) (hJ.fr hF (fun k => rfl)) (hM.fr hF (fun k => rfl) (fun k => rfl) (fun k => rfl) rfl rfl rfl : MLs L lost nig day col left w2) b bj hn (by omega) hlg (by omega) hr hp
      rw [Rd_0] at g5
      have hbd := lN_bd (dy := dyS (sLg (sOf L lost nig) day lg) day) (st := L 1) (c0 := col) (l0 := left) (J := J) (R := J 1) (p := lf p) p.length
      have hF3 : Fr TO w w3 := hF.tr (g2.wd (fun o k h => TW_TO h))
      have hr3 : rowL (w3.1 12) p := fun i v h => by rw [g2.at' _ rfl]; exact hr i v h
      have hw : fX12_worksAll N (nI (rmB n 6).length) 0 (nI lg) w2 = some w3 := by
        rw [← hpl, n0, hpr]; rw [hpr] at g1; simp only [fX12_worksAll, g1, lw_eq, bd_some', bd2_some', gd_true]
      simp only [chk, Bool.and_eq_true, beq_iff_eq] at hc
      obtain ⟨w4, e1, e2, e3⟩ := (nextOrder_ev (N := N) hr3 (fun x hx => by have := hpm x hx; omega) (by omega) (by omega)).1 q hc.1
      rw [hpl] at e1 g5
      by_cases hz : ltN (dyS (sLg (sOf L lost nig) day lg) day) (L 1) col left J (J 1) (lf p) p.length = 0
      · refine ⟨w3, hF3, ?_⟩
        rw [if_pos ⟨p, List.mem_cons_self, hz⟩]
        apply wh_out
        rw [hpl] at hz
        simp only [lbX12_nights_20_2, h10, if_false, hw, g5, lw_eq, bd_some', bd2_some', gd_true, hz]
        rfl
      · have hz2 : ¬ nI (ltN (dyS (sLg (sOf L lost nig) day lg) day) (L 1) col left J (J 1) (lf p) p.length) = 0 := by rw [n0, neq (by omega) (by omega)]; exact hz
        rw [hpl] at hz2
        have hstep : lbX12_nights_20_2 N (nI lg) (nI (rmB n 6).length) (1, w2) = some (.inl (1, w4)) := by
          simp only [lbX12_nights_20_2, h10, if_false, hw, g5, lw_eq, bd_some', bd2_some', gd_true, hz2, e1]
        obtain ⟨w', i1, i2⟩ := ih q w4 M hc.2 (fun x hx => hq x (List.mem_cons_of_mem _ hx)) (by simp at hMM; omega) (hF3.tr (e2.wd (fun o k h => by simp only [TO, Bool.or_eq_false_iff] at h; exact h.1.2))) e3
        refine ⟨w', i1, ?_⟩
        rw [wh_step hstep, i2]
        have hiff : (∃ r ∈ p :: q :: l, ltN (dyS (sLg (sOf L lost nig) day lg) day) (L 1) col left J (J 1) (lf r) r.length = 0) ↔ (∃ r ∈ q :: l, ltN (dyS (sLg (sOf L lost nig) day lg) day) (L 1) col left J (J 1) (lf r) r.length = 0) := by
          constructor
          · rintro ⟨r, hr, h⟩
            rcases List.mem_cons.mp hr with rfl | hr
            · exact absurd h hz
            · exact ⟨r, hr, h⟩
          · rintro ⟨r, hr, h⟩
            exact ⟨r, List.mem_cons_of_mem _ hr, h⟩
        by_cases hh : ∃ r ∈ q :: l, ltN (dyS (sLg (sOf L lost nig) day lg) day) (L 1) col left J (J 1) (lf r) r.length = 0
        · rw [if_pos hh, if_pos (hiff.mpr hh)]
        · rw [if_neg hh, if_neg (fun h => hh (hiff.mp h))]
  cases hl : prm n 6 with
  | nil => rw [hl] at c2; cases c2
  | cons p l =>
    rw [hl] at c2 c1 c3
    simp only [List.head?_cons, Option.some.injEq] at c2
    subst c2
    have := gen l (rmB n 6) w N c1 (fun q hq => by rw [hl]; exact hq) (by simp at c3; omega) Fr.rf hr
    exact this
