/-! 59: a day gone -/
section
variable {n : Nat} {J : Nat → Nat → Nat} {p : List Nat}
def restL (l : List Nat) (rs : Nat → Nat) (j : Nat) : List Nat := l.filter (fun x => decide (x < j) || decide (rs x ≠ 0))
theorem restL_step {l : List Nat} {rs : Nat → Nat} {j : Nat} (hl : l.Nodup) : restL l rs j = if rs j = 0 then (restL l rs (j + 1)).erase j else restL l rs (j + 1) := by
  by_cases h : rs j = 0
  · rw [if_pos h]
    unfold restL
    rw [List.Nodup.erase_eq_filter (hl.filter _), List.filter_filter]
    apply List.filter_congr
    intro x hx
    by_cases hq : x = j
    · subst hq; simp [h]
    · simp only [bne, beq_false_of_ne hq, Bool.not_false, Bool.true_and]
      congr 2
      apply propext; omega
  · rw [if_neg h]
    unfold restL
    apply List.filter_congr
    intro x hx
    by_cases hq : x = j
    · subst hq; simp [h]
    · congr 2
      apply propext; omega
theorem restL_all {l : List Nat} {rs : Nat → Nat} {j : Nat} (h : ∀ x ∈ l, x < j) : restL l rs j = l := by
  unfold restL
  rw [List.filter_eq_self]
  intro x hx
  simp [h x hx]
theorem restL_idx {rs : Nat → Nat} {j : Nat} (hj : j < n) : (restL (List.range n) rs (j + 1)).idxOf j = j := by
  obtain ⟨m, rfl⟩ : ∃ m, n = (j + 1) + m := ⟨n - (j + 1), by omega⟩
  have h1 : restL (List.range (j + 1)) rs (j + 1) = List.range (j + 1) := restL_all (fun x hx => by simpa using hx)
  unfold restL at h1 ⊢
  rw [List.range_add, List.filter_append, h1, List.idxOf_append, if_pos (by simp)]
  have := idx_lt (p := List.range (j + 1)) List.nodup_range (i := j) (by simp)
  rwa [show lf (List.range (j + 1)) j = j by unfold lf; simp [List.getD_eq_getElem?_getD]] at this
theorem MJs.cgr {J' : Nat → Nat → Nat} {w : AW} (h : MJs n J w) (e : ∀ y, y < n → ∀ k, k < 5 → J k y = J' k y) : MJs n J' w := fun j hj i hi => by rw [h j hj i hi, e j hj i hi]
theorem put_ev {w : AW} {rs : Nat → Nat} {N : Nat} (z : Int32) (hJ : MJs n J w) (h0 : w.1 0 0 = nI n) (hr : ∀ x, x < n → w.1 13 x = nI (rs x)) (hn : n ≤ 6) (hN : 20 < N) :
    ∃ w', wh (lbX12_goes_124_2 N z) N (0, w) = some w' ∧ Fr (fun o _ => o == 1) w w' ∧ MJs n (fun k y => if k = 1 then rs y else J k y) w' := by
  have key := wh_cnt (body := lbX12_goes_124_2 N z) (n := n)
    (I := fun i s => ∃ w1, s = (nI i, w1) ∧ Fr (fun o _ => o == 1) w w1 ∧ MJs n (fun k y => if k = 1 ∧ y < i then rs y else J k y) w1)
    (Q := fun w1 => Fr (fun o _ => o == 1) w w1 ∧ MJs n (fun k y => if k = 1 then rs y else J k y) w1)
    ?_ ?_ (N := N) (i := 0) (s := (0, w)) ⟨w, rfl, Fr.rf, hJ.cgr (fun y hy k _ => by rw [if_neg (by omega)])⟩ (Nat.zero_le _) (by omega)
  · obtain ⟨w', e1, e2, e3⟩ := key
    exact ⟨w', e1, e2, e3⟩
  · rintro i s hi ⟨w1, rfl, hF, h3⟩
    have cnt : w1.1 0 0 = nI n := by rw [hF.at' _ rfl]; exact h0
    have e13 : w1.1 13 i = nI (rs i) := by rw [hF.at' _ rfl]; exact hr i hi
    refine ⟨(nI (i + 1), setI w1 1 (5 * i + 1) (nI (rs i))), ?_, _, rfl, hF.tr (Fr.set (by simp)), fun y hy k hk => ?_⟩
    · simp (disch := omega) only [lbX12_goes_124_2, n0, n1, n2, n3, n4, n5, n6, n7, n8, n9, n10, n13, n16, n18, n20, n30, n32, n40, n48, n57, n59, n60, n64, n97, n99, n122, n126, n186, n200, n1000000, nadd, nmul, nlt, nle, neq, ntn, gd_n, lw_eq, bd_some', bd2_some', gd_true, cnt, if_neg (show ¬ n ≤ i by omega), e13]
    · have := h3 y hy k hk
      simp only [setI1, true_and]
      by_cases hq : 5 * y + k = 5 * i + 1
      · have h1 : y = i := by omega
        have h2 : k = 1 := by omega
        subst h1 h2
        simp
      · rw [if_neg hq, this]
        congr 1
        show (if k = 1 ∧ y < i then rs y else J k y) = (if k = 1 ∧ y < i + 1 then rs y else J k y)
        by_cases hk1 : k = 1
        · subst hk1
          have : y ≠ i := by omega
          by_cases hyi : y < i
          · rw [if_pos ⟨rfl, hyi⟩, if_pos ⟨rfl, by omega⟩]
          · rw [if_neg (by omega), if_neg (by omega)]
        · rw [if_neg (by omega), if_neg (by omega)]
  · rintro s ⟨w1, rfl, hF, h3⟩
    have cnt : w1.1 0 0 = nI n := by rw [hF.at' _ rfl]; exact h0
    refine ⟨w1, ?_, hF, h3.cgr (fun y hy k _ => ?_)⟩
    · simp only [lbX12_goes_124_2, cnt, Int32.le_refl, if_true]
    · by_cases hk1 : k = 1
      · rw [if_pos ⟨hk1, hy⟩, if_pos hk1]
      · rw [if_neg (by omega), if_neg hk1]
theorem rem_ev {w : AW} {rs : Nat → Nat} {N : Nat} (z : Int32) (hp : p.Perm (List.range n)) (hJ : MJs n (fun k y => if k = 1 then rs y else J k y) w) (h0 : w.1 0 0 = nI n) (hr : rowL (w.1 7) p) (hn : n ≤ 6) (hrs : ∀ x, x < n → rs x ≤ 9) (hN : 50 < N) :
    ∃ w', wh (lbX12_goes_165_3 N z) N (nI n - 1, w) = some w' ∧ Fr (fun o k => o == 1 || o == 7 || (o == 0 && k == 0)) w w' ∧ MJs (restL (List.range n) rs 0).length (repJ (restL (List.range n) rs 0) rs J) w' ∧ w'.1 0 0 = nI (restL (List.range n) rs 0).length ∧ rowL (w'.1 7) ((restL p rs 0).map (fun x => (restL (List.range n) rs 0).idxOf x)) := by
  obtain ⟨hpl, hpm, hnd, hall⟩ := perm_facts hp
  have key := wh_cnt (body := lbX12_goes_165_3 N z) (n := n)
    (I := fun i s => i ≤ n ∧ ∃ w1, s = (nI (n - i) - 1, w1) ∧ Fr (fun o k => o == 1 || o == 7 || (o == 0 && k == 0)) w w1 ∧ MJs (restL (List.range n) rs (n - i)).length (repJ (restL (List.range n) rs (n - i)) rs J) w1 ∧ w1.1 0 0 = nI (restL (List.range n) rs (n - i)).length ∧ rowL (w1.1 7) ((restL p rs (n - i)).map (fun x => (restL (List.range n) rs (n - i)).idxOf x)))
    (Q := fun w' => Fr (fun o k => o == 1 || o == 7 || (o == 0 && k == 0)) w w' ∧ MJs (restL (List.range n) rs 0).length (repJ (restL (List.range n) rs 0) rs J) w' ∧ w'.1 0 0 = nI (restL (List.range n) rs 0).length ∧ rowL (w'.1 7) ((restL p rs 0).map (fun x => (restL (List.range n) rs 0).idxOf x)))
    ?_ ?_ (N := N) (i := 0) (s := (nI n - 1, w)) ?_ (Nat.zero_le _) (by omega)
  · obtain ⟨w', e1, e2⟩ := key
    exact ⟨w', e1, e2⟩
  · rintro i s hi ⟨_, w1, rfl, hF, h3, h4, h5⟩
    obtain ⟨j, hj⟩ : ∃ j, n - i = j + 1 := ⟨n - i - 1, by omega⟩
    have hj2 : n - (i + 1) = j := by omega
    rw [hj] at h3 h4 h5
    rw [hj2, hj]
    have hjn : j < n := by omega
    have ix := restL_idx (rs := rs) hjn
    have jm : j ∈ restL (List.range n) rs (j + 1) := by unfold restL; simp [hjn]
    obtain ⟨a1, a2⟩ := lf_idxOf jm
    rw [ix] at a1 a2
    have hx1 : nI (j + 1) - 1 = nI j := by rw [n1, nsub (by omega)]; rfl
    have hx2 : nI j + -1 = nI j - 1 := by rw [Int32.sub_eq_add_neg]
    have hlen : (restL (List.range n) rs (j + 1)).length ≤ n := by
      have := List.length_filter_le (fun x => decide (x < j + 1) || decide (rs x ≠ 0)) (List.range n)
      rw [List.length_range] at this; exact this
    have ei := its_ev h3 a1 (by omega) (show 1 < 5 by omega)
    rw [show repJ (restL (List.range n) rs (j + 1)) rs J 1 j = rs j by simp [repJ, a2]] at ei
    have st := restL_step (rs := rs) (j := j) (l := List.range n) List.nodup_range
    have sp := restL_step (rs := rs) (j := j) (l := p) hnd
    have hb := hrs j hjn
    rw [hx1]
    have hnn : ¬ nI j < 0 := by rw [n0, nlt (by omega) (by omega)]; omega
    by_cases hz : rs j = 0
    · rw [if_pos hz] at st sp
      have hq : (restL p rs (j + 1)).Nodup := hnd.filter _
      have hs : ∀ x ∈ restL p rs (j + 1), x ∈ restL (List.range n) rs (j + 1) := fun x hx => by
        unfold restL at hx ⊢
        obtain ⟨u1, u2⟩ := List.mem_filter.mp hx
        exact List.mem_filter.mpr ⟨by simpa using hpm x u1, u2⟩
      have hperm : ((restL p rs (j + 1)).Perm (restL (List.range n) rs (j + 1))) := hp.filter _
      obtain ⟨w2, g1, g2, g3, g4, g5⟩ := goesAway_ev (N := N) (j := j) h3 h4 h5 (by rw [List.length_map]; exact hperm.length_eq) (fun x hx => by
        rw [List.mem_map] at hx
        obtain ⟨y, y1, rfl⟩ := hx
        exact (lf_idxOf (hs y y1)).1) a1 (by omega) hN
      have rj := rmJ_rep (ids := restL (List.range n) rs (j + 1)) (x := j) (rs := rs) (J := J)
      have rp := rmP_rep (ids := restL (List.range n) rs (j + 1)) (x := j) (q := restL p rs (j + 1)) (List.nodup_range.filter _) jm hq hs
      rw [ix] at rj rp
      rw [rj, ← st] at g3
      rw [rp, ← st, ← sp] at g5
      have hl : (restL (List.range n) rs (j + 1)).length - 1 = (restL (List.range n) rs j).length := by rw [st, List.length_erase_of_mem jm]
      rw [hl] at g3 g4
      refine ⟨(nI j - 1, w2), ?_, by omega, w2, rfl, hF.tr g2, g3, g4, g5⟩
      simp only [lbX12_goes_165_3, hnn, if_false, show (1 : Int32) = nI 1 from rfl, ei, hz, bd_some', show nI 0 = 0 from rfl, if_true, g1]
      rw [show nI j + -nI 1 = nI j - nI 1 from hx2]
    · rw [if_neg hz] at st sp
      have hne : ¬ nI (rs j) = 0 := by rw [n0, neq (by omega) (by omega)]; exact hz
      refine ⟨(nI j - 1, w1), ?_, by omega, w1, rfl, hF, by rw [st]; exact h3, by rw [st]; exact h4, by rw [st, sp]; exact h5⟩
      simp only [lbX12_goes_165_3, hnn, if_false, show (1 : Int32) = nI 1 from rfl, ei, bd_some', hne]
      rw [show nI j + -nI 1 = nI j - nI 1 from hx2]
  · rintro s ⟨_, w1, rfl, hF, h3, h4, h5⟩
    rw [Nat.sub_self] at h3 h4 h5 ⊢
    refine ⟨w1, ?_, hF, h3, h4, h5⟩
    simp only [lbX12_goes_165_3, show (nI 0 - 1 < 0) = True from eq_true (by decide), if_true]
  · rw [Nat.sub_zero]
    have ea : restL (List.range n) rs n = List.range n := restL_all (fun x hx => by simpa using hx)
    have ep : restL p rs n = p := restL_all hpm
    have eg : ∀ y, y < n → lf (List.range n) y = y := fun y hy => by unfold lf; simp [List.getD_eq_getElem?_getD, hy]
    have ei : ∀ x, x < n → (List.range n).idxOf x = x := fun x hx => by
      have := idx_lt (p := List.range n) List.nodup_range (i := x) (by simpa using hx)
      rwa [eg x hx] at this
    rw [ea, ep, List.length_range]
    refine ⟨Nat.zero_le _, w, rfl, Fr.rf, hJ.cgr (fun y hy k hk => by unfold repJ; rw [eg y hy]), h0, ?_⟩
    have : p.map (fun x => (List.range n).idxOf x) = p := by
      conv => rhs; rw [← List.map_id p]
      apply List.map_congr_left
      intro x hx
      rw [ei x (hpm x hx)]; rfl
    rw [this]; exact hr
end
theorem st_goes {wC wM : AW} (h : Rel wC wM) : ∃ r wC' wM', fX11_goes N0 wC = some (r, wC') ∧ fX12_goes N0 wM = some (r, wM') ∧ Rel wC' wM' := by
  obtain ⟨n, J, L, lost, nig, day, col, left, till, p, ok, hc, hm⟩ := h.1
  have hN := N0_big
  obtain ⟨hn, bj, b, hp⟩ := ok
  obtain ⟨hpl, hpm, hnd, hall⟩ := perm_facts hp
  have bd := b.2.2.2.2.2.2.2.1
  have d1 : wC.1 1 5 = nI day := hc.2.2.2.2.2.1
  have d2 : wM.1 0 5 = nI day := hm.2.1.2.2.2.1
  by_cases h60 : day = 60
  · refine ⟨-4, wC, wM, ?_, ?_, h⟩
    · simp (disch := omega) only [fX11_goes, d1, n60, nlt, if_neg (show ¬ day < 60 by omega)]
    · simp only [fX12_goes, d2, h60, show nI 60 = 60 from rfl, if_true]
  · have hm0 : wM.1 0 0 = nI n := hm.2.2.2.1
    have hrow : rowL (wM.1 7) p := hm.2.2.1
    obtain ⟨m0, l1, l2, l3, l4⟩ := lends_ev (N := N0) (m := 0) hm.1 hm.2.1 bj hn (by omega) (by omega)
    have hsl : fX12_slotsOf (nI day) m0 = some (nI (sOf L lost nig day)) := slotsOf_ev (hm.2.1.fr l2 (fun k => rfl) (fun k => rfl) (fun k => rfl) rfl rfl rfl) b (by omega)
    have hsc : fX1_slotsOn 1 (nI day) wC = some (nI (sOf L lost nig day)) := slotsOn_ev hc.2.1 hc.2.2.1 hc.2.2.2.1 b.2.1 b.2.2.2.2.2.1 b.2.2.2.2.2.2.1 (by omega)
    have hS : sOf L lost nig day ≤ 13 := by
      unfold sOf
      rw [if_pos (by omega)]
      have := b.2.1; have := b.2.2.2.2.2.2.1 day (by omega)
      omega
    have e0 : idE p 0 = List.range n := by
      unfold idE; rw [hpl]; rw [List.filter_eq_self]; intro x _; simp
    have eg : ∀ y, y < n → lf (List.range n) y = y := fun y hy => by unfold lf; simp [List.getD_eq_getElem?_getD, hy]
    have ei : ∀ x, x < n → (List.range n).idxOf x = x := fun x hx => by
      have := idx_lt (p := List.range n) List.nodup_range (i := x) (by simpa using hx)
      rwa [eg x hx] at this
    have i0 : DayI n J L lost nig day p wC wM 0 wC m0 := by
      refine ⟨fun x => J 1 x, col, left, till, Nat.zero_le _, b.2.2.2.2.2.2.2.2.1, b.2.2.2.2.2.2.2.2.2, fun x hx => ?_, ?_, Fr.rf, l3, fun x hx => ?_, by rw [l2.at' _ rfl]; exact hm.2.2.2.2, l2.wd (fun o k q => by simp at q ⊢; omega)⟩
      · obtain ⟨c0, c1, c2, c3⟩ := bj x hx
        exact ⟨c2, by show J 1 x = 0 ↔ _; omega⟩
      · rw [e0, Nat.sub_zero, List.drop_zero]
        have : p.map (fun x => (List.range n).idxOf x) = p := by
          conv => rhs; rw [← List.map_id p]
          apply List.map_congr_left
          intro x hx
          rw [ei x (hpm x hx)]; rfl
        rw [this]
        refine hc.cgr (fun y hy k => ?_)
        unfold repJ
        rw [eg y hy]
        split
        · rename_i hk; rw [hk]
        · rfl
      · rw [l4 x hx]; congr 1; unfold Rd; simp
    obtain ⟨e, wC', wM', k1, k2, k3⟩ := day_loop (N := N0) hn bj b hp hm (S := sOf L lost nig day) (by omega) (by omega) (sOf L lost nig day) 0 0 wC m0 N0 N0 (by omega) (by omega) (by omega) i0
    obtain ⟨rs, pc, ps, tl, hen, hpc, hps, hrs, hc', fc, hP, hR, hT, fm⟩ := k3
    -- the reference puts the press down
    have F1 : Fr (fun o k => o == 0 && (k == 6 || k == 7)) wM' (setI (setI wM' 0 6 (wM'.1 0 29)) 0 7 ((setI wM' 0 6 (wM'.1 0 29)).1 0 30)) := (Fr.set (by simp)).tr (Fr.set (by simp))
    generalize hw2 : setI (setI wM' 0 6 (wM'.1 0 29)) 0 7 ((setI wM' 0 6 (wM'.1 0 29)).1 0 30) = w2 at F1
    have h6 : w2.1 0 6 = nI pc := by rw [← hw2]; simp [setI1, hP.1]
    have h7 : w2.1 0 7 = nI ps := by rw [← hw2]; simp [setI1, hP.2]
    obtain ⟨w3, p1, p2, p3⟩ := put_ev (N := N0) (nI e) (J := J) (rs := rs) (w := w2) ((hm.1.fr fm (fun k => rfl)).fr F1 (fun k => rfl)) (by rw [F1.at' _ rfl, fm.at' _ rfl]; exact hm0) (fun x hx => by rw [F1.at' _ rfl]; exact hR x hx) hn (by omega)
    have c3 : w3.1 0 0 = nI n := by rw [p2.at' _ rfl, F1.at' _ rfl, fm.at' _ rfl]; exact hm0
    obtain ⟨w4, q1, q2, q3, q4, q5⟩ := rem_ev (N := N0) (J := J) (rs := rs) (w := w3) (nI e) hp p3 c3 (fun i v hv => by rw [p2.at' _ rfl, F1.at' _ rfl, fm.at' _ rfl]; exact hrow i v hv) hn (fun x hx => (hrs x hx).1) (by omega)
    have er : restL (List.range n) rs 0 = idE p e := by
      unfold restL idE
      rw [hpl]
      apply List.filter_congr
      intro x hx
      obtain ⟨r1, r2⟩ := hrs x (by simpa using hx)
      by_cases hz : rs x = 0
      · have := r2.mp hz
        simp [hz]; omega
      · have : ¬ p.idxOf x < e := fun g => hz (r2.mpr g)
        simp [hz]; omega
    have ep : restL p rs 0 = p.drop e := by
      rw [← drop_filter hnd]
      unfold restL
      apply List.filter_congr
      intro x hx
      obtain ⟨r1, r2⟩ := hrs x (hpm x hx)
      by_cases hz : rs x = 0
      · have := r2.mp hz
        simp [hz]; omega
      · have : ¬ p.idxOf x < e := fun g => hz (r2.mpr g)
        simp [hz]; omega
    have el : (idE p e).length = n - e := by subst hpl; exact idE_len hp e
    rw [er] at q3 q4 q5
    rw [ep] at q5
    rw [el] at q3 q4
    have d5 : w4.1 0 5 = nI day := by rw [q2.at' _ rfl, p2.at' _ rfl, F1.at' _ rfl, fm.at' _ rfl]; exact d2
    have dC : wC'.1 1 5 = nI day := hc'.2.2.2.2.2.1
    have FC : Fr (fun o k => o == 1 && k == 5) wC' (setI wC' 1 5 (nI (day + 1))) := Fr.set (by simp)
    have FM : Fr (fun o k => o == 0 && k == 5) w4 (setI w4 0 5 (nI (day + 1))) := Fr.set (by simp)
    have FMa : Fr (fun o k => o == 1 || o == 7 || o == 13 || o == 14 || (o == 0 && (k == 0 || k == 5 || k == 6 || k == 7 || k == 8 || k == 29 || k == 30))) wM (setI w4 0 5 (nI (day + 1))) :=
      (fm.wd (fun o k q => by simp at q ⊢; omega)).tr ((F1.wd (fun o k q => by simp at q ⊢; omega)).tr ((p2.wd (fun o k q => by simp at q ⊢; omega)).tr ((q2.wd (fun o k q => by simp at q ⊢; omega)).tr (FM.wd (fun o k q => by simp at q ⊢; omega)))))
    have FM2 : Fr (fun o k => o == 1 || o == 7 || (o == 0 && (k == 0 || k == 5))) w2 (setI w4 0 5 (nI (day + 1))) := (p2.wd (fun o k q => by simp at q ⊢; omega)).tr ((q2.wd (fun o k q => by simp at q ⊢; omega)).tr (FM.wd (fun o k q => by simp at q ⊢; omega)))
    refine ⟨nI e, setI wC' 1 5 (nI (day + 1)), setI w4 0 5 (nI (day + 1)), ?_, ?_, h.brd ((fc.wd (fun o k q => q)).tr (FC.wd (fun o k q => by simp [TG] at q ⊢; omega))) FMa (fun o k g1 g2 => by simp [TG]; omega) (fun o k g1 g2 => ?_) ⟨n - e, repJ (idE p e) rs J, L, lost, nig, day + 1, pc, ps, tl, (p.drop e).map (fun w => (idE p e).idxOf w), ⟨by omega, bJ_rep hp bj hrs, ?_, pl_facts hp⟩, ?_, ?_⟩⟩
    · have a1 : nI day + 1 = nI (day + 1) := by rw [n1, nadd]
      simp (disch := omega) only [fX11_goes, d1, n60, nlt, if_pos (show day < 60 by omega), fX1_workDay, hsc, bd_some', show ((0 : Int32), (0 : Int32), wC) = (nI 0, nI 0, wC) from rfl, k1, lw_eq, dC, a1, bd2_some']
    · have a1 : nI day + 1 = nI (day + 1) := by rw [n1, nadd]
      have hne : ¬ nI day = 60 := by rw [n60, neq (by omega) (by omega)]; exact h60
      have l1' : fX12_lends N0 (nI n) 0 wM = some m0 := l1
      have m5 : m0.1 0 5 = nI day := by rw [l2.at' _ rfl]; exact d2
      have k2' : wh (lbX12_goes_34_1 N0) N0 (nI (sOf L lost nig day), 0, 0, m0) = some (nI e, wM') := k2
      simp only [fX12_goes, d2, hne, if_false, hm0, l1', bd_some', m5, hsl, k2', lw_eq, hw2, p1, c3, q1, d5, a1]
    · simp only [mB, Bool.or_eq_false_iff, Bool.and_eq_false_iff, beq_eq_false_iff_ne] at g2
      simp only [pM, Bool.or_eq_true, Bool.and_eq_true, beq_iff_eq, decide_eq_true_eq] at g1
      simp; omega
    · obtain ⟨b0, b1, b2, b3, b4, b5, b6, b7, b8, b9⟩ := b
      exact ⟨b0, b1, b2, b3, b4, b5, b6, by omega, hpc, hps⟩
    · obtain ⟨a1, a2, a3, a4, a5, a6, a7, a8, a9⟩ := hc'
      exact ⟨a1.fr FC (fun i hi k => by simp; omega), fun i hi => by rw [FC.at' _ (by simp)]; exact a2 i hi, fun i hi => by rw [FC.at' _ (by simp)]; exact a3 i hi, fun i hi => by rw [FC.at' _ (by simp)]; exact a4 i hi, fun i v hv => by rw [FC.at' _ (by simp)]; exact a5 i v hv, by simp [setI1], by rw [FC.at' _ (by simp)]; exact a7, by rw [FC.at' _ (by simp)]; exact a8, by rw [FC.at' _ (by simp)]; exact a9⟩
    · refine ⟨q3.fr FM (fun k => rfl), ⟨fun i hi => ?_, fun i hi => ?_, fun i hi => ?_, by simp [setI1], ?_, ?_⟩, fun i v hv => by rw [FM.at' _ rfl]; exact q5 i v hv, by rw [FM.at' _ rfl]; exact q4, ?_⟩
      · rw [FMa.at' _ rfl]; exact hm.2.1.1 i hi
      · rw [FMa.at' _ rfl]; exact hm.2.1.2.1 i hi
      · rw [FMa.at' _ rfl]; exact hm.2.1.2.2.1 i hi
      · rw [FM2.at' _ rfl]; exact h6
      · rw [FM2.at' _ rfl]; exact h7
      · rw [FM2.at' _ rfl, F1.at' _ rfl]; exact hT
