/-! 68: a day goes -/
section
variable {dy : Nat → Nat} {st c0 l0 fine n M : Nat} {J : Nat → Nat → Nat}
/-- behind the first job it counts nothing how many slots have gone -/
theorem vL_shift {D : Nat → Nat} {u0 c1 l1 : Nat} : ∀ {l : List Nat} {u was : Nat}, 0 < u → vL (fun v => D (u0 + 1 + v)) st c1 l1 fine J u was l = vL (fun v => D (u0 + v)) st c0 l0 fine J (u + 1) was l := by
  intro l
  induction l with
  | nil => intro u was _; rfl
  | cons j l ih =>
    intro u was hu
    have e : uB st c0 l0 J (J 1) (u + 1) was j = uB st c1 l1 J (J 1) u was j + 1 := by
      unfold uB
      rw [if_neg (show ¬ u + 1 = 0 by omega), if_neg (show ¬ u = 0 by omega)]
      omega
    have hp : 0 < uB st c1 l1 J (J 1) u was j := by unfold uB; omega
    have i := ih (u := uB st c1 l1 J (J 1) u was j) (was := J 2 j) hp
    simp only [vL, e, i]
    rw [show u0 + 1 + uB st c1 l1 J (J 1) u was j = u0 + (uB st c1 l1 J (J 1) u was j + 1) by omega]
theorem vL_map {J' : Nat → Nat → Nat} {f : Nat → Nat} : ∀ {l : List Nat} {u was : Nat}, (∀ j ∈ l, ∀ k, k ≤ 4 → J' k (f j) = J k j) → vL dy st c0 l0 fine J' u was (l.map f) = vL dy st c0 l0 fine J u was l := by
  intro l
  induction l with
  | nil => intro u was _; rfl
  | cons j l ih =>
    intro u was h
    have hj := h j List.mem_cons_self
    have e : uB st c0 l0 J' (J' 1) u was (f j) = uB st c0 l0 J (J 1) u was j := by unfold uB; rw [hj 1 (by omega), hj 2 (by omega)]
    have i := ih (u := uB st c0 l0 J (J 1) u was j) (was := J 2 j) (fun i hi => h i (List.mem_cons_of_mem _ hi))
    have hv : ∀ e, vOf fine J' (f j) e = vOf fine J j e := fun e => by unfold vOf; rw [hj 0 (by omega), hj 3 (by omega), hj 4 (by omega)]
    simp only [List.map_cons, vL, e, hv, hj 2 (by omega), i]
theorem vL_dy {dy' : Nat → Nat} (hd : ∀ u, 1 ≤ u → u ≤ M → dy u = dy' u) (bj : bJ n J) (h2 : st ≤ 3) (h3 : l0 ≤ 3) : ∀ {l : List Nat} {u was : Nat}, (∀ j ∈ l, j < n) → u + 12 * l.length ≤ M → vL dy st c0 l0 fine J u was l = vL dy' st c0 l0 fine J u was l := by
  intro l
  induction l with
  | nil => intro u was _ _; rfl
  | cons j l ih =>
    intro u was hl hM
    have hj := hl j List.mem_cons_self
    have b := uB_pos (st := st) (c0 := c0) (l0 := l0) (J := J) (u := u) (was := was) (bj j hj).2.1
    have c := uB_le21 (st := st) (c0 := c0) (l0 := l0) (u := u) (was := was) bj hj h2 h3
    simp only [List.length_cons] at hM
    have i := ih (u := uB st c0 l0 J (J 1) u was j) (was := J 2 j) (fun i hi => hl i (List.mem_cons_of_mem _ hi)) (by omega)
    simp only [vL, i, hd _ b (by omega)]
theorem bJ_sb {y : Nat} (h : bJ n J) (hy : 2 ≤ J 1 y) : bJ n (sbJ J y) := fun j hj => by
  obtain ⟨b0, b1, b2, b3, b4, b5⟩ := h j hj
  simp only [sbJ]
  refine ⟨by simp; exact b0, ?_, ?_, by simp; exact b3, by simp; exact b4, by simp; exact b5⟩
  · by_cases q : j = y
    · subst q; simp; omega
    · simp [q]; exact b1
  · by_cases q : j = y
    · subst q; simp; omega
    · simp [q]; exact b2
end
theorem dyS_now {S : Nat → Nat} {d u : Nat} (h : u ≤ S d) : dyS S d u = d := by
  unfold dyS
  rw [show (187 : Nat) = 186 + 1 from rfl, dyF, if_pos h]
theorem dyS_next {S : Nat → Nat} {d u : Nat} (hd : d + 1 ≤ 60) (h : ∀ d, 60 < d → 1 ≤ S d) (h1 : 1 ≤ u) (h2 : S d + u ≤ 126) : dyS S d (S d + u) = dyS S (d + 1) u := by
  have a := dyS_is (S := S) (d0 := d) (u := S d + u) (by omega) h (by omega) h2
  obtain ⟨b1, b2, b3⟩ := dyS_is (S := S) (d0 := d + 1) (u := u) hd h h1 (by omega)
  refine isD_uniq a ⟨by omega, ?_, ?_⟩
  · rw [show dyS S (d + 1) u - d = (dyS S (d + 1) u - (d + 1)) + 1 by omega, cmS_shift]; omega
  · rw [show dyS S (d + 1) u - d = (dyS S (d + 1) u - (d + 1)) + 1 by omega, cmS_shift]; omega
section
variable {n : Nat} {J : Nat → Nat → Nat} {L lost nig : Nat → Nat} {day col left : Nat} {p : List Nat} {w : AW}
/-- how it stands behind some slots of a day: e have ended -/
def DayS (n : Nat) (L lost nig : Nat → Nat) (day : Nat) (w0 : AW) (F : Int) (u0 e : Nat) (w : AW) : Prop :=
  ∃ m J pc ps t pl, e + m = n ∧ bJ m J ∧ pc ≤ 1 ∧ ps ≤ 3 ∧ pl.Perm (List.range m) ∧ CBd 1 m J L lost nig day pc ps (zI t) pl w ∧ Fr T1 w0 w ∧ t + vL (fun v => dyS (sOf L lost nig) day (u0 + v)) (L 1) pc ps (L 2) J 0 0 pl = F
theorem day_slot (hn : n ≤ 6) (b1 : L 1 ≤ 3) (bf : L 2 ≤ 99) (bd : day ≤ 60) {w0 : AW} {F : Int} {u0 e : Nat} (hu : u0 + 1 ≤ sOf L lost nig day) (h : DayS n L lost nig day w0 F u0 e w) (he : e < n) {N : Nat} (hN : 20 < N) :
    ∃ w' r, fX1_workSlot N 1 (w.1 11 0) w = some (nI r, w') ∧ r ≤ 1 ∧ DayS n L lost nig day w0 F (u0 + 1) (e + r) w' := by
  obtain ⟨m, J, pc, ps, t, pl, hm, bj, hpc, hps, hp, hc, hF, hV⟩ := h
  obtain ⟨hpl, hpm, hnd, hall⟩ := perm_facts hp
  have hm0 : 0 < m := by omega
  cases pl with
  | nil => simp at hpl; omega
  | cons y l =>
    have hy : y < m := hpm y List.mem_cons_self
    have hc0 : w.1 11 0 = nI y := hc.2.2.2.2.1 0 y rfl
    obtain ⟨s1, s2, s3⟩ := slotC_ev (N := N) hc bj (by omega) hy hpl hpm b1 bf bd hpc hps hN
    obtain ⟨q0, q1, q2, q3, q4, q5⟩ := bj y hy
    have hyl : y ∉ l := (List.nodup_cons.mp hnd).1
    have hu1 : uB (L 1) pc ps J (J 1) 0 0 y = (if J 2 y = pc then ps else L 1) + J 1 y := by unfold uB; simp
    have hTG : ∀ w', Fr TG w w' → Fr T1 w0 w' := fun w' f => hF.tr (f.wd (fun o k q => q))
    generalize hee : (if J 2 y = pc then ps else L 1) = ee at *
    have hee3 : ee ≤ 3 := by rw [← hee]; split <;> omega
    simp only [vL, hu1] at hV
    by_cases hz : ee = 0
    · subst hz
      by_cases h2 : 2 ≤ J 1 y
      · obtain ⟨w', e1, e2, e3⟩ := s2 rfl h2
        refine ⟨w', 0, by rw [hc0]; exact e1, by omega, m, sbJ J y, J 2 y, 0, t, y :: l, by omega, bJ_sb bj h2, q3, by omega, hp, e3, hTG w' e2, ?_⟩
        have hl2 : ∀ j ∈ l, ∀ k, k ≤ 4 → sbJ J y k j = J k j := fun j hj k _ => by
          have : j ≠ y := fun q => hyl (q ▸ hj)
          simp [sbJ, this]
        have hu2 : uB (L 1) (J 2 y) 0 (sbJ J y) (sbJ J y 1) 0 0 y = J 1 y - 1 := by unfold uB; simp [sbJ]
        have hc2 : sbJ J y 2 y = J 2 y := by simp [sbJ]
        simp only [vL, hu2, hc2, vOf_sb]
        rw [(vL_cgr hl2).1, vL_shift (c0 := pc) (l0 := ps) (by omega)]
        rw [show u0 + 1 + (J 1 y - 1) = u0 + (0 + J 1 y) by omega, show J 1 y - 1 + 1 = 0 + J 1 y by omega]
        exact hV
      · obtain ⟨w', e1, e2, e3⟩ := s3 rfl (by omega)
        have h1 : J 1 y = 1 := by omega
        have hrm : rmP y (y :: l) = l.map (dcr y) := by
          unfold rmP
          rw [List.filter_cons_of_neg (by simp), List.filter_eq_self.mpr (fun x hx => by
            have : x ≠ y := fun q => hyl (q ▸ hx)
            simpa using this)]
        refine ⟨w', 1, by rw [hc0]; exact e1, by omega, m - 1, rmJ y J, J 2 y, 0, t + vOf (L 2) J y day, rmP y (y :: l), by omega, bJ_rm bj, q3, by omega, rmP_perm hp hy, ?_, hTG w' e2, ?_⟩
        · rw [← zadd]; exact e3
        · have hd : dyS (sOf L lost nig) day (u0 + (0 + J 1 y)) = day := dyS_now (by omega)
          simp only [hd] at hV
          rw [hrm, vL_map (J := J) (fun j hj k _ => ?_)]
          · rw [Int.add_assoc]
            rw [← hV]
            congr 2
            cases l with
            | nil => rfl
            | cons k l =>
              have hp0 : 0 < (if J 2 k = J 2 y then 0 else L 1) + J 1 k := by
                have := (bj k (hpm k (by simp))).2.1; omega
              have f1 : uB (L 1) (J 2 y) 0 J (J 1) 0 0 k = (if J 2 k = J 2 y then 0 else L 1) + J 1 k := by unfold uB; simp
              have f2 : uB (L 1) pc ps J (J 1) (0 + J 1 y) (J 2 y) k = (if J 2 k = J 2 y then 0 else L 1) + J 1 k + 1 := by
                unfold uB; rw [if_neg (by omega)]; omega
              simp only [vL, f1, f2]
              rw [vL_shift (c0 := pc) (l0 := ps) hp0]
              rw [show u0 + 1 + ((if J 2 k = J 2 y then 0 else L 1) + J 1 k) = u0 + ((if J 2 k = J 2 y then 0 else L 1) + J 1 k + 1) by omega]
          · have : j ≠ y := fun q => hyl (q ▸ hj)
            simp only [rmJ, dcr]
            split
            · split
              · omega
              · rw [Nat.sub_add_cancel (by omega)]
            · rw [if_pos (by omega)]
    · obtain ⟨w', e1, e2, e3⟩ := s1 (by omega)
      refine ⟨w', 0, by rw [hc0]; exact e1, by omega, m, J, J 2 y, ee - 1, t, y :: l, by omega, bj, q3, by omega, hp, e3, hTG w' e2, ?_⟩
      have hu2 : uB (L 1) (J 2 y) (ee - 1) J (J 1) 0 0 y = ee - 1 + J 1 y := by unfold uB; simp
      simp only [vL, hu2]
      rw [vL_shift (c0 := pc) (l0 := ps) (by omega)]
      rw [show u0 + 1 + (ee - 1 + J 1 y) = u0 + (ee + J 1 y) by omega, show ee - 1 + J 1 y + 1 = ee + J 1 y by omega]
      exact hV
theorem day_run (hn : n ≤ 6) (b1 : L 1 ≤ 3) (bf : L 2 ≤ 99) (bd : day ≤ 60) {w0 : AW} {F : Int} {N : Nat} (hN : 20 < N) (hS : sOf L lost nig day ≤ 100) :
    ∀ s u0 e NC w, u0 + s = sOf L lost nig day → s < NC → DayS n L lost nig day w0 F u0 e w →
    ∃ e' w', wh (lbX1_workDay_13_1 N 1 (nI (sOf L lost nig day))) NC (nI e, nI u0, w) = some (nI e', w') ∧ DayS n L lost nig day w0 F (sOf L lost nig day) e' w' := by
  intro s
  induction s with
  | zero =>
    intro u0 e NC w hu hNC h
    obtain ⟨NC, rfl⟩ : ∃ k, NC = k + 1 := ⟨NC - 1, by omega⟩
    refine ⟨e, w, wh_out ?_, by rw [show sOf L lost nig day = u0 by omega]; exact h⟩
    simp (disch := omega) only [lbX1_workDay_13_1, nle, if_pos (show sOf L lost nig day ≤ u0 by omega)]
  | succ s ih =>
    intro u0 e NC w hu hNC h
    obtain ⟨NC, rfl⟩ : ∃ k, NC = k + 1 := ⟨NC - 1, by omega⟩
    obtain ⟨m, J, pc, ps, t, pl, hm, bj, hpc, hps, hp, hc, hF, hV⟩ := id h
    have c0 : w.1 2 0 = nI m := hc.1.1
    by_cases hq : m = 0
    · refine ⟨e, w, wh_out ?_, m, J, pc, ps, t, pl, hm, bj, hpc, hps, hp, hc, hF, ?_⟩
      · simp (disch := omega) only [lbX1_workDay_13_1, Nat.reduceAdd, n0, nle, if_neg (show ¬ sOf L lost nig day ≤ u0 by omega), c0, if_pos (show m ≤ 0 by omega)]
      · have hpl : pl = [] := by
          have := hp.length_eq
          rw [hq] at this
          exact List.eq_nil_of_length_eq_zero (by simpa using this)
        subst hpl
        exact hV
    · obtain ⟨w', r, e1, hr, e2⟩ := day_slot hn b1 bf bd (by omega) h (by omega) hN
      obtain ⟨e', w'', k1, k2⟩ := ih (u0 + 1) (e + r) NC w' (by omega) (by omega) e2
      refine ⟨e', w'', ?_, k2⟩
      rw [wh_step ?_]
      · exact k1
      · have hr01 : r = 0 ∨ r = 1 := by omega
        rcases hr01 with rfl | rfl
        · simp (disch := omega) only [lbX1_workDay_13_1, Nat.reduceAdd, n0, n1, nle, if_neg (show ¬ sOf L lost nig day ≤ u0 by omega), c0, if_neg (show ¬ m ≤ 0 by omega), ntn, e1, bd2_some', if_true, nadd, Nat.add_zero]
        · simp (disch := omega) only [lbX1_workDay_13_1, Nat.reduceAdd, n0, n1, nle, if_neg (show ¬ sOf L lost nig day ≤ u0 by omega), c0, if_neg (show ¬ m ≤ 0 by omega), ntn, e1, bd2_some', neq, show ¬ (1 = 0) by omega, if_false, nadd]
theorem c_goes {t : Int} (ok : okB n J L lost nig day col left p) (hc : CBd 1 n J L lost nig day col left (zI t) p w) (hd : day < 60) :
    ∃ w' e J' pc ps t' p', fX11_goes N0 w = some (nI e, w') ∧ e ≤ n ∧ Fr T1 w w' ∧ okB (n - e) J' L lost nig (day + 1) pc ps p' ∧ CBd 1 (n - e) J' L lost nig (day + 1) pc ps (zI t') p' w' ∧
      t' + wN (dyS (sOf L lost nig) (day + 1)) (L 1) pc ps (L 2) J' (J' 1) (lf p') (n - e) = t + wN (dyS (sOf L lost nig) day) (L 1) col left (L 2) J (J 1) (lf p) n := by
  have hN := N0_big
  obtain ⟨hn, bj, b, hp⟩ := ok
  obtain ⟨hpl, hpm, hnd, hall⟩ := perm_facts hp
  have hsb := sOf_le (d := day) b
  have hsl : fX1_slotsOn 1 (w.1 1 5) w = some (nI (sOf L lost nig day)) := by
    rw [hc.2.2.2.2.2.1]
    exact slotsOn_ev (b := 1) hc.2.1 hc.2.2.1 hc.2.2.2.1 b.2.1 b.2.2.2.2.2.1 b.2.2.2.2.2.2.1 (by omega)
  have h0 : DayS n L lost nig day w (t + wN (dyS (sOf L lost nig) day) (L 1) col left (L 2) J (J 1) (lf p) n) 0 0 w := by
    refine ⟨n, J, col, left, t, p, by omega, bj, b.2.2.2.2.2.2.2.2.1, b.2.2.2.2.2.2.2.2.2, hp, hc, Fr.rf, ?_⟩
    have e := vL_wN (dy := dyS (sOf L lost nig) day) (st := L 1) (c0 := col) (l0 := left) (fine := L 2) (J := J) (l := p)
    rw [hpl] at e
    rw [e]
    simp only [Nat.zero_add]
  obtain ⟨e, w1, k1, m, J', pc, ps, t', pl, hm, bj', hpc, hps, hp', hc', hF, hV⟩ := day_run (N := N0) hn b.2.2.1 b.2.2.2.1 b.2.2.2.2.2.2.2.1 (by omega) (by omega) (sOf L lost nig day) 0 0 N0 w (by omega) (by omega) h0
  have k1' : wh (lbX1_workDay_13_1 N0 1 (nI (sOf L lost nig day))) N0 (0, 0, w) = some (nI e, w1) := k1
  have hday : w1.1 1 5 = nI day := hc'.2.2.2.2.2.1
  have fs : Fr (fun o k => o == 1 && k == 5) w1 (setI w1 1 5 (nI (day + 1))) := Fr.set (by simp)
  have hme : m = n - e := by omega
  subst hme
  obtain ⟨hpl', hpm', -⟩ := perm_facts hp'
  refine ⟨setI w1 1 5 (nI (day + 1)), e, J', pc, ps, t', pl, ?_, by omega, hF.tr (fs.wd (fun o k q => by simp [T1] at q ⊢; omega)), ⟨by omega, bj', ⟨b.1, b.2.1, b.2.2.1, b.2.2.2.1, b.2.2.2.2.1, b.2.2.2.2.2.1, b.2.2.2.2.2.2.1, by omega, hpc, hps⟩, hp'⟩, ?_, ?_⟩
  · have hlt : w.1 1 5 < 60 := by rw [hc.2.2.2.2.2.1, n60, nlt (by omega) (by omega)]; exact hd
    simp only [fX11_goes, hlt, if_true, fX1_workDay, hsl, bd_some', k1', lw_eq, bd2_some', hday]
    rw [show nI day + 1 = nI (day + 1) by rw [n1, nadd]]
  · obtain ⟨a1, a2, a3, a4, a5, a6, a7, a8, a9⟩ := hc'
    refine ⟨a1.fr fs (fun i hi k => by simp; omega), fun i hi => ?_, fun i hi => ?_, fun i hi => ?_, fun i v hv => ?_, by simp [setI1], ?_, ?_, ?_⟩
    · rw [fs.at' _ rfl]; exact a2 i hi
    · rw [fs.at' _ rfl]; exact a3 i hi
    · rw [fs.at' _ rfl]; exact a4 i hi
    · rw [fs.at' _ rfl]; exact a5 i v hv
    · rw [fs.at' _ rfl]; exact a7
    · rw [fs.at' _ rfl]; exact a8
    · rw [fs.at' _ rfl]; exact a9
  · rw [← hV]
    congr 1
    have e1 := vL_wN (dy := dyS (sOf L lost nig) (day + 1)) (st := L 1) (c0 := pc) (l0 := ps) (fine := L 2) (J := J') (l := pl)
    rw [hpl'] at e1
    rw [e1]
    refine (vL_dy (M := 100) (fun u h1 h2 => ?_) bj' b.2.2.1 hps (fun j hj => hpm' j hj) (by omega)).symm
    exact dyS_next (by omega) (sOf_pos b.1) h1 (by omega)
end
