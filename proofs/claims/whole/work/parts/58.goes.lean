/-! 58: a day that goes -/
def idE (p : List Nat) (e : Nat) : List Nat := (List.range p.length).filter (fun x => decide (e ≤ p.idxOf x))
section
variable {n : Nat} {p : List Nat}
theorem idx_lt (hn : p.Nodup) {i : Nat} (hi : i < p.length) : p.idxOf (lf p i) = i := by
  obtain ⟨a, b⟩ := lf_idxOf (getD_mem (l := p) hi)
  exact lf_inj hn _ _ a hi b
theorem drop_filter (hn : p.Nodup) (e : Nat) : p.filter (fun x => decide (e ≤ p.idxOf x)) = p.drop e := by
  have h : p.take e ++ p.drop e = p := List.take_append_drop e p
  have h1 : (p.take e).filter (fun x => decide (e ≤ p.idxOf x)) = [] := by
    rw [List.filter_eq_nil_iff]
    intro x hx
    obtain ⟨i, hi, rfl⟩ := List.getElem_of_mem hx
    rw [List.length_take] at hi
    have : (p.take e)[i] = lf p i := by
      rw [List.getElem_take]; unfold lf; rw [List.getD_eq_getElem?_getD, List.getElem?_eq_getElem (by omega)]; rfl
    rw [this, idx_lt hn (by omega)]
    simp; omega
  have h2 : (p.drop e).filter (fun x => decide (e ≤ p.idxOf x)) = p.drop e := by
    rw [List.filter_eq_self]
    intro x hx
    obtain ⟨i, hi, rfl⟩ := List.getElem_of_mem hx
    rw [List.length_drop] at hi
    have : (p.drop e)[i] = lf p (e + i) := by
      rw [List.getElem_drop]; unfold lf; rw [List.getD_eq_getElem?_getD, List.getElem?_eq_getElem (by omega)]; rfl
    rw [this, idx_lt hn (by omega)]
    simp
  calc p.filter _ = (p.take e ++ p.drop e).filter (fun x => decide (e ≤ p.idxOf x)) := by rw [h]
    _ = _ := by rw [List.filter_append, h1, h2]; rfl
theorem idE_mem {e x : Nat} : x ∈ idE p e ↔ x < p.length ∧ e ≤ p.idxOf x := by
  unfold idE; simp
theorem idE_nodup {e : Nat} : (idE p e).Nodup := List.nodup_range.filter _
theorem idE_perm (hp : p.Perm (List.range p.length)) (e : Nat) : (p.drop e).Perm (idE p e) := by
  rw [← drop_filter (perm_facts hp).2.2.1]
  exact hp.filter _
theorem idE_len (hp : p.Perm (List.range p.length)) (e : Nat) : (idE p e).length = p.length - e := by
  rw [← (idE_perm hp e).length_eq, List.length_drop]
theorem idE_up (hp : p.Perm (List.range p.length)) {e : Nat} (he : e < p.length) : idE p (e + 1) = (idE p e).erase (lf p e) := by
  have hn := (perm_facts hp).2.2.1
  have hall := (perm_facts hp).2.2.2
  rw [List.Nodup.erase_eq_filter idE_nodup]
  unfold idE
  rw [List.filter_filter]
  apply List.filter_congr
  intro x hx
  have hxp := hall x (by simpa using hx)
  obtain ⟨a, b⟩ := lf_idxOf hxp
  by_cases h : x = lf p e
  · subst h
    rw [idx_lt hn he]; simp
  · have : p.idxOf x ≠ e := fun q => h (by rw [← b, q])
    simp only [bne, beq_false_of_ne h, Bool.not_false, Bool.true_and]
    congr 1
    apply propext
    omega
end
theorem CBd.cgr {b n : Nat} {J J' : Nat → Nat → Nat} {L lost nig : Nat → Nat} {day col left : Nat} {till : Int32} {p : List Nat} {w : AW} (h : CBd b n J L lost nig day col left till p w) (e : ∀ y, y < n → ∀ k, J k y = J' k y) : CBd b n J' L lost nig day col left till p w := by
  refine ⟨⟨h.1.1, fun y hy => ?_⟩, h.2⟩
  have := h.1.2 y hy
  simp only [e y hy] at this
  exact this
/-- a day under way, on both sides -/
def DayI (n : Nat) (J : Nat → Nat → Nat) (L lost nig : Nat → Nat) (day : Nat) (p : List Nat) (wC wM : AW) (e : Nat) (wC' wM' : AW) : Prop :=
  ∃ (rs : Nat → Nat) (pc ps : Nat) (till : Int32), e ≤ n ∧ pc ≤ 1 ∧ ps ≤ 3 ∧ (∀ x, x < n → rs x ≤ 9 ∧ (rs x = 0 ↔ p.idxOf x < e)) ∧ CBd 1 (n - e) (repJ (idE p e) rs J) L lost nig day pc ps till ((p.drop e).map (fun w => (idE p e).idxOf w)) wC' ∧ Fr TG wC wC' ∧
    MP pc ps wM' ∧ (∀ x, x < n → wM'.1 13 x = nI (rs x)) ∧ wM'.1 0 8 = till ∧ Fr (fun o k => o == 13 || o == 14 || (o == 0 && (k == 8 || k == 29 || k == 30))) wM wM'
section
variable {n : Nat} {J : Nat → Nat → Nat} {L lost nig : Nat → Nat} {day col left : Nat} {till : Int32} {p : List Nat} {wC wM : AW}
theorem bJ_rep {e : Nat} {rs : Nat → Nat} (hp : p.Perm (List.range n)) (bj : bJ n J) (hr : ∀ x, x < n → rs x ≤ 9 ∧ (rs x = 0 ↔ p.idxOf x < e)) : bJ (n - e) (repJ (idE p e) rs J) := by
  have hl : p.length = n := (perm_facts hp).1
  subst hl
  intro z hz
  have hz' : z < (idE p e).length := by rw [idE_len hp]; exact hz
  have hm := getD_mem (l := idE p e) hz'
  obtain ⟨m1, m2⟩ := idE_mem.mp hm
  have m1' : lf (idE p e) z < p.length := m1
  have m2' : e ≤ p.idxOf (lf (idE p e) z) := m2
  obtain ⟨b0, b1, b2, b3, b4, b5⟩ := bj _ m1'
  obtain ⟨r1, r2⟩ := hr _ m1'
  have : rs (lf (idE p e) z) ≠ 0 := fun q => by have := r2.mp q; omega
  simp only [repJ, Nat.reduceEqDiff, if_false, if_true]
  refine ⟨b0, by omega, r1, b3, b4, b5⟩
theorem pl_facts {e : Nat} (hp : p.Perm (List.range n)) : ((p.drop e).map (fun w => (idE p e).idxOf w)).Perm (List.range (n - e)) := by
  have hl : p.length = n := (perm_facts hp).1
  subst hl
  refine (perm_of_sub List.nodup_range (fun z hz => ?_) ?_).symm
  · have hz' : z < (idE p e).length := by rw [idE_len hp]; simpa using hz
    rw [List.mem_map]
    exact ⟨lf (idE p e) z, (idE_perm hp e).mem_iff.mpr (getD_mem hz'), idx_lt idE_nodup hz'⟩
  · rw [List.length_map, List.length_drop, List.length_range]
theorem day_step (hn : n ≤ 6) (bj : bJ n J) (b : bL L lost nig day col left) (hp : p.Perm (List.range n)) (hM : MBd n J L lost nig day col left till p wM) {NC NM : Nat} (hNC : 20 < NC)
    {e : Nat} {c m : AW} (hi : DayI n J L lost nig day p wC wM e c m) (he : e < n) :
    ∃ c' m' r, fX1_workSlot NC 1 (c.1 11 0) c = some (r, c') ∧ ((r = 0 ∧ ∃ m', fX12_works (m.1 7 e) m = some (0, m') ∧ DayI n J L lost nig day p wC wM e c' m') ∨
      (r = 1 ∧ ∃ m1 v, fX12_works (m.1 7 e) m = some (1, m1) ∧ m1.1 7 e = nI (lf p e) ∧ fX12_worthOf (nI (lf p e)) (setI m1 14 (lf p e) (m1.1 0 5)) = some v ∧ m' = setI (setI m1 14 (lf p e) (m1.1 0 5)) 0 8 ((setI m1 14 (lf p e) (m1.1 0 5)).1 0 8 + v) ∧ DayI n J L lost nig day p wC wM (e + 1) c' m')) := by
  obtain ⟨rs, pc, ps, tl, -, hpc, hps, hrs, hc, fc, hP, hR, hT, fm⟩ := hi
  obtain ⟨hpl, hpm, hnd, hall⟩ := perm_facts hp
  have hx : lf p e < n := hpm _ (getD_mem (l := p) (i := e) (by omega))
  have bj2 := bJ_rep (e := e) hp bj hrs
  have pf := pl_facts (e := e) hp
  obtain ⟨q1, q2, q3, q4⟩ := perm_facts pf
  have hxm : lf p e ∈ idE p e := idE_mem.mpr ⟨by omega, by rw [idx_lt hnd (by omega)]; exact Nat.le_refl _⟩
  obtain ⟨y1, y2⟩ := lf_idxOf hxm
  have hl : (idE p e).length = n - e := by subst hpl; exact idE_len hp e
  have hd : p.drop e = lf p e :: p.drop (e + 1) := by
    rw [← List.getElem_cons_drop (by omega)]
    congr 1
    unfold lf; rw [List.getD_eq_getElem?_getD, List.getElem?_eq_getElem (by omega)]; rfl
  have hc0 : c.1 11 0 = nI ((idE p e).idxOf (lf p e)) := hc.2.2.2.2.1 0 _ (by rw [hd]; rfl)
  -- the reference's side
  have hJm : MJs n J m := hM.1.fr fm (fun k => rfl)
  have hLm : MLs L lost nig day col left m := hM.2.1.fr fm (fun k => rfl) (fun k => rfl) (fun k => rfl) rfl rfl rfl
  have h7 : m.1 7 e = nI (lf p e) := by rw [fm.at' _ rfl]; exact hM.2.2.1.get (by omega)
  obtain ⟨rx1, rx2⟩ := hrs _ hx
  rw [idx_lt hnd (by omega)] at rx2
  have rx0 : rs (lf p e) ≠ 0 := fun q => by have := rx2.mp q; omega
  obtain ⟨m1, w1, w2, w3, w4⟩ := slotM_ev hJm hLm b.2.2.1 (fun j hj => (bj j hj).2.2.2.1) (by omega) hx hP hpc hps (r := rs (lf p e) - 1) (by rw [hR _ hx]; congr 1; omega) (by omega)
  obtain ⟨s1, s2, s3⟩ := slotC_ev (N := NC) hc bj2 (by omega) (show (idE p e).idxOf (lf p e) < n - e by omega) q1 q2 b.2.2.1 b.2.2.2.1 b.2.2.2.2.2.2.2.1 hpc hps hNC
  have e2 : repJ (idE p e) rs J 2 ((idE p e).idxOf (lf p e)) = J 2 (lf p e) := by simp [repJ, y2]
  have e1 : repJ (idE p e) rs J 1 ((idE p e).idxOf (lf p e)) = rs (lf p e) := by simp [repJ, y2]
  rw [e2] at s1 s2 s3
  rw [e1] at s2 s3
  obtain ⟨b0, b1, b2, b3, b4, b5⟩ := bj _ hx
  generalize hps1 : (if J 2 (lf p e) = pc then ps else L 1) = ps1 at *
  have bp1 : ps1 ≤ 3 := by rw [← hps1]; have := b.2.2.1; split <;> omega
  have F1 := w2.wd (T' := fun o k => o == 13 || o == 14 || (o == 0 && (k == 8 || k == 29 || k == 30))) (fun o k q => by simp at q ⊢; omega)
  have hm13 : ∀ x, x < n → x ≠ lf p e → m1.1 13 x = nI (rs x) := fun x hx hne => by rw [w2.at' _ (by simp [hne])]; exact hR x hx
  have hm8 : m1.1 0 8 = tl := by rw [w2.at' _ rfl]; exact hT
  by_cases hz : ps1 = 0
  · subst hz
    by_cases hr2 : 2 ≤ rs (lf p e)
    · obtain ⟨c', c1, c2, c3⟩ := s2 rfl hr2
      refine ⟨c', m1, 0, by rw [hc0]; exact c1, Or.inl ⟨rfl, m1, ?_, fun x => if x = lf p e then rs x - 1 else rs x, J 2 (lf p e), 0, tl, by omega, b3, by omega, fun x hx' => ?_, c3.cgr (fun z hz' k => ?_), fc.tr c2, w3, fun x hx' => ?_, hm8, fm.tr F1⟩⟩
      · rw [h7, w1, if_neg (by omega)]; rfl
      · show (if x = lf p e then rs x - 1 else rs x) ≤ 9 ∧ ((if x = lf p e then rs x - 1 else rs x) = 0 ↔ p.idxOf x < e)
        by_cases hq : x = lf p e
        · subst hq; rw [if_pos rfl, idx_lt hnd (by omega)]; omega
        · rw [if_neg hq]; exact hrs x hx'
      · by_cases hk : k = 1
        · subst hk
          by_cases hq : z = (idE p e).idxOf (lf p e)
          · subst hq; simp [sbJ, repJ, y2]
          · have : lf (idE p e) z ≠ lf p e := fun g => hq (by rw [← g, idx_lt idE_nodup (by omega)])
            simp [sbJ, repJ, hq, this]
        · simp [sbJ, repJ, hk]
      · show m1.1 13 x = nI (if x = lf p e then rs x - 1 else rs x)
        by_cases hq : x = lf p e
        · subst hq; rw [if_pos rfl]; simp [w4]
        · rw [if_neg hq]; exact hm13 x hx' hq
    · obtain ⟨c', c1, c2, c3⟩ := s3 rfl (by omega)
      have ev : fX12_worthOf (nI (lf p e)) (setI m1 14 (lf p e) (m1.1 0 5)) = some (zI (vOf (L 2) J (lf p e) day)) := by
        have F2 : Fr (fun o k => o == 14) m1 (setI m1 14 (lf p e) (m1.1 0 5)) := Fr.set (by simp)
        refine worthOf_ev ((hJm.fr w2 (fun k => rfl)).fr F2 (fun k => rfl)) bj (by omega) (by rw [F2.at' _ rfl, w2.at' _ rfl]; exact hLm.1 2 (by omega)) b.2.2.2.1 hx ?_ (by have := b.2.2.2.2.2.2.2.1; omega)
        simp only [setI1, and_self, if_true]
        rw [w2.at' _ rfl]; exact hLm.2.2.2.1
      refine ⟨c', _, 1, by rw [hc0]; exact c1, Or.inr ⟨rfl, m1, _, ?_, ?_, ev, rfl, fun x => if x = lf p e then 0 else rs x, J 2 (lf p e), 0, tl + zI (vOf (L 2) J (lf p e) day), by omega, b3, by omega, fun x hx' => ?_, ?_, fc.tr c2, ⟨?_, ?_⟩, fun x hx' => ?_, ?_, ?_⟩⟩
      · rw [h7, w1, if_pos (by omega)]; rfl
      · rw [w2.at' _ rfl]; exact h7
      · show (if x = lf p e then 0 else rs x) ≤ 9 ∧ ((if x = lf p e then 0 else rs x) = 0 ↔ p.idxOf x < e + 1)
        by_cases hq : x = lf p e
        · subst hq; rw [if_pos rfl, idx_lt hnd (by omega)]; omega
        · rw [if_neg hq]
          obtain ⟨g1, g2⟩ := hrs x hx'
          refine ⟨g1, ⟨fun g => by have := g2.mp g; omega, fun g => g2.mpr ?_⟩⟩
          obtain ⟨a1, a2⟩ := lf_idxOf (hall x hx')
          have : p.idxOf x ≠ e := fun g => hq (by rw [← a2, g])
          omega
      · rw [rmJ_rep, rmP_rep idE_nodup hxm (hnd.sublist (List.drop_sublist e p)) (fun w hw => (idE_perm (by subst hpl; exact hp) e).mem_iff.mp hw)] at c3
        have ed : (p.drop e).erase (lf p e) = p.drop (e + 1) := by rw [hd, List.erase_cons_head]
        have eu : (idE p e).erase (lf p e) = idE p (e + 1) := by subst hpl; exact (idE_up hp he).symm
        have ev2 : vOf (L 2) (repJ (idE p e) rs J) ((idE p e).idxOf (lf p e)) day = vOf (L 2) J (lf p e) day := by
          unfold vOf; simp [repJ, y2]
        rw [ed, eu, ev2] at c3
        rw [show n - e - 1 = n - (e + 1) by omega] at c3
        refine c3.cgr (fun z hz' k => ?_)
        have hl2 : (idE p (e + 1)).length = n - (e + 1) := by subst hpl; exact idE_len hp (e + 1)
        have hm2 : lf (idE p (e + 1)) z ∈ idE p (e + 1) := getD_mem (by omega)
        have : lf (idE p (e + 1)) z ≠ lf p e := fun g => by
          have := (idE_mem.mp hm2).2
          rw [g, idx_lt hnd (by omega)] at this
          omega
        simp [repJ, this]
      · simp [setI1, w3.1]
      · simp [setI1, w3.2]
      · show (setI (setI m1 14 (lf p e) (m1.1 0 5)) 0 8 _).1 13 x = nI (if x = lf p e then 0 else rs x)
        have : (setI (setI m1 14 (lf p e) (m1.1 0 5)) 0 8 ((setI m1 14 (lf p e) (m1.1 0 5)).1 0 8 + zI (vOf (L 2) J (lf p e) day))).1 13 x = m1.1 13 x := by simp [setI1]
        rw [this]
        by_cases hq : x = lf p e
        · subst hq; rw [if_pos rfl, w4, if_pos rfl]; congr 1; omega
        · rw [if_neg hq]; exact hm13 x hx' hq
      · simp [setI1, hm8]
      · exact fm.tr (F1.tr ((Fr.set (by simp)).tr (Fr.set (by simp))))
  · obtain ⟨c', c1, c2, c3⟩ := s1 (by omega)
    refine ⟨c', m1, 0, by rw [hc0]; exact c1, Or.inl ⟨rfl, m1, ?_, rs, J 2 (lf p e), ps1 - 1, tl, by omega, b3, by omega, hrs, c3, fc.tr c2, w3, fun x hx' => ?_, hm8, fm.tr F1⟩⟩
    · rw [h7, w1, if_neg (by omega)]; rfl
    · by_cases hq : x = lf p e
      · subst hq; rw [w4, if_neg hz]; congr 1; omega
      · exact hm13 x hx' hq
theorem day_loop (hn : n ≤ 6) (bj : bJ n J) (b : bL L lost nig day col left) (hp : p.Perm (List.range n)) (hM : MBd n J L lost nig day col left till p wM) {S : Nat} (hS : S ≤ 100) {N : Nat} (hN : 20 < N) :
    ∀ s i e c m NC NM, i + s = S → s < NC → s < NM → DayI n J L lost nig day p wC wM e c m →
    ∃ e' c' m', wh (lbX1_workDay_13_1 N 1 (nI S)) NC (nI e, nI i, c) = some (nI e', c') ∧ wh (lbX12_goes_34_1 N) NM (nI s, nI e, nI e, m) = some (nI e', m') ∧ DayI n J L lost nig day p wC wM e' c' m' := by
  intro s
  induction s with
  | zero =>
    intro i e c m NC NM his h1 h2 hi
    obtain ⟨NC, rfl⟩ : ∃ k, NC = k + 1 := ⟨NC - 1, by omega⟩
    obtain ⟨NM, rfl⟩ : ∃ k, NM = k + 1 := ⟨NM - 1, by omega⟩
    refine ⟨e, c, m, wh_out ?_, wh_out ?_, hi⟩
    · simp (disch := omega) only [lbX1_workDay_13_1, nle, if_pos (show S ≤ i by omega)]
    · simp only [lbX12_goes_34_1, n0, Int32.le_refl, if_true]
  | succ s ih =>
    intro i e c m NC NM his h1 h2 hi
    obtain ⟨NC, rfl⟩ : ∃ k, NC = k + 1 := ⟨NC - 1, by omega⟩
    obtain ⟨NM, rfl⟩ : ∃ k, NM = k + 1 := ⟨NM - 1, by omega⟩
    have hi' := hi
    obtain ⟨rs, pc, ps, tl, hen, hpc, hps, hrs, hc, fc, hP, hR, hT, fm⟩ := hi'
    have c0 : c.1 2 0 = nI (n - e) := hc.1.1
    have m0 : m.1 0 0 = nI n := by rw [fm.at' _ rfl]; exact hM.2.2.2.1
    obtain ⟨hpl, hpm, hnd, hall⟩ := perm_facts hp
    by_cases hq : n ≤ e
    · refine ⟨e, c, m, wh_out ?_, wh_out ?_, hi⟩
      · simp (disch := omega) only [lbX1_workDay_13_1, n0, nle, if_neg (show ¬ S ≤ i by omega), c0, if_pos (show n - e ≤ 0 by omega)]
      · simp (disch := omega) only [lbX12_goes_34_1, n0, nle, if_neg (show ¬ s + 1 ≤ 0 by omega), m0, hq, if_true]
    · have h7 : m.1 7 e = nI (lf p e) := by rw [fm.at' _ rfl]; exact hM.2.2.1.get (by omega)
      have hx : lf p e < n := hpm _ (getD_mem (l := p) (i := e) (by omega))
      have hs1 : nI (s + 1) + -1 = nI s := by rw [n1, nsubm (by omega)]; rfl
      obtain ⟨c', m', r, e1, e2⟩ := day_step hn bj b hp hM (NM := 0) hN hi (by omega)
      rcases e2 with ⟨rfl, m2, g1, g2⟩ | ⟨rfl, m1, v, g1, g2, g3, rfl, g5⟩
      · obtain ⟨e', c'', m'', k1, k2, k3⟩ := ih (i + 1) e c' m2 NC NM (by omega) (by omega) (by omega) g2
        refine ⟨e', c'', m'', ?_, ?_, k3⟩
        · rw [wh_step ?_]; exact k1
          simp (disch := omega) only [lbX1_workDay_13_1, Nat.reduceAdd, n0, n1, nle, if_neg (show ¬ S ≤ i by omega), c0, if_neg (show ¬ n - e ≤ 0 by omega), ntn, e1, bd2_some', if_true, nadd]
        · rw [wh_step ?_]; exact k2
          simp (disch := omega) only [lbX12_goes_34_1, n0, nle, if_neg (show ¬ s + 1 ≤ 0 by omega), m0, if_neg hq, gd_n, ntn, g1, bd2_some', if_true, hs1]
      · obtain ⟨e', c'', m'', k1, k2, k3⟩ := ih (i + 1) (e + 1) c' _ NC NM (by omega) (by omega) (by omega) g5
        refine ⟨e', c'', m'', ?_, ?_, k3⟩
        · rw [wh_step ?_]; exact k1
          simp (disch := omega) only [lbX1_workDay_13_1, Nat.reduceAdd, n0, n1, nle, if_neg (show ¬ S ≤ i by omega), c0, if_neg (show ¬ n - e ≤ 0 by omega), ntn, e1, bd2_some', neq, show ¬ (1 = 0) by omega, if_false, nadd]
        · rw [wh_step ?_]; exact k2
          have h7' : (setI m1 14 (lf p e) (m1.1 0 5)).1 7 e = nI (lf p e) := by simp [setI1, g2]
          simp (disch := omega) only [lbX12_goes_34_1, n0, nle, if_neg (show ¬ s + 1 ≤ 0 by omega), m0, if_neg hq, gd_n, ntn, g1, bd2_some', bd_some', show (1 : Int32) = nI 1 from rfl, neq, show ¬ (1 = 0) by omega, if_false, g2, lw_eq, h7', g3, nadd]
          rw [show nI (s + 1) + -nI 1 = nI s from hs1]
end
