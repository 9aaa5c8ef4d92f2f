/-! 57: a slot of a day that goes -/
theorem CBd.press {n : Nat} {J : Nat → Nat → Nat} {L lost nig : Nat → Nat} {day col left col' left' : Nat} {till till' : Int32} {p : List Nat} {w w' : AW} (h : CBd 1 n J L lost nig day col left till p w) (f : Fr (fun o k => o == 1 && (k == 6 || k == 7 || k == 8)) w w') (h6 : w'.1 1 6 = nI col') (h7 : w'.1 1 7 = nI left') (h8 : w'.1 1 8 = till') : CBd 1 n J L lost nig day col' left' till' p w' := by
  obtain ⟨a1, a2, a3, a4, a5, a6, a7, a8, a9⟩ := h
  exact ⟨a1.fr f (fun i hi k => by simp; omega), fun i hi => by rw [f.at' _ (by simp)]; exact a2 i hi, fun i hi => by rw [f.at' _ (by simp)]; exact a3 i hi, fun i hi => by rw [f.at' _ (by simp)]; exact a4 i hi, fun i v hv => by rw [f.at' _ (by simp)]; exact a5 i v hv, by rw [f.at' _ rfl]; exact a6, h6, h7, h8⟩
def sbJ (J : Nat → Nat → Nat) (y : Nat) : Nat → Nat → Nat := fun k z => if k = 1 ∧ z = y then J 1 y - 1 else J k z
theorem rmJ_sb {J : Nat → Nat → Nat} {y : Nat} : rmJ y (sbJ J y) = rmJ y J := by
  funext k z
  unfold rmJ sbJ
  by_cases h : z < y
  · simp only [h, if_true]; rw [if_neg (by omega)]
  · simp only [h, if_false]; rw [if_neg (by omega)]
theorem vOf_sb {fine y e : Nat} {J : Nat → Nat → Nat} {z : Nat} : vOf fine (sbJ J y) z e = vOf fine J z e := by
  unfold vOf sbJ
  simp
def TG (o _k : Nat) : Bool := decide (1 ≤ o) && decide (o ≤ 11)
theorem slotC_ev {m y N : Nat} {J : Nat → Nat → Nat} {L lost nig : Nat → Nat} {day pc ps : Nat} {till : Int32} {pl : List Nat} {w : AW} (h : CBd 1 m J L lost nig day pc ps till pl w) (bj : bJ m J) (hm : m ≤ 6) (hy : y < m) (hpl : pl.length = m) (hpm : ∀ x ∈ pl, x < m) (bL1 : L 1 ≤ 3) (bf : L 2 ≤ 99) (bd : day ≤ 60) (bpc : pc ≤ 1) (bps : ps ≤ 3) (hN : 20 < N) :
    (0 < (if J 2 y = pc then ps else L 1) → ∃ w', fX1_workSlot N 1 (nI y) w = some (0, w') ∧ Fr TG w w' ∧ CBd 1 m J L lost nig day (J 2 y) ((if J 2 y = pc then ps else L 1) - 1) till pl w') ∧
    ((if J 2 y = pc then ps else L 1) = 0 → 2 ≤ J 1 y → ∃ w', fX1_workSlot N 1 (nI y) w = some (0, w') ∧ Fr TG w w' ∧ CBd 1 m (sbJ J y) L lost nig day (J 2 y) 0 till pl w') ∧
    ((if J 2 y = pc then ps else L 1) = 0 → J 1 y = 1 → ∃ w', fX1_workSlot N 1 (nI y) w = some (1, w') ∧ Fr TG w w' ∧ CBd 1 (m - 1) (rmJ y J) L lost nig day (J 2 y) 0 (till + zI (vOf (L 2) J y day)) (rmP y pl) w') := by
  obtain ⟨j0, j1, j2, j3, j4⟩ := h.1.2 y hy
  obtain ⟨b0, b1, b2, b3, b4, b5⟩ := bj y hy
  have eh := has_wI (o := 2) (w := w) (nI y) h.1.1 (by omega)
  have hw : wI (nI y) 0 (nI m - 1) = 1 := wI_below (by omega) hy
  have h10 : ¬ (1 : Int32) = 0 := by decide
  have hg : ∀ {β : Type} {k : Option β}, gd (inb (nI y) 6) k = k := fun {β k} => gd_n (by omega) (by omega)
  have ht : (nI y).toNatClampNeg = y := ntn (by omega)
  have jc : w.1 5 y = nI (J 2 y) := j2
  have h6 := h.2.2.2.2.2.2.1
  have hL1 : w.1 8 1 = nI (L 1) := h.2.1 1 (by omega)
  -- the press has its colour
  have start : ∃ w1, fX1_workSlot N 1 (nI y) w = bX1_workSlot_52 N 1 (nI y) w1 ∧ Fr TG w w1 ∧ CBd 1 m J L lost nig day (J 2 y) (if J 2 y = pc then ps else L 1) till pl w1 := by
    by_cases hc : J 2 y = pc
    · refine ⟨w, ?_, Fr.rf, by rw [if_pos hc, hc]; exact h⟩
      simp only [fX1_workSlot, Nat.reduceAdd, eh, hw, bd_some', h10, if_false, hg, ht, jc, h6, hc, if_true]
    · have hcc : ¬ nI (J 2 y) = nI pc := by rw [neq (by omega) (by omega)]; exact hc
      have F : Fr (fun o k => o == 1 && (k == 6 || k == 7 || k == 8)) w (setI (setI w 1 6 (nI (J 2 y))) 1 7 (nI (L 1))) := (Fr.set (by simp)).tr (Fr.set (by simp))
      refine ⟨setI (setI w 1 6 (nI (J 2 y))) 1 7 (nI (L 1)), ?_, F.wd (fun o k q => by simp [TG] at q ⊢; omega), h.press F (by simp [setI1]) (by simp [setI1, hc]) (by rw [show (setI (setI w 1 6 (nI (J 2 y))) 1 7 (nI (L 1))).1 1 8 = w.1 1 8 by simp [setI1]]; exact h.2.2.2.2.2.2.2.2)⟩
      have e1 : (setI w 1 6 (nI (J 2 y))).1 8 1 = nI (L 1) := by simp [setI1, hL1]
      simp only [fX1_workSlot, Nat.reduceAdd, eh, hw, bd_some', h10, if_false, hg, ht, jc, h6, hcc, lw_eq, show (1 : Int32).toNatClampNeg = 1 from rfl, e1]
  obtain ⟨w1, s1, s2, s3⟩ := start
  generalize hps : (if J 2 y = pc then ps else L 1) = ps1 at *
  have bp1 : ps1 ≤ 3 := by rw [← hps]; split <;> omega
  have g7 := s3.2.2.2.2.2.2.2.1
  refine ⟨fun h0 => ?_, fun h0 h2 => ?_, fun h0 h2 => ?_⟩
  · have F : Fr (fun o k => o == 1 && (k == 6 || k == 7 || k == 8)) w1 (setI w1 1 7 (nI (ps1 - 1))) := Fr.set (by simp)
    refine ⟨setI w1 1 7 (nI (ps1 - 1)), ?_, s2.tr (F.wd (fun o k q => by simp [TG] at q ⊢; omega)), s3.press F (by rw [show (setI w1 1 7 (nI (ps1 - 1))).1 1 6 = w1.1 1 6 by simp [setI1]]; exact s3.2.2.2.2.2.2.1) (by simp [setI1]) (by rw [show (setI w1 1 7 (nI (ps1 - 1))).1 1 8 = w1.1 1 8 by simp [setI1]]; exact s3.2.2.2.2.2.2.2.2)⟩
    rw [s1]
    simp (disch := omega) only [bX1_workSlot_52, n0, n1, nle, g7, if_neg (show ¬ ps1 ≤ 0 by omega), nsub (show 1 ≤ ps1 by omega), lw_eq]
  · have k1 : w1.1 4 y = nI (J 1 y) := (s3.1.2 y hy).2.1
    have F : Fr (fun o k => o == 4 && k == y) w1 (setI w1 4 y (nI (J 1 y - 1))) := Fr.set (by simp)
    refine ⟨setI w1 4 y (nI (J 1 y - 1)), ?_, s2.tr (F.wd (fun o k q => by simp [TG] at q ⊢; omega)), ?_⟩
    · have hn0 : ¬ nI (J 1 y - 1) ≤ 0 := by rw [n0, nle (by omega) (by omega)]; omega
      rw [s1]
      subst h0
      simp (disch := omega) only [bX1_workSlot_52, Nat.reduceAdd, g7, show nI 0 ≤ 0 from by decide, if_true, hg, ht, k1, n1, nsub (show 1 ≤ J 1 y by omega), lw_eq]
      rw [show (setI w1 4 y (nI (J 1 y - 1))).1 4 y = nI (J 1 y - 1) by simp [setI1], if_neg hn0]
    · subst h0
      refine s3.with F (fun k => by simp) (fun k => by simp) (fun k => by simp) (fun k _ _ => by simp) ⟨by rw [F.at' _ (by simp)]; exact s3.1.1, fun x hx => ?_⟩ (fun i v hv => by rw [F.at' _ (by simp)]; exact s3.2.2.2.2.1 i v hv)
      obtain ⟨x0, x1, x2, x3, x4⟩ := s3.1.2 x hx
      refine ⟨?_, ?_, ?_, ?_, ?_⟩
      · rw [F.at' _ (by simp)]; exact x0
      · show (setI w1 4 y (nI (J 1 y - 1))).1 4 x = _
        by_cases hxy : x = y
        · subst hxy; simp [setI1, sbJ]
        · simp only [setI1, hxy, and_false, if_false, sbJ]; exact x1
      · rw [F.at' _ (by simp)]; exact x2
      · rw [F.at' _ (by simp)]; exact x3
      · rw [F.at' _ (by simp)]; exact x4
  · subst h0
    have k1 : w1.1 4 y = nI (J 1 y) := (s3.1.2 y hy).2.1
    have F : Fr (fun o k => o == 4 && k == y) w1 (setI w1 4 y (nI 0)) := Fr.set (by simp)
    have c2 : CBd 1 m (sbJ J y) L lost nig day (J 2 y) 0 till pl (setI w1 4 y (nI 0)) := by
      refine s3.with F (fun k => by simp) (fun k => by simp) (fun k => by simp) (fun k _ _ => by simp) ⟨by rw [F.at' _ (by simp)]; exact s3.1.1, fun x hx => ?_⟩ (fun i v hv => by rw [F.at' _ (by simp)]; exact s3.2.2.2.2.1 i v hv)
      obtain ⟨x0, x1, x2, x3, x4⟩ := s3.1.2 x hx
      refine ⟨?_, ?_, ?_, ?_, ?_⟩
      · rw [F.at' _ (by simp)]; exact x0
      · show (setI w1 4 y (nI 0)).1 4 x = _
        by_cases hxy : x = y
        · subst hxy; simp [setI1, sbJ, h2]
        · simp only [setI1, hxy, and_false, if_false, sbJ]; exact x1
      · rw [F.at' _ (by simp)]; exact x2
      · rw [F.at' _ (by simp)]; exact x3
      · rw [F.at' _ (by simp)]; exact x4
    -- its worth: by the numbers as they stood
    have ev0 := valueOf_ev (o := 2) (fine := L 2) s3.1 bj hm hy (e := day) (by omega) bf
    have ev : fX4_valueOf 2 (nI y) (nI day) (nI (L 2)) (setI w1 4 y (nI 0)) = some (zI (vOf (L 2) J y day)) := by
      rw [← ev0]
      unfold fX4_valueOf
      simp [setI1]
    have g5 : (setI w1 4 y (nI 0)).1 1 5 = nI day := c2.2.2.2.2.2.1
    have gf : (setI w1 4 y (nI 0)).1 8 2 = nI (L 2) := c2.2.1 2 (by omega)
    have g8 : (setI w1 4 y (nI 0)).1 1 8 = till := c2.2.2.2.2.2.2.2.2
    have F8 : Fr (fun o k => o == 1 && (k == 6 || k == 7 || k == 8)) (setI w1 4 y (nI 0)) (setI (setI w1 4 y (nI 0)) 1 8 (till + zI (vOf (L 2) J y day))) := Fr.set (by simp)
    have c3 := c2.press F8 (col' := J 2 y) (left' := 0) (till' := till + zI (vOf (L 2) J y day)) (by rw [show (setI (setI w1 4 y (nI 0)) 1 8 (till + zI (vOf (L 2) J y day))).1 1 6 = (setI w1 4 y (nI 0)).1 1 6 by simp [setI1]]; exact c2.2.2.2.2.2.2.1) (by rw [show (setI (setI w1 4 y (nI 0)) 1 8 (till + zI (vOf (L 2) J y day))).1 1 7 = (setI w1 4 y (nI 0)).1 1 7 by simp [setI1]]; exact c2.2.2.2.2.2.2.2.1) (by simp [setI1])
    obtain ⟨w2, l1, l2, l3⟩ := leave_ev (N := N) c3 hpl hpm hy hm hN
    rw [rmJ_sb] at l3
    refine ⟨w2, ?_, s2.tr ((F.wd (fun o k q => by simp [TG] at q ⊢; omega)).tr ((F8.wd (fun o k q => by simp [TG] at q ⊢; omega)).tr (l2.wd (fun o k q => by simp [TG] at q ⊢; omega)))), l3⟩
    rw [s1]
    simp (disch := omega) only [bX1_workSlot_52, Nat.reduceAdd, g7, show nI 0 ≤ 0 from by decide, if_true, hg, ht, k1, h2, show nI 1 - 1 = nI 0 from rfl, lw_eq, show (2 : Int32).toNatClampNeg = 2 from rfl]
    rw [show (setI w1 4 y (nI 0)).1 4 y = nI 0 by simp [setI1], if_pos (show nI 0 ≤ 0 by decide), g5, gf, ev, bd_some', g8, l1, bd_some']
/-! lists: positions behind one that goes -/
theorem idxOf_cons' {a w : Nat} {t : List Nat} : (a :: t).idxOf w = if a = w then 0 else t.idxOf w + 1 := by
  rw [List.idxOf_cons]
  by_cases h : a = w
  · subst h; simp
  · have e : (a == w) = false := by simpa using h
    rw [e, if_neg h]; rfl
theorem idx_erase : ∀ {ids : List Nat} {x w : Nat}, ids.Nodup → x ∈ ids → w ∈ ids → w ≠ x → (ids.erase x).idxOf w = dcr (ids.idxOf x) (ids.idxOf w) := by
  intro ids
  induction ids with
  | nil => intro x w _ h; simp at h
  | cons a t ih =>
    intro x w hn hx hw hne
    obtain ⟨h1, h2⟩ := List.nodup_cons.mp hn
    by_cases hax : a = x
    · subst hax
      have hwt : a ≠ w := fun q => hne q.symm
      rw [List.erase_cons_head, idxOf_cons', if_pos rfl, idxOf_cons', if_neg hwt]
      unfold dcr; rw [if_pos (by omega)]; omega
    · have hxt : x ∈ t := (List.mem_cons.mp hx).resolve_left (fun q => hax q.symm)
      rw [List.erase_cons_tail (by simpa using hax), idxOf_cons', idxOf_cons', idxOf_cons', if_neg hax]
      by_cases haw : a = w
      · rw [if_pos haw, if_pos haw]; unfold dcr; rw [if_neg (by omega)]
      · rw [if_neg haw, if_neg haw]
        have hwt : w ∈ t := (List.mem_cons.mp hw).resolve_left (fun q => haw q.symm)
        rw [ih h2 hxt hwt hne]
        unfold dcr
        by_cases hlt : t.idxOf x < t.idxOf w
        · rw [if_pos hlt, if_pos (by omega)]; omega
        · rw [if_neg hlt, if_neg (by omega)]
theorem lf_erase {ids : List Nat} {x z : Nat} : lf (ids.erase x) z = if z < ids.idxOf x then lf ids z else lf ids (z + 1) := by
  unfold lf
  rw [List.erase_eq_eraseIdx_of_idxOf rfl, List.getD_eq_getElem?_getD, List.getElem?_eraseIdx]
  split
  · rw [List.getD_eq_getElem?_getD]
  · rw [List.getD_eq_getElem?_getD]
def repJ (ids : List Nat) (rs : Nat → Nat) (J : Nat → Nat → Nat) : Nat → Nat → Nat := fun k y => if k = 1 then rs (lf ids y) else J k (lf ids y)
theorem rmJ_rep {ids : List Nat} {x : Nat} {rs : Nat → Nat} {J : Nat → Nat → Nat} : rmJ (ids.idxOf x) (repJ ids rs J) = repJ (ids.erase x) rs J := by
  funext k z
  show (if z < ids.idxOf x then repJ ids rs J k z else repJ ids rs J k (z + 1)) = repJ (ids.erase x) rs J k z
  unfold repJ
  rw [lf_erase]
  by_cases h : z < ids.idxOf x
  · rw [if_pos h, if_pos h]
  · rw [if_neg h, if_neg h]
theorem rmP_rep {ids q : List Nat} {x : Nat} (hn : ids.Nodup) (hx : x ∈ ids) (hq : q.Nodup) (hs : ∀ w ∈ q, w ∈ ids) : rmP (ids.idxOf x) (q.map (fun w => ids.idxOf w)) = (q.erase x).map (fun w => (ids.erase x).idxOf w) := by
  unfold rmP
  rw [List.filter_map, List.map_map, List.Nodup.erase_eq_filter hq]
  have inj : ∀ w ∈ q, ((ids.idxOf w == ids.idxOf x) = (w == x)) := fun w hw => by
    by_cases h : w = x
    · subst h; simp
    · have : ids.idxOf w ≠ ids.idxOf x := fun e => h (by
        obtain ⟨a1, a2⟩ := lf_idxOf (hs w hw)
        obtain ⟨b1, b2⟩ := lf_idxOf hx
        rw [← a2, ← b2, e])
      rw [beq_false_of_ne this, beq_false_of_ne h]
  have e1 : q.filter ((fun x_1 => !(x_1 == ids.idxOf x)) ∘ fun w => ids.idxOf w) = q.filter (fun w => w != x) := by
    apply List.filter_congr
    intro w hw
    simp only [Function.comp, inj w hw]
    rfl
  rw [e1]
  apply List.map_congr_left
  intro w hw
  obtain ⟨h1, h2⟩ := List.mem_filter.mp hw
  have hne : w ≠ x := by simpa using h2
  simp only [Function.comp]
  rw [idx_erase hn hx (hs w h1) hne]

