/-! 63: rows of the best, and their reader -/
def TP (o k : Nat) : Bool := TB o k || (o == 59 && k == 2) || o == 60
theorem TP_B {o k : Nat} (h : TP o k = false) : TB o k = false := by simp only [TP, Bool.or_eq_false_iff] at h; exact h.1.1
section
variable {n : Nat} {J : Nat → Nat → Nat} {L lost nig : Nat → Nat} {day col left : Nat} {till : Int32} {p : List Nat} {w : AW}
/-- the rows told of an order -/
def RwS (n : Nat) (ch : List Nat) (E : Nat → Nat) (V : Nat → Int) (w : AW) : Prop := w.1 59 2 = nI n ∧ ∀ k, k < 3 * n → w.1 60 k = RV ch E V k
theorem RwS.fr {ch : List Nat} {E : Nat → Nat} {V : Nat → Int} {w' : AW} {T : Nat → Nat → Bool} (h : RwS n ch E V w) (f : Fr T w w') (h1 : T 59 2 = false) (h2 : ∀ k, T 60 k = false) : RwS n ch E V w' := ⟨by rw [f.at' _ h1]; exact h.1, fun k hk => by rw [f.at' _ (h2 k)]; exact h.2 k hk⟩
theorem c_prove (ok : okB n J L lost nig day col left p) (hc : CBd 1 n J L lost nig day col left till p w) :
    ∃ w', fX11_prove N0 w = some (nI n, w') ∧ Fr TP w w' ∧ CBd 1 n J L lost nig day col left till p w' ∧
      RwS n (bst (dyS (sOf L lost nig) day) (L 1) col left (L 2) J n).2 (fun j => eJ (dyS (sOf L lost nig) day) (L 1) col left J j (bst (dyS (sOf L lost nig) day) (L 1) col left (L 2) J n).2) (fun j => vOf (L 2) J j (eJ (dyS (sOf L lost nig) day) (L 1) col left J j (bst (dyS (sOf L lost nig) day) (L 1) col left (L 2) J n).2)) w' := by
  have hN := N0_big
  obtain ⟨w1, m1, m2, m3, m4, m5⟩ := meas_ev (lg := 0) (N := N0) ok hc (by omega) (by omega)
  rw [sLg0] at m3 m5
  rw [show nI 0 = 0 from rfl] at m1
  obtain ⟨hn, bj, b, hp⟩ := ok
  obtain ⟨w2, mo, ch, g1, g2, g3, -, -, g4⟩ := mostWorth_ev (o := 2) (N := N0) (b := 6) (bI := -9) m5 bj hn (Or.inl rfl) (by omega) (Or.inl ⟨rfl, rfl⟩) m3 m4.1
  have hch := bst_in (n := n) (J := J) b bj hn
  have g4' : (mo, ch) = bst (dyS (sOf L lost nig) day) (L 1) col left (L 2) J n := g4
  rw [← g4'] at hch ⊢
  simp only at hch ⊢
  have hcp : ch.Perm (List.range n) := by have := prm_perm hch; rwa [rmB_all hn] at this
  obtain ⟨hpl, hpm, hnd, hall⟩ := perm_facts hcp
  have hE2 : ∀ j, j < n → eJ (dyS (sOf L lost nig) day) (L 1) col left J j ch ≤ 1000 := fun j hj => by
    have := dy_le (L := L) (lost := lost) (nig := nig) (day := day) (col := col) (left := left) b bj hn (by omega) hpm (lf_idxOf (hall j hj)).1
    unfold eJ; omega
  have c2 : CBd 1 n J L lost nig day col left till p w2 := m4.tb (b := 1) g2 (fun o k q => TB_L q)
  obtain ⟨w3, f1, f2, f3⟩ := follow_ev (r := 51) (N := N0) (m3.fr g2 (fun k => rfl) (fun k => rfl)) c2.1 m5 bj hn (by omega) (by omega) g3 hcp
  have c3 : CBd 1 n J L lost nig day col left till p w3 := c2.tb (b := 1) f2 (fun o k q => by simp only [TB, Bool.or_eq_false_iff] at q; simp_all)
  have fs : Fr (fun o k => o == 59 && k == 2) w3 (setI w3 59 2 (nI n)) := Fr.set (by simp)
  have c4 : CJo 2 n J (setI w3 59 2 (nI n)) := c3.1.fr fs (fun i hi k => by simp; omega)
  obtain ⟨w4, i1, i2, i3⟩ := fill_ev (N := N0) (fine := L 2) (E := fun j => eJ (dyS (sOf L lost nig) day) (L 1) col left J j ch) (ch := ch) c4 bj hn b.2.2.2.1 (by rw [fs.at' _ rfl, f2.at' _ rfl, g2.at' _ rfl]; exact m3.1) (fun i v hv => by rw [fs.at' _ rfl, f2.at' _ rfl]; exact g3 i v hv) hpl hpm (fun j hj => by rw [fs.at' _ rfl]; exact f3 j hj) hE2 (by omega)
  have FC : Fr TP w w4 := (m2.wd (fun o k q => TB_M4 (TP_B q))).tr ((g2.wd (fun o k q => TB_L (TP_B q))).tr ((f2.wd (fun o k q => by have := TP_B q; simp only [TB, Bool.or_eq_false_iff] at this; simp_all)).tr ((fs.wd (fun o k q => by simp only [TP, Bool.or_eq_false_iff] at q; exact q.1.2)).tr (i2.wd (fun o k q => by simp only [TP, Bool.or_eq_false_iff] at q; exact q.2)))))
  have e59 : w4.1 59 2 = nI n := by rw [i2.at' _ rfl]; simp [setI1]
  refine ⟨w4, ?_, FC, hc.fr FC (fun i hi k => ?_), e59, fun k hk => ?_⟩
  · have cn2 : w3.1 2 0 = nI n := c3.1.1
    simp only [fX11_prove, m1, bd_some', g1, bd2_some', fX6_fill, f1, cn2, lw_eq, i1, e59]
  · have : TB (1 + i) k = false := TB_p (by simp [pC]; omega)
    simp [TP, this]; omega
  · rw [i3, if_pos hk]
theorem c_row {ch : List Nat} {E : Nat → Nat} {V : Nat → Int} (h : RwS n ch E V w) (hn : n ≤ 6) {i x : Nat} (hi : i < n) (hx : x ≤ 2) : fX11_row (nI i) (nI x) w = some (RV ch E V (3 * i + x)) := by
  obtain ⟨c1, c2⟩ := h
  have h10 : ¬ (1 : Int32) = 0 := by decide
  have h1 : wI (nI i) 0 (nI n - 1) = 1 := wI_below (by omega) hi
  have h2 : wI (nI x) 0 2 = 1 := wI_of (lo := 0) (hi := 2) (by omega) hx (by omega)
  rw [← c2 (3 * i + x) (by omega)]
  simp (disch := omega) only [fX11_row, fX6_has, c1, within_ev, h1, h2, bd_some', h10, if_false, n3, nmul, nadd, ntn, gd_n, Nat.mul_comm i 3]
theorem lf_snoc' {q : List Nat} {j i : Nat} (h : q.length = i) : lf (q ++ [j]) i = j := by subst h; simp [lf]
theorem lf_take {l : List Nat} {i k : Nat} (h : k < i) : lf (l.take i) k = lf l k := by
  unfold lf
  rw [List.getD_eq_getElem?_getD, List.getD_eq_getElem?_getD, List.getElem?_take_of_lt h]
theorem judge_in (hn : n ≤ 6) (bj : bJ n J) (b : bL L lost nig day col left) (hC : CCo (dyS (sOf L lost nig) day) (L 1) col left (L 2) (L 3) w) (bc : bC (dyS (sOf L lost nig) day) (L 1) col left (L 2) (L 3)) (hJ : CJo 2 n J w) {ch : List Nat} (hch : ch.Perm (List.range n))
    (hR : RwS n ch (fun j => eJ (dyS (sOf L lost nig) day) (L 1) col left J j ch) (fun j => vOf (L 2) J j (eJ (dyS (sOf L lost nig) day) (L 1) col left J j ch)) w) {N : Nat} (hN : 20 < N) :
    wh (lbX6_firstWrong_10_1 N 2 w) N (0, 0, 0, 0) = some (.inl ()) := by
  obtain ⟨hpl, hpm, hnd, hall⟩ := perm_facts hch
  obtain ⟨h59, h60⟩ := hR
  have key := wh_for (body := lbX6_firstWrong_10_1 N 2 w) (fun i => (nI (uN (L 1) col left J (J 1) (lf ch) i), nI (wasN J (lf ch) i), nI (mskL (ch.take i)), nI i)) (n := n) (e := .inl ()) ?_ ?_ (N := N) (i := 0) (Nat.zero_le _) (by omega)
  · exact key
  · intro i hi
    have hnm : ¬ nI n ≤ nI i := by rw [nle (by omega) (by omega)]; omega
    have c0 : nI i * 3 = nI (3 * i) := by rw [n3, nmul, Nat.mul_comm]
    have c1 : nI (3 * i) + 1 = nI (3 * i + 1) := by rw [n1, nadd]
    have c2 : nI (3 * i) + 2 = nI (3 * i + 2) := by rw [n2, nadd]
    have i1 : nI i + 1 = nI (i + 1) := by rw [n1, nadd]
    have g0 : ∀ {β : Type} {k : Option β}, gd (inb (nI (3 * i)) 18) k = k := fun {β k} => gd_n (by omega) (by omega)
    have g1 : ∀ {β : Type} {k : Option β}, gd (inb (nI (3 * i + 1)) 18) k = k := fun {β k} => gd_n (by omega) (by omega)
    have g2 : ∀ {β : Type} {k : Option β}, gd (inb (nI (3 * i + 2)) 18) k = k := fun {β k} => gd_n (by omega) (by omega)
    have t0 : (nI (3 * i)).toNatClampNeg = 3 * i := ntn (by omega)
    have t1 : (nI (3 * i + 1)).toNatClampNeg = 3 * i + 1 := ntn (by omega)
    have t2 : (nI (3 * i + 2)).toNatClampNeg = 3 * i + 2 := ntn (by omega)
    have r0 : w.1 60 (3 * i) = nI (lf ch i) := by rw [h60 _ (by omega), RV_0]
    have r1 : w.1 60 (3 * i + 1) = nI (dyS (sOf L lost nig) day (uN (L 1) col left J (J 1) (lf ch) (i + 1))) := by rw [h60 _ (by omega), RV_1, eJ_at hnd (by omega)]
    have r2 : w.1 60 (3 * i + 2) = zI (vOf (L 2) J (lf ch i) (dyS (sOf L lost nig) day (uN (L 1) col left J (J 1) (lf ch) (i + 1)))) := by
      rw [h60 _ (by omega), RV_2, eJ_at hnd (by omega)]
    have hj : lf ch i < n := hpm _ (getD_mem (l := ch) (i := i) (by omega))
    generalize hjj : lf ch i = j at *
    have eh := has_wI (o := 2) (w := w) (nI j) hJ.1 (by omega)
    have hw : wI (nI j) 0 (nI n - 1) = 1 := wI_below (by omega) hj
    have h10 : ¬ (1 : Int32) = 0 := by decide
    have hmsk : mskL (ch.take i) < 64 := by
      apply Nat.lt_pow_two_of_testBit (n := 6)
      intro x hx
      have : ¬ (mskL (ch.take i)).testBit x = true := fun hh => by
        have := hpm x (List.mem_of_mem_take (mskL_bit.mp hh)); omega
      simpa using this
    have hjq : j ∉ ch.take i := by
      intro hmem
      obtain ⟨k, hk, hk2⟩ := List.getElem_of_mem hmem
      have hk3 : k < i := by rw [List.length_take] at hk; omega
      have e1 : lf (ch.take i) k = j := by unfold lf; rw [List.getD_eq_getElem?_getD, List.getElem?_eq_getElem hk, hk2]; rfl
      rw [lf_take hk3] at e1
      have := lf_inj hnd k i (by omega) (by omega) (e1.trans hjj.symm)
      omega
    have hb : (mskL (ch.take i)).testBit j = false := by
      cases hx : (mskL (ch.take i)).testBit j with
      | false => rfl
      | true => exact absurd (mskL_bit.mp hx) hjq
    have hb0 : ((nI (mskL (ch.take i)) >>> (nI j &&& 31)) &&& 1) = 0 := by rw [bt0 hmsk (by omega)]; exact hb
    have htk : ch.take (i + 1) = ch.take i ++ [j] := by rw [take_one (by omega), hjj]
    have hor : nI (mskL (ch.take i)) ||| (1 <<< (nI j &&& 31)) = nI (mskL (ch.take (i + 1))) := by
      rw [btor hmsk (by omega), htk, mskL_app, Nat.one_shiftLeft]; simp [mskL]
    have hle := uN_le (st := L 1) (c0 := col) (l0 := left) (J := J) (R := J 1) (p := lf ch) (m := n) (fun k hk => by have := bj _ (hpm _ (getD_mem (l := ch) (i := k) (by omega))); unfold lf; omega) b.2.2.1 b.2.2.2.2.2.2.2.2.2
    have hle0 := hle i (by omega)
    have hle1 := hle (i + 1) (by omega)
    have hwb : wasN J (lf ch) i ≤ 1 := by
      cases i with
      | zero => simp [wasN]
      | succ i => exact (bj _ (hpm _ (getD_mem (l := ch) (i := i) (by omega)))).2.2.2.1
    have huN1 : uN (L 1) col left J (J 1) (lf ch) (i + 1) = uB (L 1) col left J (J 1) (uN (L 1) col left J (J 1) (lf ch) i) (wasN J (lf ch) i) j := by rw [uN, hjj]
    have eu := usedBehind_ev hC hJ bc bj hn (u := uN (L 1) col left J (J 1) (lf ch) i) (was := wasN J (lf ch) i) hj (by omega) hwb
    rw [← huN1] at eu
    have hpos := uN_pos (st := L 1) (c0 := col) (l0 := left) (J := J) (R := J 1) (p := lf ch) (i := i) (by rw [hjj]; exact (bj j hj).2.1)
    have ed := dayAt_ev hC hpos (by omega)
    have hdb := bc.2.2.2.2.2 _ hpos (show uN (L 1) col left J (J 1) (lf ch) (i + 1) ≤ 126 by omega)
    have ev := valueOf_ev (fine := L 2) hJ bj hn hj (e := dyS (sOf L lost nig) day (uN (L 1) col left J (J 1) (lf ch) (i + 1))) (by omega) b.2.2.2.1
    have gj6 : ∀ {β : Type} {k : Option β}, gd (inb (nI j) 6) k = k := fun {β k} => gd_n (by omega) (by omega)
    have tj : (nI j).toNatClampNeg = j := ntn (by omega)
    have h46 : w.1 46 2 = nI (L 2) := hC.1
    have hcol : w.1 (2 + 3) j = nI (J 2 j) := (hJ.2 j hj).2.2.1
    have hws : wasN J (lf ch) (i + 1) = J 2 j := by simp only [wasN, hjj]
    show lbX6_firstWrong_10_1 N 2 w (nI (uN (L 1) col left J (J 1) (lf ch) i), nI (wasN J (lf ch) i), nI (mskL (ch.take i)), nI i) = some (.inl (nI (uN (L 1) col left J (J 1) (lf ch) (i + 1)), nI (wasN J (lf ch) (i + 1)), nI (mskL (ch.take (i + 1))), nI (i + 1)))
    rw [hws]
    simp only [lbX6_firstWrong_10_1, h59, hnm, if_false, c0, g0, t0, lw_eq, r0, eh, hw, bd_some', h10, hb0, if_true, eu, gj6, ed, c1, g1, t1, r1, c2, g2, t2, h46, ev, r2, tj, hcol, hor, i1]
  · simp only [lbX6_firstWrong_10_1, h59, Int32.le_refl, if_true]
theorem c_judge (ok : okB n J L lost nig day col left p) (hc : CBd 1 n J L lost nig day col left till p w) {ch : List Nat} (hch : ch.Perm (List.range n))
    (hR : RwS n ch (fun j => eJ (dyS (sOf L lost nig) day) (L 1) col left J j ch) (fun j => vOf (L 2) J j (eJ (dyS (sOf L lost nig) day) (L 1) col left J j ch)) w) :
    ∃ w', fX11_judge N0 w = some (0, w') ∧ Fr TB w w' ∧ CBd 1 n J L lost nig day col left till p w' := by
  have hN := N0_big
  obtain ⟨w1, m1, m2, m3, m4, m5⟩ := meas_ev (lg := 0) (N := N0) ok hc (by omega) (by omega)
  rw [sLg0] at m3 m5
  rw [show nI 0 = 0 from rfl] at m1
  obtain ⟨hn, bj, b, hp⟩ := ok
  have hR1 := hR.fr m2 rfl (fun k => rfl)
  have a1 := judge_in (N := N0) hn bj b m3 m5 m4.1 hch hR1 (by omega)
  refine ⟨w1, ?_, m2.wd (fun o k q => TB_M4 q), m4⟩
  have e2n : w1.1 2 0 = nI n := m4.1.1
  simp only [fX11_judge, m1, bd_some', fX6_firstWrong, a1, se, e2n, hR1.1, Int32.le_refl, if_true]
end
