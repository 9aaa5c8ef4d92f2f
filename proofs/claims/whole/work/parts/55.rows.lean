/-! 55: rows of the best; the reader -/
def RV (ch : List Nat) (E : Nat → Nat) (V : Nat → Int) (k : Nat) : Int32 := if k % 3 = 0 then nI (lf ch (k / 3)) else if k % 3 = 1 then nI (E (lf ch (k / 3))) else zI (V (lf ch (k / 3)))
theorem RV_0 {ch : List Nat} {E : Nat → Nat} {V : Nat → Int} {i : Nat} : RV ch E V (3 * i) = nI (lf ch i) := by
  unfold RV; rw [if_pos (by omega)]; congr 2; omega
theorem RV_1 {ch : List Nat} {E : Nat → Nat} {V : Nat → Int} {i : Nat} : RV ch E V (3 * i + 1) = nI (E (lf ch i)) := by
  unfold RV; rw [if_neg (by omega), if_pos (by omega)]; congr 3; omega
theorem RV_2 {ch : List Nat} {E : Nat → Nat} {V : Nat → Int} {i : Nat} : RV ch E V (3 * i + 2) = zI (V (lf ch i)) := by
  unfold RV; rw [if_neg (by omega), if_neg (by omega)]; congr 3; omega
/-- three cells more -/
theorem row3 {r i : Nat} {a b c : Int32} {ch : List Nat} {E : Nat → Nat} {V : Nat → Int} {w w1 : AW} (h : ∀ k, w1.1 r k = if k < 3 * i then RV ch E V k else w.1 r k) (ha : a = RV ch E V (3 * i)) (hb : b = RV ch E V (3 * i + 1)) (hc : c = RV ch E V (3 * i + 2)) : ∀ k, (setI (setI (setI w1 r (3 * i) a) r (3 * i + 1) b) r (3 * i + 2) c).1 r k = if k < 3 * (i + 1) then RV ch E V k else w.1 r k := by
  intro k
  simp only [setI1, true_and, h]
  by_cases k2 : k = 3 * i + 2
  · subst k2; rw [if_pos rfl, if_pos (by omega), hc]
  · rw [if_neg k2]
    by_cases k1 : k = 3 * i + 1
    · subst k1; rw [if_pos rfl, if_pos (by omega), hb]
    · rw [if_neg k1]
      by_cases k0 : k = 3 * i
      · subst k0; rw [if_pos rfl, if_pos (by omega), ha]
      · rw [if_neg k0]
        by_cases hl : k < 3 * i
        · rw [if_pos hl, if_pos (by omega)]
        · rw [if_neg hl, if_neg (by omega)]
theorem fill_ev {n N fine : Nat} {J : Nat → Nat → Nat} {E : Nat → Nat} {ch : List Nat} {w : AW} (hJ : CJo 2 n J w) (bj : bJ n J) (hn : n ≤ 6) (bf : fine ≤ 99) (hf : w.1 46 2 = nI fine) (hr : rowL (w.1 51) ch) (hcl : ch.length = n) (hcm : ∀ j ∈ ch, j < n) (hE : ∀ j, j < n → w.1 48 j = nI (E j)) (hE2 : ∀ j, j < n → E j ≤ 1000) (hN : 20 < N) :
    ∃ w', wh (lbX6_fill_19_1 N 2 51) N (0, w) = some w' ∧ Fr (fun o _ => o == 60) w w' ∧ ∀ k, w'.1 60 k = if k < 3 * n then RV ch E (fun j => vOf fine J j (E j)) k else w.1 60 k := by
  have key := wh_cnt (body := lbX6_fill_19_1 N 2 51) (n := n)
    (I := fun i s => ∃ w1, s = (nI i, w1) ∧ Fr (fun o _ => o == 60) w w1 ∧ ∀ k, w1.1 60 k = if k < 3 * i then RV ch E (fun j => vOf fine J j (E j)) k else w.1 60 k)
    (Q := fun w1 => Fr (fun o _ => o == 60) w w1 ∧ ∀ k, w1.1 60 k = if k < 3 * n then RV ch E (fun j => vOf fine J j (E j)) k else w.1 60 k)
    ?_ ?_ (N := N) (i := 0) (s := (0, w)) ⟨w, rfl, Fr.rf, fun k => by rw [if_neg (by omega)]⟩ (Nat.zero_le _) (by omega)
  · obtain ⟨w1, e1, e2, e3⟩ := key
    exact ⟨w1, e1, e2, e3⟩
  · rintro i s hi ⟨w1, rfl, hF, h3⟩
    have hj : lf ch i < n := hcm _ (getD_mem (by omega))
    have F2 : Fr (fun o _ => o == 60) w1 (setI (setI w1 60 (3 * i) (nI (lf ch i))) 60 (3 * i + 1) (nI (E (lf ch i)))) := (Fr.set (by simp)).tr (Fr.set (by simp))
    have hJ2 : CJo 2 n J (setI (setI w1 60 (3 * i) (nI (lf ch i))) 60 (3 * i + 1) (nI (E (lf ch i)))) := (hJ.fr hF (fun i hi k => by simp; omega)).fr F2 (fun i hi k => by simp; omega)
    have cnt : w1.1 2 0 = nI n := (hJ.fr hF (fun i hi k => by simp; omega)).1
    have e51 : w1.1 51 i = nI (lf ch i) := by rw [hF.at' _ rfl]; exact hr.get (by omega)
    have e48 : w1.1 48 (lf ch i) = nI (E (lf ch i)) := by rw [hF.at' _ rfl]; exact hE _ hj
    have e46 : w1.1 46 2 = nI fine := by rw [hF.at' _ rfl]; exact hf
    have ev := valueOf_ev (fine := fine) hJ2 bj hn hj (e := E (lf ch i)) (hE2 _ hj) bf
    have hm3 : nI i * nI 3 = nI (3 * i) := by rw [nmul, Nat.mul_comm]
    refine ⟨(nI (i + 1), setI (setI (setI w1 60 (3 * i) (nI (lf ch i))) 60 (3 * i + 1) (nI (E (lf ch i)))) 60 (3 * i + 2) (zI (vOf fine J (lf ch i) (E (lf ch i))))), ?_, _, rfl, hF.tr (F2.tr (Fr.set (by simp))), row3 h3 RV_0.symm RV_1.symm (RV_2 (V := fun j => vOf fine J j (E j))).symm⟩
    simp (disch := omega) only [lbX6_fill_19_1, n0, n1, n2, n3, hm3, nadd, nle, ntn, gd_n, lw_eq, bd_some', bd2_some', gd_true, cnt, if_neg (show ¬ n ≤ i by omega), e51, setI1, Nat.reduceEqDiff, false_and, if_false, e48, e46, ev]
  · rintro s ⟨w1, rfl, hF, h3⟩
    have cnt : w1.1 2 0 = nI n := (hJ.fr hF (fun i hi k => by simp; omega)).1
    refine ⟨w1, ?_, hF, h3⟩
    simp only [lbX6_fill_19_1, cnt, Int32.le_refl, if_true]
theorem fillM_ev {n N fine : Nat} {J : Nat → Nat → Nat} {E : Nat → Nat} {ch : List Nat} {w : AW} (hJ : MJs n J w) (bj : bJ n J) (hn : n ≤ 6) (bf : fine ≤ 99) (hf : w.1 2 2 = nI fine) (h0 : w.1 0 0 = nI n) (hr : rowL (w.1 12) ch) (hcl : ch.length = n) (hcm : ∀ j ∈ ch, j < n) (hE : ∀ j, j < n → w.1 14 j = nI (E j)) (hE2 : ∀ j, j < n → E j ≤ 1000) (hN : 20 < N) :
    ∃ w', wh (lbX12_prove_58_2 N) N (0, w) = some w' ∧ Fr (fun o _ => o == 18) w w' ∧ ∀ k, w'.1 18 k = if k < 3 * n then RV ch E (fun j => vOf fine J j (E j)) k else w.1 18 k := by
  have key := wh_cnt (body := lbX12_prove_58_2 N) (n := n)
    (I := fun i s => ∃ w1, s = (nI i, w1) ∧ Fr (fun o _ => o == 18) w w1 ∧ ∀ k, w1.1 18 k = if k < 3 * i then RV ch E (fun j => vOf fine J j (E j)) k else w.1 18 k)
    (Q := fun w1 => Fr (fun o _ => o == 18) w w1 ∧ ∀ k, w1.1 18 k = if k < 3 * n then RV ch E (fun j => vOf fine J j (E j)) k else w.1 18 k)
    ?_ ?_ (N := N) (i := 0) (s := (0, w)) ⟨w, rfl, Fr.rf, fun k => by rw [if_neg (by omega)]⟩ (Nat.zero_le _) (by omega)
  · obtain ⟨w1, e1, e2, e3⟩ := key
    exact ⟨w1, e1, e2, e3⟩
  · rintro i s hi ⟨w1, rfl, hF, h3⟩
    have hj : lf ch i < n := hcm _ (getD_mem (by omega))
    have F2 : Fr (fun o _ => o == 18) w1 (setI (setI w1 18 (3 * i) (nI (lf ch i))) 18 (3 * i + 1) (nI (E (lf ch i)))) := (Fr.set (by simp)).tr (Fr.set (by simp))
    have hF2 : Fr (fun o _ => o == 18) w (setI (setI w1 18 (3 * i) (nI (lf ch i))) 18 (3 * i + 1) (nI (E (lf ch i)))) := hF.tr F2
    have cnt : w1.1 0 0 = nI n := by rw [hF.at' _ rfl]; exact h0
    have e51 : w1.1 12 i = nI (lf ch i) := by rw [hF.at' _ rfl]; exact hr.get (by omega)
    have e48 : w1.1 14 (lf ch i) = nI (E (lf ch i)) := by rw [hF.at' _ rfl]; exact hE _ hj
    have ev := worthOf_ev (fine := fine) (hJ.fr hF2 (fun k => rfl)) bj (by omega) (by rw [hF2.at' _ rfl]; exact hf) bf hj (e := E (lf ch i)) (by rw [hF2.at' _ rfl]; exact hE _ hj) (hE2 _ hj)
    refine ⟨(nI (i + 1), setI (setI (setI w1 18 (3 * i) (nI (lf ch i))) 18 (3 * i + 1) (nI (E (lf ch i)))) 18 (3 * i + 2) (zI (vOf fine J (lf ch i) (E (lf ch i))))), ?_, _, rfl, hF.tr (F2.tr (Fr.set (by simp))), row3 h3 RV_0.symm RV_1.symm (RV_2 (V := fun j => vOf fine J j (E j))).symm⟩
    simp (disch := omega) only [lbX12_prove_58_2, n0, n1, n2, n3, nmul, nadd, nle, ntn, gd_n, lw_eq, bd_some', bd2_some', gd_true, cnt, if_neg (show ¬ n ≤ i by omega), e51, setI1, Nat.reduceEqDiff, false_and, if_false, e48, ev]
  · rintro s ⟨w1, rfl, hF, h3⟩
    have cnt : w1.1 0 0 = nI n := by rw [hF.at' _ rfl]; exact h0
    refine ⟨w1, ?_, hF, h3⟩
    simp only [lbX12_prove_58_2, cnt, Int32.le_refl, if_true]
theorem st_prove {wC wM : AW} (h : Rel wC wM) : ∃ r wC' wM', fX11_prove N0 wC = some (r, wC') ∧ fX12_prove N0 wM = some (r, wM') ∧ Rel wC' wM' := by
  obtain ⟨n, J, L, lost, nig, day, col, left, till, p, ok, hc, hm⟩ := h.1
  obtain ⟨mo0, hmo6, rc1, rm1, hrr⟩ := h.2.2.2.2.1
  have hN := N0_big
  obtain ⟨w1, m1, m2, m3, m4, m5⟩ := meas_ev (lg := 0) (N := N0) ok hc (by omega) (by omega)
  rw [sLg0] at m3 m5
  rw [show nI 0 = 0 from rfl] at m1
  obtain ⟨hn, bj, b, hp⟩ := ok
  obtain ⟨w2, mo, ch, g1, g2, g3, -, -, g4⟩ := mostWorth_ev (o := 2) (N := N0) (b := 6) (bI := -9) m5 bj hn (Or.inl rfl) (by omega) (Or.inl ⟨rfl, rfl⟩) m3 m4.1
  obtain ⟨v1, mo', ch', k1, k2, k3, k4⟩ := mostOfAll_ev (bb := 6) (bI := -1) (N := N0) hm.1 hm.2.1 b bj hn (by omega) (neg1_iff hn) (by omega)
  obtain ⟨rfl, rfl⟩ : mo = mo' ∧ ch = ch' := by have := g4.trans k4.symm; exact ⟨congrArg Prod.fst this, congrArg Prod.snd this⟩
  have hch : ch ∈ prm n 6 := by
    have := bestG_in (n := n) (b := 6) (b0 := -2147483648) (f := fun p => wN (dyS (sOf L lost nig) day) (L 1) col left (L 2) J (J 1) (lf p) p.length) hn (by omega) (fun p hp => by have := W_low (dy := dyS (sOf L lost nig) day) (st := L 1) (c0 := col) (l0 := left) (fine := L 2) bj b.2.2.2.1 hn p hp; show (-2147483648 : Int) < wN (dyS (sOf L lost nig) day) (L 1) col left (L 2) J (J 1) (lf p) p.length; omega)
    rw [← g4] at this; exact this
  have hcp : ch.Perm (List.range n) := by have := prm_perm hch; rwa [rmB_all hn] at this
  obtain ⟨hpl, hpm, hnd, hall⟩ := perm_facts hcp
  have hE2 : ∀ j, j < n → eJ (dyS (sOf L lost nig) day) (L 1) col left J j ch ≤ 1000 := fun j hj => by
    have := dy_le (L := L) (lost := lost) (nig := nig) (day := day) (col := col) (left := left) b bj hn (by omega) hpm (lf_idxOf (hall j hj)).1
    unfold eJ; omega
  -- the program
  have c2 : CBd 1 n J L lost nig day col left till p w2 := m4.tb (b := 1) g2 (fun o k q => TB_L q)
  obtain ⟨w3, f1, f2, f3⟩ := follow_ev (r := 51) (N := N0) (m3.fr g2 (fun k => rfl) (fun k => rfl)) c2.1 m5 bj hn (by omega) (by omega) g3 hcp
  have c3 : CBd 1 n J L lost nig day col left till p w3 := c2.tb (b := 1) f2 (fun o k q => by simp only [TB, Bool.or_eq_false_iff] at q; simp_all)
  have fs : Fr (fun o k => o == 59 && k == 2) w3 (setI w3 59 2 (nI n)) := Fr.set (by simp)
  have c4 : CJo 2 n J (setI w3 59 2 (nI n)) := c3.1.fr fs (fun i hi k => by simp; omega)
  obtain ⟨w4, i1, i2, i3⟩ := fill_ev (N := N0) (fine := L 2) (E := fun j => eJ (dyS (sOf L lost nig) day) (L 1) col left J j ch) (ch := ch) c4 bj hn b.2.2.2.1 (by rw [fs.at' _ rfl, f2.at' _ rfl, g2.at' _ rfl]; exact m3.1) (fun i v hv => by rw [fs.at' _ rfl, f2.at' _ rfl]; exact g3 i v hv) hpl hpm (fun j hj => by rw [fs.at' _ rfl]; exact f3 j hj) hE2 (by omega)
  -- the reference
  have M1 : MBd n J L lost nig day col left till p v1 := hm.fr k2 (fun o k q => mB_TO q)
  obtain ⟨v2, l1, l2, l3⟩ := rowcopy_ev (n := n) (N := N0) (w := v1) (p := ch) (lbX12_prove_12_1 N0) 15 (by omega) (fun i w1 hi h0 hr => by simp (disch := omega) only [lbX12_prove_12_1, n0, n1, n2, n3, n4, n5, n6, n7, n8, n9, n10, n13, n16, n18, n20, n30, n32, n40, n48, n57, n59, n60, n64, n97, n99, n122, n126, n186, n200, n1000000, nadd, nmul, nlt, nle, neq, ntn, gd_n, lw_eq, bd_some', bd2_some', gd_true, h0, if_neg (show ¬ n ≤ i by omega)]) (fun w1 h0 => by simp (disch := omega) only [lbX12_prove_12_1, n0, n1, n2, n3, n4, n5, n6, n7, n8, n9, n10, n13, n16, n18, n20, n30, n32, n40, n48, n57, n59, n60, n64, n97, n99, n122, n126, n186, n200, n1000000, nadd, nmul, nlt, nle, neq, ntn, gd_n, h0, Nat.le_refl, if_true]) M1.2.2.2.1 k3 hpl (by omega) hn
  have l2' : Fr TO v1 v2 := l2.wd (fun o k q => by simp only [TO, Bool.or_eq_false_iff] at q; exact q.1.2)
  have M2 : MBd n J L lost nig day col left till p v2 := M1.fr l2' (fun o k q => mB_TO q)
  obtain ⟨v3, t1, t2, t3, -, -⟩ := work_ev (tw := 0) (lg := 0) (N := N0) M2.1 M2.2.1 b bj hn (by omega) (by omega) (by omega) l3 hch
  rw [sLg0, Rd_0] at t3
  rw [hpl] at t1 t3
  have t2' : Fr TO v2 v3 := t2.wd (fun o k q => TW_TO q)
  have M3 : MBd n J L lost nig day col left till p v3 := M2.fr t2' (fun o k q => mB_TO q)
  have fv : Fr (fun o k => o == 0 && k == 37) v3 (setI v3 0 37 (nI n)) := Fr.set (by simp)
  obtain ⟨v4, s1, s2, s3⟩ := fillM_ev (N := N0) (fine := L 2) (E := fun j => eJ (dyS (sOf L lost nig) day) (L 1) col left J j ch) (ch := ch) (w := setI v3 0 37 (nI n)) (M3.1.fr fv (fun k => rfl)) bj hn b.2.2.2.1 (by rw [fv.at' _ rfl]; exact M3.2.1.1 2 (by omega)) (by rw [fv.at' _ rfl]; exact M3.2.2.2.1) (fun i v hv => by rw [fv.at' _ rfl, t2.at' _ rfl]; exact l3 i v hv) hpl hpm (fun j hj => by
    obtain ⟨q1, q2⟩ := lf_idxOf (hall j hj)
    have := t3 (ch.idxOf j) (by omega)
    rw [q2] at this
    rw [fv.at' _ rfl]
    exact this) hE2 (by omega)
  have FC : Fr (fun o k => TB o k || (o == 59 && k == 2) || o == 60) wC w4 := (m2.wd (fun o k q => TB_M4 (by simp only [Bool.or_eq_false_iff] at q; exact q.1.1))).tr ((g2.wd (fun o k q => TB_L (by simp only [Bool.or_eq_false_iff] at q; exact q.1.1))).tr ((f2.wd (fun o k q => by simp only [TB, Bool.or_eq_false_iff] at q; simp_all)).tr ((fs.wd (fun o k q => by simp only [Bool.or_eq_false_iff] at q; exact q.1.2)).tr (i2.wd (fun o k q => by simp only [Bool.or_eq_false_iff] at q; exact q.2)))))
  have FM : Fr (fun o k => TO o k || (o == 0 && k == 37) || o == 18) wM v4 := (k2.wd (fun o k q => by simp only [Bool.or_eq_false_iff] at q; exact q.1.1)).tr ((l2'.wd (fun o k q => by simp only [Bool.or_eq_false_iff] at q; exact q.1.1)).tr ((t2'.wd (fun o k q => by simp only [Bool.or_eq_false_iff] at q; exact q.1.1)).tr ((fv.wd (fun o k q => by simp only [Bool.or_eq_false_iff] at q; exact q.1.2)).tr (s2.wd (fun o k q => by simp only [Bool.or_eq_false_iff] at q; exact q.2)))))
  have e59 : w4.1 59 2 = nI n := by rw [i2.at' _ rfl]; simp [setI1]
  have e37 : v4.1 0 37 = nI n := by rw [s2.at' _ rfl]; simp [setI1]
  refine ⟨nI n, w4, v4, ?_, ?_, h.rws FC FM (fun o k q q1 => ?_) (fun o k q q1 => ?_) ⟨n, hn, e59, e37, fun k hk => ?_⟩⟩
  · have cn2 : w3.1 2 0 = nI n := c3.1.1
    simp only [fX11_prove, m1, bd_some', g1, bd2_some', fX6_fill, f1, cn2, lw_eq, i1, e59]
  · have hw : fX12_worksAll N0 (nI n) 0 0 v2 = some v3 := by
      rw [n0]; simp only [fX12_worksAll, t1, lw_eq, bd_some', bd2_some', gd_true]
    simp only [fX12_prove, hm.2.2.2.1, k1, bd2_some', l1, bd_some', M2.2.2.2.1, hw, M3.2.2.2.1, lw_eq, s1, e37]
  · rw [TB_p q]; simp; omega
  · rw [TO_p q]; simp; omega
  · rw [i3, s3]
    by_cases hlt : k < 3 * n
    · rw [if_pos hlt, if_pos hlt]
    · rw [if_neg hlt, if_neg hlt, fs.at' _ rfl, f2.at' _ rfl, g2.at' _ rfl, m2.at' _ rfl, fv.at' _ rfl, t2.at' _ rfl, l2.at' _ rfl, k2.at' _ rfl]
      exact hrr k hk
theorem len_of_sub : ∀ {l1 l2 : List Nat}, l1.Nodup → (∀ x ∈ l1, x ∈ l2) → l1.length ≤ l2.length := by
  intro l1
  induction l1 with
  | nil => intro l2 _ _; exact Nat.zero_le _
  | cons x t ih =>
    intro l2 hn hs
    obtain ⟨h1, h2⟩ := List.nodup_cons.mp hn
    have hx : x ∈ l2 := hs x List.mem_cons_self
    have := ih (l2 := l2.erase x) h2 (fun y hy => by
      have hne : y ≠ x := fun q => h1 (q ▸ hy)
      exact (List.mem_erase_of_ne hne).mpr (hs y (List.mem_cons_of_mem _ hy)))
    rw [List.length_erase_of_mem hx] at this
    have hpos := List.length_pos_of_mem hx
    simp only [List.length_cons]; omega
theorem judge_both {n m : Nat} {J : Nat → Nat → Nat} {L lost nig : Nat → Nat} {day col left : Nat} {till : Int32} {p : List Nat} {w1 wM : AW} (hn : n ≤ 6) (bj : bJ n J) (b : bL L lost nig day col left) (hm6 : m ≤ 6) (hC : CCo (dyS (sOf L lost nig) day) (L 1) col left (L 2) (L 3) w1) (bc : bC (dyS (sOf L lost nig) day) (L 1) col left (L 2) (L 3)) (hJ : CJo 2 n J w1) (h59 : w1.1 59 2 = nI m) (hm : MBd n J L lost nig day col left till p wM) (h37 : wM.1 0 37 = nI m) (hrr : ∀ k, k < 18 → w1.1 60 k = wM.1 18 k) :
    ∀ (d i : Nat) (q : List Nat) (v : AW) (M : Nat), i + d = m → q.length = i → q.Nodup → (∀ j ∈ q, j < n) → Fr TO wM v → rowL (v.1 12) q → d < M →
      ∃ eC eM r v', wh (lbX6_firstWrong_10_1 N0 2 w1) M (nI (uN (L 1) col left J (J 1) (lf q) i), nI (wasN J (lf q) i), nI (mskL q), nI i) = some eC ∧ wh (lbX12_judge_4_1 N0) M (nI (mskL q), nI i, v) = some eM ∧
        (se (fun _ => if (w1.1 2 0) ≤ (w1.1 59 2) then some 0 else some 222) (se (fun y21 => some (y21 + 1)) (se (fun y22 => some (y22 + 1)) (fun y23 => some (y23 + 1)))) eC : Option Int32) = some r ∧
        (se (fun w20 : AW => if (w20.1 0 0) ≤ (w20.1 0 37) then some (0, w20) else some (222, w20)) (se (fun q => match q with | (y22, w23) => some ((y22 + 1), w23)) (fun q => match q with | (y24, w25) => some ((y24 + 1), w25))) eM : Option (Int32 × AW)) = some (r, v') ∧ Fr TO wM v' := by
  have hN := N0_big
  have e2n : w1.1 2 0 = nI n := hJ.1
  intro d
  induction d with
  | zero =>
    intro i q v M hi hql hqn hqm hF hr hM
    obtain ⟨M, rfl⟩ : ∃ k, M = k + 1 := ⟨M - 1, by omega⟩
    have him : i = m := by omega
    have v37 : v.1 0 37 = nI m := by rw [hF.at' _ rfl]; exact h37
    have v0 : v.1 0 0 = nI n := by rw [hF.at' _ rfl]; exact hm.2.2.2.1
    refine ⟨.inl (), .inl v, if nI n ≤ nI m then 0 else 222, v, wh_out ?_, wh_out ?_, ?_, ?_, hF⟩
    · simp only [lbX6_firstWrong_10_1, h59, him, Int32.le_refl, if_true]
    · simp only [lbX12_judge_4_1, v37, him, Int32.le_refl, if_true]
    · simp only [se, e2n, h59]; split <;> rfl
    · simp only [se, v0, v37]; split <;> rfl
  | succ d ih =>
    intro i q v M hi hql hqn hqm hF hr hM
    obtain ⟨M, rfl⟩ : ∃ k, M = k + 1 := ⟨M - 1, by omega⟩
    have hMv : MBd n J L lost nig day col left till p v := hm.fr hF (fun o k q => mB_TO q)
    have v37 : v.1 0 37 = nI m := by rw [hF.at' _ rfl]; exact h37
    have v18 : ∀ k, k < 18 → v.1 18 k = w1.1 60 k := fun k hk => by rw [hF.at' _ rfl]; exact (hrr k hk).symm
    have hnm : ¬ nI m ≤ nI i := by rw [nle (by omega) (by omega)]; omega
    have c0 : nI i * 3 = nI (3 * i) := by rw [n3, nmul, Nat.mul_comm]
    have m0 : 3 * nI i = nI (3 * i) := by rw [n3, nmul]
    have c1 : nI (3 * i) + 1 = nI (3 * i + 1) := by rw [n1, nadd]
    have c2 : nI (3 * i) + 2 = nI (3 * i + 2) := by rw [n2, nadd]
    have i1 : nI i + 1 = nI (i + 1) := by rw [n1, nadd]
    have g0 : ∀ {β : Type} {k : Option β}, gd (inb (nI (3 * i)) 18) k = k := fun {β k} => gd_n (by omega) (by omega)
    have g1 : ∀ {β : Type} {k : Option β}, gd (inb (nI (3 * i + 1)) 18) k = k := fun {β k} => gd_n (by omega) (by omega)
    have g2 : ∀ {β : Type} {k : Option β}, gd (inb (nI (3 * i + 2)) 18) k = k := fun {β k} => gd_n (by omega) (by omega)
    have t0 : (nI (3 * i)).toNatClampNeg = 3 * i := ntn (by omega)
    have t1 : (nI (3 * i + 1)).toNatClampNeg = 3 * i + 1 := ntn (by omega)
    have t2 : (nI (3 * i + 2)).toNatClampNeg = 3 * i + 2 := ntn (by omega)
    have eh := has_wI (o := 2) (w := w1) (w1.1 60 (3 * i)) hJ.1 (by omega)
    have ei := isJob_wI (w := v) (w1.1 60 (3 * i)) hMv.2.2.2.1
    have h18 := v18 (3 * i) (by omega)
    rcases wI_01 (w1.1 60 (3 * i)) 0 (nI n - 1) with hw | hw
    · refine ⟨.inr (.inl (nI i)), .inr (.inl (nI i, v)), nI i + 1, v, wh_out ?_, wh_out ?_, rfl, rfl, hF⟩
      · simp only [lbX6_firstWrong_10_1, h59, hnm, if_false, c0, g0, t0, lw_eq, eh, hw, bd_some', if_true]
      · simp only [lbX12_judge_4_1, v37, hnm, if_false, m0, g0, t0, lw_eq, h18, ei, hw, bd_some', if_true]
    · obtain ⟨j, hj, hj2⟩ := wI_neg (by omega) hw
      rw [hj2] at eh ei hw h18
      have h10 : ¬ (1 : Int32) = 0 := by decide
      have hmsk : mskL q < 64 := by
        apply Nat.lt_pow_two_of_testBit (n := 6)
        intro x hx
        have : ¬ (mskL q).testBit x = true := fun hh => by
          have := hqm x (mskL_bit.mp hh); omega
        simpa using this
      have hbit1 := bt1 (m := mskL q) (j := j) hmsk (by omega)
      have hbit0 := bt0 (m := mskL q) (j := j) hmsk (by omega)
      by_cases hjq : j ∈ q
      · have hb : (mskL q).testBit j = true := mskL_bit.mpr hjq
        have hb1 : ((nI (mskL q) >>> (nI j &&& 31)) &&& 1) = 1 := by rw [hbit1]; exact hb
        have hb0 : ¬ ((nI (mskL q) >>> (nI j &&& 31)) &&& 1) = 0 := by rw [hbit0, hb]; simp
        refine ⟨.inr (.inl (nI i)), .inr (.inl (nI i, v)), nI i + 1, v, wh_out ?_, wh_out ?_, rfl, rfl, hF⟩
        · simp only [lbX6_firstWrong_10_1, h59, hnm, if_false, c0, g0, t0, lw_eq, hj2, eh, hw, bd_some', h10, hb0]
        · simp only [lbX12_judge_4_1, v37, hnm, if_false, m0, g0, t0, lw_eq, h18, ei, hw, bd_some', h10, hb1, if_true]
      · have hb : (mskL q).testBit j = false := by
          cases hx : (mskL q).testBit j with
          | false => rfl
          | true => exact absurd (mskL_bit.mp hx) hjq
        have hb1 : ¬ ((nI (mskL q) >>> (nI j &&& 31)) &&& 1) = 1 := by rw [hbit1, hb]; simp
        have hb0 : ((nI (mskL q) >>> (nI j &&& 31)) &&& 1) = 0 := by rw [hbit0]; exact hb
        have hor : nI (mskL q) ||| (1 <<< (nI j &&& 31)) = nI (mskL (q ++ [j])) := by
          rw [btor hmsk (by omega), mskL_app, Nat.one_shiftLeft]; simp [mskL]
        -- the order so far
        have hq' : (q ++ [j]).Nodup := by
          rw [List.nodup_append]
          exact ⟨hqn, by simp, fun a ha c hc => by simp at hc; subst hc; exact fun e => hjq (e ▸ ha)⟩
        have hqm' : ∀ x ∈ q ++ [j], x < n := fun x hx => by
          rcases List.mem_append.mp hx with h | h
          · exact hqm x h
          · simp at h; omega
        have hlfq : ∀ k, k < i → lf (q ++ [j]) k = lf q k := fun k hk => by
          unfold lf
          rw [List.getD_eq_getElem?_getD, List.getD_eq_getElem?_getD, List.getElem?_append_left (by omega)]
        have hlfi : lf (q ++ [j]) i = j := by simp [lf, ← hql]
        have hin : i ≤ 5 := by omega
        have hwas : wasN J (lf (q ++ [j])) i = wasN J (lf q) i := by
          cases i with
          | zero => rfl
          | succ i => simp only [wasN, hlfq i (by omega)]
        have huN : uN (L 1) col left J (J 1) (lf (q ++ [j])) i = uN (L 1) col left J (J 1) (lf q) i := uN_congr hlfq
        have huN1 : uN (L 1) col left J (J 1) (lf (q ++ [j])) (i + 1) = uB (L 1) col left J (J 1) (uN (L 1) col left J (J 1) (lf q) i) (wasN J (lf q) i) j := by
          rw [uN, huN, hwas, hlfi]
        have hle := uN_le (st := L 1) (c0 := col) (l0 := left) (J := J) (R := J 1) (p := lf (q ++ [j])) (m := i + 1) (fun k hk => by have := bj _ (hqm' _ (getD_mem (l := q ++ [j]) (i := k) (by simp; omega))); unfold lf; omega) b.2.2.1 b.2.2.2.2.2.2.2.2.2
        have hle0 := hle i (by omega)
        have hle1 := hle (i + 1) (Nat.le_refl _)
        rw [huN] at hle0
        have hwb : wasN J (lf q) i ≤ 1 := by
          cases i with
          | zero => simp [wasN]
          | succ i => exact (bj _ (hqm _ (getD_mem (l := q) (i := i) (by omega)))).2.2.2.1
        have eu := usedBehind_ev hC hJ bc bj hn (u := uN (L 1) col left J (J 1) (lf q) i) (was := wasN J (lf q) i) hj (by omega) hwb
        rw [← huN1] at eu
        have hpos := uN_pos (st := L 1) (c0 := col) (l0 := left) (J := J) (R := J 1) (p := lf (q ++ [j])) (i := i) (by rw [hlfi]; exact (bj j hj).2.1)
        have ed := dayAt_ev hC hpos (by omega)
        have hdb := bc.2.2.2.2.2 _ hpos (show uN (L 1) col left J (J 1) (lf (q ++ [j])) (i + 1) ≤ 126 by omega)
        have ev := valueOf_ev (fine := L 2) hJ bj hn hj (e := dyS (sOf L lost nig) day (uN (L 1) col left J (J 1) (lf (q ++ [j])) (i + 1))) (by omega) b.2.2.2.1
        have f12 : Fr TO v (setI v 12 i (nI j)) := Fr.set (by simp [TO])
        have hM1 : MBd n J L lost nig day col left till p (setI v 12 i (nI j)) := hMv.fr f12 (fun o k q => mB_TO q)
        have hr1 : rowL ((setI v 12 i (nI j)).1 12) (q ++ [j]) := rowL_snoc (fun k x hx => by
          have hk : k < q.length := by rw [List.getElem?_eq_some_iff] at hx; exact hx.1
          simp only [setI1, true_and, show ¬ k = i by omega, if_false]
          exact hr k x hx) (by rw [hql]; simp [setI1])
        have hql' : (q ++ [j]).length = i + 1 := by simp [hql]
        have hin2 : i + 1 ≤ n := by
          have hs : ((q ++ [j]).length) ≤ (List.range n).length := len_of_sub hq' (fun x hx => by simpa using hqm' x hx)
          rw [hql', List.length_range] at hs; exact hs
        obtain ⟨v2, k1, k2, k3⟩ := worksMany_ev (N := N0) (p := lf (q ++ [j])) (m := i + 1) (tw := 0) (lg := 0) hM1.1 hM1.2.1 b bj hn (by omega) (by omega) (by omega) hin2 (fun k hk => hr1.get (by omega)) (fun k hk => hqm' _ (getD_mem (by omega))) (fun x y hx hy hxy => lf_inj hq' x y (by omega) (by omega) hxy)
        rw [sLg0, Rd_0] at k3
        have k3j := k3 i (by omega)
        rw [hlfi] at k3j
        have k2' : Fr TO (setI v 12 i (nI j)) v2 := k2.wd (fun o k q => TW_TO q)
        have F2 : Fr TO wM v2 := hF.tr (f12.tr k2')
        have hM2 : MBd n J L lost nig day col left till p v2 := hm.fr F2 (fun o k q => mB_TO q)
        have ew := worthOf_ev (fine := L 2) hM2.1 bj (by omega) (hM2.2.1.1 2 (by omega)) b.2.2.2.1 hj k3j (by omega)
        have v218 : ∀ k, k < 18 → v2.1 18 k = w1.1 60 k := fun k hk => by rw [F2.at' _ rfl]; exact (hrr k hk).symm
        have s00 : (setI v 12 i (nI j)).1 0 0 = nI n := hM1.2.2.2.1
        have g8 : ∀ {β : Type} {k : Option β}, gd (inb (nI i) 8) k = k := fun {β k} => gd_n (by omega) (by omega)
        have gj8 : ∀ {β : Type} {k : Option β}, gd (inb (nI j) 8) k = k := fun {β k} => gd_n (by omega) (by omega)
        have gj6 : ∀ {β : Type} {k : Option β}, gd (inb (nI j) 6) k = k := fun {β k} => gd_n (by omega) (by omega)
        have ti : (nI i).toNatClampNeg = i := ntn (by omega)
        have tj : (nI j).toNatClampNeg = j := ntn (by omega)
        have z0 : nI 0 = 0 := rfl
        rw [z0] at k1
        generalize hE : dyS (sOf L lost nig) day (uN (L 1) col left J (J 1) (lf (q ++ [j])) (i + 1)) = E at *
        have h46 : w1.1 46 2 = nI (L 2) := hC.1
        have hr2 : rowL (v2.1 12) (q ++ [j]) := fun k x hx => by rw [k2.at' _ rfl]; exact hr1 k x hx
        by_cases e1 : w1.1 60 (3 * i + 1) = nI E
        · have e1' : v2.1 18 (3 * i + 1) = v2.1 14 j := by rw [v218 _ (by omega), k3j]; exact e1
          by_cases e2 : w1.1 60 (3 * i + 2) = zI (vOf (L 2) J j E)
          · have e2' : v2.1 18 (3 * i + 2) = zI (vOf (L 2) J j E) := by rw [v218 _ (by omega)]; exact e2
            have sC : lbX6_firstWrong_10_1 N0 2 w1 (nI (uN (L 1) col left J (J 1) (lf q) i), nI (wasN J (lf q) i), nI (mskL q), nI i) = some (.inl (nI (uN (L 1) col left J (J 1) (lf (q ++ [j])) (i + 1)), nI (J 2 j), nI (mskL (q ++ [j])), nI (i + 1))) := by
              have hcol : w1.1 (2 + 3) j = nI (J 2 j) := (hJ.2 j hj).2.2.1
              simp only [lbX6_firstWrong_10_1, h59, hnm, if_false, c0, g0, t0, lw_eq, hj2, eh, hw, bd_some', h10, hb0, if_true, eu, gj6, ed, c1, g1, t1, e1, c2, g2, t2, h46, ev, e2, tj, hcol, hor, i1]
            have sM : lbX12_judge_4_1 N0 (nI (mskL q), nI i, v) = some (.inl (nI (mskL (q ++ [j])), nI (i + 1), v2)) := by
              simp only [lbX12_judge_4_1, v37, hnm, if_false, m0, g0, t0, lw_eq, h18, ei, hw, bd_some', h10, hb1, g8, ti, i1, s00, k1, c1, g1, gj8, t1, tj, e1', if_true, c2, g2, t2, ew, e2', hor]
            rw [wh_step sC, wh_step sM]
            have := ih (i + 1) (q ++ [j]) v2 M (by omega) hql' hq' hqm' F2 hr2 (by omega)
            have hws : wasN J (lf (q ++ [j])) (i + 1) = J 2 j := by simp only [wasN, hlfi]
            rw [hws] at this
            exact this
          · have e2' : ¬ v2.1 18 (3 * i + 2) = zI (vOf (L 2) J j E) := by rw [v218 _ (by omega)]; exact e2
            refine ⟨.inr (.inr (.inr (nI i))), .inr (.inr (nI i, v2)), nI i + 1, v2, wh_out ?_, wh_out ?_, rfl, rfl, F2⟩
            · simp only [lbX6_firstWrong_10_1, h59, hnm, if_false, c0, g0, t0, lw_eq, hj2, eh, hw, bd_some', h10, hb0, if_true, eu, gj6, ed, c1, g1, t1, e1, c2, g2, t2, h46, ev, e2]
            · simp only [lbX12_judge_4_1, v37, hnm, if_false, m0, g0, t0, lw_eq, h18, ei, hw, bd_some', h10, hb1, g8, ti, i1, s00, k1, c1, g1, gj8, t1, tj, e1', if_true, c2, g2, t2, ew, e2']
        · have e1' : ¬ v2.1 18 (3 * i + 1) = v2.1 14 j := by rw [v218 _ (by omega), k3j]; exact e1
          refine ⟨.inr (.inr (.inl (nI i))), .inr (.inr (nI i, v2)), nI i + 1, v2, wh_out ?_, wh_out ?_, rfl, rfl, F2⟩
          · simp only [lbX6_firstWrong_10_1, h59, hnm, if_false, c0, g0, t0, lw_eq, hj2, eh, hw, bd_some', h10, hb0, if_true, eu, gj6, ed, c1, g1, t1, e1]
          · simp only [lbX12_judge_4_1, v37, hnm, if_false, m0, g0, t0, lw_eq, h18, ei, hw, bd_some', h10, hb1, g8, ti, i1, s00, k1, c1, g1, gj8, t1, tj, e1']
theorem st_judge {wC wM : AW} (h : Rel wC wM) : ∃ r wC' wM', fX11_judge N0 wC = some (r, wC') ∧ fX12_judge N0 wM = some (r, wM') ∧ Rel wC' wM' := by
  obtain ⟨n, J, L, lost, nig, day, col, left, till, p, ok, hc, hm⟩ := h.1
  obtain ⟨m, hm6, rc1, rm1, hrr⟩ := h.2.2.2.2.1
  have hN := N0_big
  obtain ⟨w1, m1, m2, m3, m4, m5⟩ := meas_ev (lg := 0) (N := N0) ok hc (by omega) (by omega)
  rw [sLg0] at m3 m5
  rw [show nI 0 = 0 from rfl] at m1
  obtain ⟨hn, bj, b, hp⟩ := ok
  obtain ⟨eC, eM, r, v', a1, a2, a3, a4, a5⟩ := judge_both hn bj b hm6 m3 m5 m4.1 (by rw [m2.at' _ rfl]; exact rc1) hm rm1 (fun k hk => by rw [m2.at' _ rfl]; exact hrr k hk) m 0 [] wM N0 (by omega) rfl (by simp) (fun j hj => by simp at hj) Fr.rf (fun i v hv => by simp at hv) (by omega)
  have a1' : wh (lbX6_firstWrong_10_1 N0 2 w1) N0 (0, 0, 0, 0) = some eC := a1
  have a2' : wh (lbX12_judge_4_1 N0) N0 (0, 0, wM) = some eM := a2
  refine ⟨r, w1, v', ?_, ?_, h.scr (m2.wd (fun o k q => TB_M4 q)) a5 (fun o k q => TB_p q) (fun o k q => TO_p q)⟩
  · simp only [fX11_judge, m1, bd_some', fX6_firstWrong, a1']
    rw [a3]; rfl
  · simp only [fX12_judge, a2', bd_some']
    exact a4
