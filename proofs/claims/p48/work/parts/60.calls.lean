/-! 60: the program's calls that only tell, on the board alone -/
theorem TB_F {o k : Nat} (h : TB o k = false) : TF o k = false := by
  simp only [TB, TF, Bool.or_eq_false_iff] at h ⊢; simp_all
theorem nI0 : nI 0 = (0 : Int32) := rfl
theorem ne10 : ¬ (1 : Int32) = 0 := by decide
def bst (dy : Nat → Nat) (st c0 l0 fine : Nat) (J : Nat → Nat → Nat) (n : Nat) : Int × List Nat := (prm n 6).foldl (bestG (fun p => wN dy st c0 l0 fine J (J 1) (lf p) p.length)) (-2147483648, [])
def few (dy : Nat → Nat) (st c0 l0 : Nat) (J : Nat → Nat → Nat) (n : Nat) : Nat := ((prm n 6).foldl (minG (fun p => ltN dy st c0 l0 J (J 1) (lf p) p.length) []) (1000000, [])).1
def soo (dy : Nat → Nat) (st c0 l0 fine : Nat) (J : Nat → Nat → Nat) (n : Nat) : Nat := ((prm n 6).foldl (minG (cL dy st c0 l0 J (J 1) (lsA fine J n 2) 0 0) []) (1000000, [])).1
def sfe (dy : Nat → Nat) (st c0 l0 odds : Nat) (J : Nat → Nat → Nat) (n : Nat) : Int × List Nat := (prm n 6).foldl (bestG (fun p => svL dy st c0 l0 odds J 0 0 p)) (-1, [])
section
variable {n : Nat} {J : Nat → Nat → Nat} {L lost nig : Nat → Nat} {day col left : Nat} {till : Int32} {p : List Nat} {w : AW}
theorem c_ends (ok : okB n J L lost nig day col left p) (hc : CBd 1 n J L lost nig day col left till p w) {j : Nat} (hj : j < n) :
    ∃ w', fX11_ends N0 (nI j) w = some (nI (eJ (dyS (sOf L lost nig) day) (L 1) col left J j p), w') ∧ Fr TB w w' ∧ CBd 1 n J L lost nig day col left till p w' := by
  have hn := ok.1
  have e1 := has_wI (o := 2) (w := w) (nI j) hc.1.1 (by omega)
  obtain ⟨w1, g1, g2, g3, g4, -⟩ := followPlan_ev ok hc (N := N0) (by have := N0_big; omega)
  refine ⟨w1, ?_, g2.wd (fun o k q => TB_F q), g4⟩
  rw [fX11_ends, e1, bd_some', wI_below (by omega) hj, if_neg (by decide), g1, bd_some', gd_n (by omega) (by omega), ntn (by omega), g3 j hj]
def lteM (E : Nat → Nat) (J : Nat → Nat → Nat) : Nat → Int32
  | 0 => 0
  | j + 1 => if E j ≤ J 3 j then lteM E J j else lteM E J j ||| (1 <<< (nI j &&& 31))
theorem c_late (ok : okB n J L lost nig day col left p) (hc : CBd 1 n J L lost nig day col left till p w) :
    ∃ w', fX11_late N0 w = some (lteM (fun j => eJ (dyS (sOf L lost nig) day) (L 1) col left J j p) J n, w') ∧ Fr TB w w' ∧ CBd 1 n J L lost nig day col left till p w' := by
  obtain ⟨w1, g1, g2, g3, g4, -⟩ := followPlan_ev ok hc (N := N0) (by have := N0_big; omega)
  obtain ⟨hn, bj, b, hp⟩ := ok
  obtain ⟨hpl, hpm, hnd, hall⟩ := perm_facts hp
  have hE : ∀ j, j < n → eJ (dyS (sOf L lost nig) day) (L 1) col left J j p ≤ 186 := fun j hj => dy_le b bj hn (by omega) hpm (lf_idxOf (hall j hj)).1
  generalize eJ (dyS (sOf L lost nig) day) (L 1) col left J = E0 at *
  refine ⟨w1, ?_, g2.wd (fun o k q => TB_F q), g4⟩
  have key := wh_for (body := lbX11_late_8_1 N0 w1) (fun i => (lteM (fun j => E0 j p) J i, nI i)) (n := n) (e := lteM (fun j => E0 j p) J n) ?_ ?_ (N := N0) (i := 0) (Nat.zero_le _) (by have := N0_big; omega)
  · have key' : wh (lbX11_late_8_1 N0 w1) N0 (0, 0) = some (lteM (fun j => E0 j p) J n) := key
    simp only [fX11_late, g1, key', lw_eq, bd_some', bd2_some', gd_true]
  · intro i hi
    have := hE i hi
    have h3 := (bj i hi).2.2.2.2.1
    have hby : w1.1 6 i = nI (J 3 i) := (g4.1.2 i hi).2.2.2.1
    have hcnt : w1.1 2 0 = nI n := g4.1.1
    by_cases hcd : E0 i p ≤ J 3 i
    · simp (disch := omega) only [lbX11_late_8_1, n1, nadd, nle, ntn, gd_n, lw_eq, bd_some', bd2_some', gd_true, hcnt, if_neg (show ¬ n ≤ i by omega), g3 i hi, hby, hcd, if_true, lteM]
    · simp (disch := omega) only [lbX11_late_8_1, nle, ntn, gd_n, lw_eq, bd_some', bd2_some', gd_true, hcnt, if_neg (show ¬ n ≤ i by omega), g3 i hi, hby, hcd, if_false, lteM]
      rw [show nI i + 1 = nI (i + 1) by rw [n1, nadd]]
  · have hcnt : w1.1 2 0 = nI n := g4.1.1
    simp (disch := omega) only [lbX11_late_8_1, hcnt, nle, Nat.le_refl, if_true]
theorem c_worth (ok : okB n J L lost nig day col left p) (hc : CBd 1 n J L lost nig day col left till p w) :
    ∃ w', fX11_worth N0 w = some (zI (wN (dyS (sOf L lost nig) day) (L 1) col left (L 2) J (J 1) (lf p) n), w') ∧ Fr TB w w' ∧ CBd 1 n J L lost nig day col left till p w' := by
  obtain ⟨w1, g1, g2, g3, g4, g5⟩ := followPlan_ev ok hc (N := N0) (by have := N0_big; omega)
  obtain ⟨hn, bj, b, hp⟩ := ok
  obtain ⟨hpl, hpm, hnd, hall⟩ := perm_facts hp
  have hE : ∀ j, j < n → eJ (dyS (sOf L lost nig) day) (L 1) col left J j p ≤ 186 := fun j hj => dy_le b bj hn (by omega) hpm (lf_idxOf (hall j hj)).1
  have hsum := wN_sZ (dy := dyS (sOf L lost nig) day) (st := L 1) (c0 := col) (l0 := left) (fine := L 2) (J := J) hnd
  rw [hpl, sZ_perm hp] at hsum
  generalize eJ (dyS (sOf L lost nig) day) (L 1) col left J = E0 at *
  refine ⟨w1, ?_, g2.wd (fun o k q => TB_F q), g4⟩
  rw [hsum]
  have hcnt : w1.1 2 0 = nI n := g4.1.1
  have key := wh_for (body := lbX11_worth_8_1 N0 w1) (fun i => (zI (sZ (fun j => vOf (L 2) J j (E0 j p)) (List.range i)), nI i)) (n := n) (e := zI (sZ (fun j => vOf (L 2) J j (E0 j p)) (List.range n))) ?_ ?_ (N := N0) (i := 0) (Nat.zero_le _) (by have := N0_big; omega)
  · have key' : wh (lbX11_worth_8_1 N0 w1) N0 (0, 0) = some (zI (sZ (fun j => vOf (L 2) J j (E0 j p)) (List.range n))) := key
    simp only [fX11_worth, g1, key', lw_eq, bd_some', bd2_some', gd_true]
  · intro i hi
    have := hE i hi
    have ev := valueOf_ev (o := 2) (fine := L 2) g4.1 bj hn hi (e := E0 i p) (by omega) b.2.2.2.1
    have hs : sZ (fun j => vOf (L 2) J j (E0 j p)) (List.range (i + 1)) = sZ (fun j => vOf (L 2) J j (E0 j p)) (List.range i) + vOf (L 2) J i (E0 i p) := by rw [List.range_succ, sZ_app]; simp [sZ]
    simp (disch := omega) only [lbX11_worth_8_1, n0, n1, n2, n3, n4, n5, n6, n7, n8, n9, n10, n13, n16, n18, n20, n30, n32, n40, n48, n57, n59, n60, n64, n97, n99, n122, n126, n186, n200, n1000000, nadd, nmul, nlt, nle, neq, ntn, gd_n, lw_eq, bd_some', bd2_some', gd_true, hcnt, if_neg (show ¬ n ≤ i by omega), g3 i hi, g5, ev, zadd, hs]
  · simp (disch := omega) only [lbX11_worth_8_1, hcnt, nle, Nat.le_refl, if_true]
theorem bst_in (b : bL L lost nig day col left) (bj : bJ n J) (hn : n ≤ 6) : (bst (dyS (sOf L lost nig) day) (L 1) col left (L 2) J n).2 ∈ prm n 6 :=
  bestG_in (n := n) (b := 6) (b0 := -2147483648) (f := fun p => wN (dyS (sOf L lost nig) day) (L 1) col left (L 2) J (J 1) (lf p) p.length) hn (by omega) (fun p hp => by have := W_low (dy := dyS (sOf L lost nig) day) (st := L 1) (c0 := col) (l0 := left) (fine := L 2) bj b.2.2.2.1 hn p hp; show (-2147483648 : Int) < wN (dyS (sOf L lost nig) day) (L 1) col left (L 2) J (J 1) (lf p) p.length; omega)
theorem c_best (ok : okB n J L lost nig day col left p) (hc : CBd 1 n J L lost nig day col left till p w) (a0 : Int32) (hr : wI a0 0 1 = 1) :
    ∃ w', fX11_best N0 a0 w = some (if a0 = 0 then zI (bst (dyS (sOf L lost nig) day) (L 1) col left (L 2) J n).1 else dg (bst (dyS (sOf L lost nig) day) (L 1) col left (L 2) J n).2 n, w') ∧ Fr TB w w' ∧ CBd 1 n J L lost nig day col left till p w' := by
  have hN := N0_big
  obtain ⟨w1, m1, m2, m3, m4, m5⟩ := meas_ev (lg := 0) (N := N0) ok hc (by omega) (by omega)
  rw [sLg0] at m3 m5
  rw [show nI 0 = 0 from rfl] at m1
  obtain ⟨hn, bj, b, hp⟩ := ok
  obtain ⟨w2, mo, ch, g1, g2, g3, -, -, g4⟩ := mostWorth_ev (o := 2) (N := N0) (b := 6) (bI := -9) m5 bj hn (Or.inl rfl) (by omega) (Or.inl ⟨rfl, rfl⟩) m3 m4.1
  have hch := bst_in (n := n) (J := J) b bj hn
  have g4' : (mo, ch) = bst (dyS (sOf L lost nig) day) (L 1) col left (L 2) J n := g4
  rw [← g4'] at hch ⊢
  have hcl := (prm_range hn hch).2
  have c2 : CBd 1 n J L lost nig day col left till p w2 := m4.tb (b := 1) g2 (fun o k q => TB_L q)
  have cnt : w2.1 2 0 = nI n := c2.1.1
  have d1 := digitsC_ev (N := N0) g3 hcl hn (by omega)
  refine ⟨w2, ?_, (m2.wd (fun o k q => TB_M4 q)).tr (g2.wd (fun o k q => TB_L q)), c2⟩
  simp only [fX11_best, within_ev, hr, bd_some', m1, g1, bd2_some', cnt, d1]
  rw [if_neg (by decide)]
  split <;> rfl
theorem c_fewest (ok : okB n J L lost nig day col left p) (hc : CBd 1 n J L lost nig day col left till p w) :
    ∃ w', fX11_fewest N0 w = some (nI (few (dyS (sOf L lost nig) day) (L 1) col left J n), w') ∧ Fr TB w w' ∧ CBd 1 n J L lost nig day col left till p w' ∧ few (dyS (sOf L lost nig) day) (L 1) col left J n ≤ 10000000 := by
  have hN := N0_big
  obtain ⟨w1, w2, le, ch, m1, g1, g2, g3, g5, g4⟩ := fewC_ev (lg := 0) (N := N0) ok hc (by omega) (by omega)
  rw [sLg0] at g4
  rw [show nI 0 = 0 from rfl] at m1
  have hle : le = few (dyS (sOf L lost nig) day) (L 1) col left J n := congrArg Prod.fst g4
  subst hle
  exact ⟨w2, by simp only [fX11_fewest, m1, g1, lw_eq, bd_some', bd2_some', gd_true], g2, g3, g5⟩
theorem lkW_ok {k s c : Nat} (hk : k ≤ 5) (hs1 : 1 ≤ s) (hs : s ≤ 9) (hc : c ≤ 1) : ¬ lkW (nI k) (nI s) (nI c) = 0 := by
  unfold lkW
  rw [show (0 : Int32) = nI 0 from rfl, show (5 : Int32) = nI 5 from rfl, show (1 : Int32) = nI 1 from rfl, show (9 : Int32) = nI 9 from rfl, wI_of (by omega) hk (by omega), wI_of hs1 hs (by omega), wI_of (by omega) hc (by omega)]
  decide
theorem pmW_ok {b p : Nat} (hb : b ≤ 60) (hp : p ≤ 99) : ¬ pmW (nI b) (nI p) = 0 := by
  unfold pmW
  rw [show (0 : Int32) = nI 0 from rfl, show (60 : Int32) = nI 60 from rfl, show (99 : Int32) = nI 99 from rfl, wI_of (by omega) hb (by omega), wI_of (by omega) hp (by omega)]
  decide
theorem c_gain (ok : okB n J L lost nig day col left p) (hc : CBd 1 n J L lost nig day col left till p w) (h6 : n < 6) {k s c b' pr : Nat} (hk : k ≤ 5) (hs1 : 1 ≤ s) (hs : s ≤ 9) (hcc : c ≤ 1) (hby : b' ≤ 60) (hpr : pr ≤ 99) :
    ∃ w', fX11_gain N0 (nI k) (nI s) (nI c) (nI b') (nI pr) w = some (zI ((bst (dyS (sOf L lost nig) day) (L 1) col left (L 2) (upJ J n (jR k s c b' pr)) (n + 1)).1 - (bst (dyS (sOf L lost nig) day) (L 1) col left (L 2) J n).1), w') ∧ Fr TB w w' ∧ CBd 1 n J L lost nig day col left till p w' := by
  have hN := N0_big
  have hcn : w.1 2 0 = nI n := hc.1.1
  have h1 := lkW_ok hk hs1 hs hcc
  have h2 := pmW_ok hby hpr
  obtain ⟨w1, m1, m2, m3, m4, m5⟩ := meas_ev (lg := 0) (N := N0) ok hc (by omega) (by omega)
  rw [sLg0] at m3 m5
  rw [show nI 0 = 0 from rfl] at m1
  obtain ⟨hn, bj, b, hp⟩ := ok
  obtain ⟨w2, mo, ch, g1, g2, -, -, -, g4⟩ := mostWorth_ev (o := 2) (N := N0) (b := 6) (bI := -9) m5 bj hn (Or.inl rfl) (by omega) (Or.inl ⟨rfl, rfl⟩) m3 m4.1
  have c2 : CBd 1 n J L lost nig day col left till p w2 := m4.tb (b := 1) g2 (fun o k q => TB_L q)
  obtain ⟨w3, p1, p2, p3⟩ := copy_ev (o := 61) (o0 := 2) (N := N0) c2.1 (by omega) hn (by omega)
  obtain ⟨w4, q1, q2, q3⟩ := add_ev (k := k) (s := s) (c := c) (b := b') (p := pr) p3 (by omega) hk hs
  have bj' := bJ_up (k := k) (s := s) (c := c) (b := b') (p := pr) bj hk hs1 hs hcc (by omega) hpr
  have m3' : CCo (dyS (sOf L lost nig) day) (L 1) col left (L 2) (L 3) w4 := ((m3.fr g2 (fun k => rfl) (fun k => rfl)).fr p2 (fun k => rfl) (fun k => rfl)).fr q2 (fun k => rfl) (fun k => rfl)
  obtain ⟨w5, mo2, ch2, r1, r2, -, -, -, r4⟩ := mostWorth_ev (o := 61) (N := N0) (b := 6) (bI := -9) m5 bj' (by omega) (Or.inr rfl) (by omega) (Or.inl ⟨rfl, rfl⟩) m3' q3
  have e1 : mo = (bst (dyS (sOf L lost nig) day) (L 1) col left (L 2) J n).1 := congrArg Prod.fst g4
  have e2 : mo2 = (bst (dyS (sOf L lost nig) day) (L 1) col left (L 2) (upJ J n (jR k s c b' pr)) (n + 1)).1 := congrArg Prod.fst r4
  subst e1; subst e2
  have hFC : Fr TB w w5 := (m2.wd (fun o k q => TB_M4 q)).tr ((g2.wd (fun o k q => TB_L q)).tr ((p2.wd (fun o k q => TB_T q)).tr ((q2.wd (fun o k q => TB_T q)).tr (r2.wd (fun o k q => TB_L q)))))
  refine ⟨w5, ?_, hFC, hc.tb (b := 1) hFC (fun o k q => q)⟩
  simp only [fX11_gain, isJobC_ev, h1, h2, bd_some', if_false, hcn, m1, g1, bd2_some', p1, q1, r1, zsub]
  rw [if_pos (by rw [n6, nlt (by omega) (by omega)]; omega)]
theorem c_soonest (ok : okB n J L lost nig day col left p) (hc : CBd 1 n J L lost nig day col left till p w) (h6 : n < 6) {k s c : Nat} (hk : k ≤ 5) (hs1 : 1 ≤ s) (hs : s ≤ 9) (hcc : c ≤ 1) :
    ∃ w', fX11_soonest N0 (nI k) (nI s) (nI c) w = some (if 60 < soo (dyS (sOf L lost nig) day) (L 1) col left (L 2) (upJ J n (jR k s c 60 0)) (n + 1) then -3 else nI (soo (dyS (sOf L lost nig) day) (L 1) col left (L 2) (upJ J n (jR k s c 60 0)) (n + 1)), w') ∧ Fr TB w w' ∧ CBd 1 n J L lost nig day col left till p w' := by
  have hN := N0_big
  have hcn : w.1 2 0 = nI n := hc.1.1
  have h2 : ¬ pmW 0 0 = 0 := by decide
  have h1 := lkW_ok hk hs1 hs hcc
  obtain ⟨w1, m1, m2, m3, m4, m5⟩ := meas_ev (lg := 0) (N := N0) ok hc (by omega) (by omega)
  rw [sLg0] at m3 m5
  rw [show nI 0 = 0 from rfl] at m1
  obtain ⟨hn, bj, b, hp⟩ := ok
  obtain ⟨w3, p1, p2, p3⟩ := copy_ev (o := 61) (o0 := 2) (N := N0) m4.1 (by omega) hn (by omega)
  obtain ⟨w4, q1, q2, q3⟩ := add_ev (k := k) (s := s) (c := c) (b := 60) (p := 0) p3 (by omega) hk hs
  have bj' := bJ_up (k := k) (s := s) (c := c) (b := 60) (p := 0) bj hk hs1 hs hcc (by omega) (by omega)
  have m3' : CCo (dyS (sOf L lost nig) day) (L 1) col left (L 2) (L 3) w4 := (m3.fr p2 (fun k => rfl) (fun k => rfl)).fr q2 (fun k => rfl) (fun k => rfl)
  obtain ⟨w5, le, ch2, r1, r2, -, r3, r4⟩ := leastLost_ev (aim := 2) (o := 61) (N := N0) (b := 6) (bI := -9) m5 bj' (by omega) (Or.inr rfl) (by omega) (by omega) (Or.inl ⟨rfl, rfl⟩) m3' q3
  have hFC : Fr TB w w5 := (m2.wd (fun o k q => TB_M4 q)).tr ((p2.wd (fun o k q => TB_T q)).tr ((q2.wd (fun o k q => TB_T q)).tr (r2.wd (fun o k q => TB_L q))))
  have hle : le = soo (dyS (sOf L lost nig) day) (L 1) col left (L 2) (upJ J n (jR k s c 60 0)) (n + 1) := congrArg Prod.fst r4
  subst hle
  rw [show nI 2 = 2 from rfl] at r1
  refine ⟨w5, ?_, hFC, hc.tb (b := 1) hFC (fun o k q => q)⟩
  rw [show nI 60 = 60 from rfl, show nI 0 = 0 from rfl] at q1
  generalize soo (dyS (sOf L lost nig) day) (L 1) col left (L 2) (upJ J n (jR k s c 60 0)) (n + 1) = le at *
  have e60 : ((60 : Int32) < nI le) = (60 < le) := by rw [n60, nlt (by omega) (by omega)]
  simp only [fX11_soonest, isJobC_ev, h1, h2, bd_some', if_false, hcn, m1, p1, q1, fX5_soonestEnd, r1, bd2_some', e60]
  rw [if_pos (by rw [n6, nlt (by omega) (by omega)]; omega)]
  split <;> rfl
end
