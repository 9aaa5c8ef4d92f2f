/-! 62: the calls that change the board -/
section
variable {n : Nat} {J : Nat → Nat → Nat} {L lost nig : Nat → Nat} {day col left : Nat} {till : Int32} {p : List Nat} {w : AW}
def T1 (o _k : Nat) : Bool := decide (1 ≤ o) && decide (o ≤ 11)
theorem c_set (ok : okB n J L lost nig day col left p) (hc : CBd 1 n J L lost nig day col left till p w) {l m : Nat} (hl : l ≤ 3) (v0 : l = 0 → 1 ≤ m ∧ m ≤ 4) (v1 : l = 1 → m ≤ 3) (v2 : l = 2 → m ≤ 99) (v3 : l = 3 → m ≤ 4) :
    ∃ w', fX11_set (nI l) (nI m) w = some (nI (L l), w') ∧ Fr T1 w w' ∧ okB n J (fun i => if i = l then m else L i) lost nig day col left p ∧ CBd 1 n J (fun i => if i = l then m else L i) lost nig day col left till p w' := by
  have h10 : ¬ (1 : Int32) = 0 := by decide
  have hr : wI (nI l) 0 3 = 1 := wI_of (lo := 0) (hi := 3) (by omega) hl (by omega)
  have hg : ∀ {β : Type} {k : Option β}, gd (inb (nI l) 4) k = k := fun {β k} => gd_n (by omega) (by omega)
  have ht : (nI l).toNatClampNeg = l := ntn (by omega)
  have hr2 : wI (nI m) (leastS l) (mostS l) = 1 := by
    have : l = 0 ∨ l = 1 ∨ l = 2 ∨ l = 3 := by omega
    rcases this with rfl | rfl | rfl | rfl
    · exact wI_of (lo := 1) (hi := 4) (v0 rfl).1 (v0 rfl).2 (by omega)
    · exact wI_of (lo := 0) (hi := 3) (by omega) (v1 rfl) (by omega)
    · exact wI_of (lo := 0) (hi := 99) (by omega) (v2 rfl) (by omega)
    · exact wI_of (lo := 0) (hi := 4) (by omega) (v3 rfl) (by omega)
  obtain ⟨c1, c2, c3, c4, c5, c6, c7, c8, c9⟩ := id hc
  obtain ⟨hn, bj, ⟨b1, b2, b3, b4, b5, b6, b7, b8⟩, hp⟩ := ok
  have fC : Fr (fun o _ => o == 8) w (setI w 8 l (nI m)) := Fr.set (by simp)
  have r1 : w.1 8 l = nI (L l) := c2 l (by omega)
  refine ⟨setI w 8 l (nI m), ?_, fC.wd (fun o k q => by simp [T1] at q ⊢; omega), ⟨hn, bj, ⟨?_, ?_, ?_, ?_, ?_, b6, b7, b8⟩, hp⟩, ⟨c1.fr fC (fun i hi k => by simp; omega), fun i hi => ?_, c3, c4, c5, c6, c7, c8, c9⟩⟩
  · simp only [fX11_set, within_ev, hr, bd_some', h10, if_false, hg, ht, hr2, lw_eq, r1]
  · simp only []; split <;> omega
  · simp only []; split <;> omega
  · simp only []; split <;> omega
  · simp only []; split <;> omega
  · simp only []; split <;> omega
  · show (setI w 8 l (nI m)).1 8 i = _
    by_cases hq : i = l
    · subst hq; simp [setI1]
    · simp only [setI1, hq, and_false, if_false]; exact c2 i hi
theorem c_lose (ok : okB n J L lost nig day col left p) (hc : CBd 1 n J L lost nig day col left till p w) {d m : Nat} (hd : d ≤ 60) (hm : m ≤ 9) :
    ∃ w', fX11_lose (nI d) (nI m) w = some (nI (lost d), w') ∧ Fr T1 w w' ∧ okB n J L (fun i => if i = d then m else lost i) nig day col left p ∧ CBd 1 n J L (fun i => if i = d then m else lost i) nig day col left till p w' := by
  have h10 : ¬ (1 : Int32) = 0 := by decide
  have hr : wI (nI d) 0 60 = 1 := wI_of (lo := 0) (hi := 60) (by omega) hd (by omega)
  have hr2 : wI (nI m) 0 9 = 1 := wI_of (lo := 0) (hi := 9) (by omega) hm (by omega)
  obtain ⟨c1, c2, c3, c4, c5, c6, c7, c8, c9⟩ := id hc
  obtain ⟨hn, bj, ⟨b1, b2, b3, b4, b5, b6, b7, b8⟩, hp⟩ := ok
  have fC : Fr (fun o _ => o == 9) w (setI w 9 d (nI m)) := Fr.set (by simp)
  have r1 : w.1 9 d = nI (lost d) := c3 d hd
  refine ⟨setI w 9 d (nI m), ?_, fC.wd (fun o k q => by simp [T1] at q ⊢; omega), ⟨hn, bj, ⟨b1, b2, b3, b4, b5, fun i hi => ?_, b7, b8⟩, hp⟩, ⟨c1.fr fC (fun i hi k => by simp; omega), c2, fun i hi => ?_, c4, c5, c6, c7, c8, c9⟩⟩
  · simp (disch := omega) only [fX11_lose, within_ev, hr, hr2, bd_some', h10, if_false, ntn, gd_n, lw_eq, r1]
  · simp only []
    split
    · omega
    · exact b6 i hi
  · show (setI w 9 d (nI m)).1 9 i = _
    by_cases hq : i = d
    · subst hq; simp [setI1]
    · simp only [setI1, hq, and_false, if_false]; exact c3 i hi
theorem c_night (ok : okB n J L lost nig day col left p) (hc : CBd 1 n J L lost nig day col left till p w) {d m : Nat} (hd : d ≤ 60) (hm : m ≤ 9) :
    ∃ w', fX11_night (nI d) (nI m) w = some (nI (nig d), w') ∧ Fr T1 w w' ∧ okB n J L lost (fun i => if i = d then m else nig i) day col left p ∧ CBd 1 n J L lost (fun i => if i = d then m else nig i) day col left till p w' := by
  have h10 : ¬ (1 : Int32) = 0 := by decide
  have hr : wI (nI d) 0 60 = 1 := wI_of (lo := 0) (hi := 60) (by omega) hd (by omega)
  have hr2 : wI (nI m) 0 9 = 1 := wI_of (lo := 0) (hi := 9) (by omega) hm (by omega)
  obtain ⟨c1, c2, c3, c4, c5, c6, c7, c8, c9⟩ := id hc
  obtain ⟨hn, bj, ⟨b1, b2, b3, b4, b5, b6, b7, b8⟩, hp⟩ := ok
  have fC : Fr (fun o _ => o == 10) w (setI w 10 d (nI m)) := Fr.set (by simp)
  have r1 : w.1 10 d = nI (nig d) := c4 d hd
  refine ⟨setI w 10 d (nI m), ?_, fC.wd (fun o k q => by simp [T1] at q ⊢; omega), ⟨hn, bj, ⟨b1, b2, b3, b4, b5, b6, fun i hi => ?_, b8⟩, hp⟩, ⟨c1.fr fC (fun i hi k => by simp; omega), c2, c3, fun i hi => ?_, c5, c6, c7, c8, c9⟩⟩
  · simp (disch := omega) only [fX11_night, within_ev, hr, hr2, bd_some', h10, if_false, ntn, gd_n, lw_eq, r1]
  · simp only []
    split
    · omega
    · exact b7 i hi
  · show (setI w 10 d (nI m)).1 10 i = _
    by_cases hq : i = d
    · subst hq; simp [setI1]
    · simp only [setI1, hq, and_false, if_false]; exact c4 i hi
theorem c_job (ok : okB n J L lost nig day col left p) (hc : CBd 1 n J L lost nig day col left till p w) (h6 : n < 6) {k s c b' pr : Nat} (hk : k ≤ 5) (hs1 : 1 ≤ s) (hs : s ≤ 9) (hcc : c ≤ 1) (hby : b' ≤ 60) (hpr : pr ≤ 99) :
    ∃ w', fX11_job (nI k) (nI s) (nI c) (nI b') (nI pr) w = some (nI n, w') ∧ Fr T1 w w' ∧ okB (n + 1) (upJ J n (jR k s c b' pr)) L lost nig day col left (p ++ [n]) ∧ CBd 1 (n + 1) (upJ J n (jR k s c b' pr)) L lost nig day col left till (p ++ [n]) w' := by
  have hcn : w.1 2 0 = nI n := hc.1.1
  have h1 := lkW_ok hk hs1 hs hcc
  have h2 := pmW_ok hby hpr
  obtain ⟨hn, bj, b, hp⟩ := ok
  obtain ⟨hpl, hpm, hnd, hall⟩ := perm_facts hp
  have f1 : Fr (fun o _ => o == 11) w (setI w 11 n (nI n)) := Fr.set (by simp)
  have j1 : CJo 2 n J (setI w 11 n (nI n)) := hc.1.fr f1 (fun i hi k => by simp; omega)
  obtain ⟨w2, q1, q2, q3⟩ := add_ev (k := k) (s := s) (c := c) (b := b') (p := pr) j1 (by omega) hk hs
  have bj' := bJ_up (k := k) (s := s) (c := c) (b := b') (p := pr) bj hk hs1 hs hcc (by omega) hpr
  have hp' : (p ++ [n]).Perm (List.range (n + 1)) := by rw [List.range_succ]; exact hp.append_right [n]
  have fC : Fr (fun o _ => o == 11 || (decide (2 ≤ o) && decide (o ≤ 2 + 5))) w w2 := (f1.wd (fun o k q => by simp at q ⊢; omega)).tr (q2.wd (fun o k q => by simp at q ⊢; omega))
  refine ⟨w2, ?_, fC.wd (fun o k q => by simp [T1] at q ⊢; omega), ⟨by omega, bj', b, hp'⟩, hc.with fC (fun k => rfl) (fun k => rfl) (fun k => rfl) (fun k _ _ => rfl) q3 ?_⟩
  · have hcn2 : w2.1 2 0 = nI (n + 1) := q3.1
    simp only [fX11_job, isJobC_ev, h1, h2, bd_some', if_false, fX1_come, hcn, Nat.reduceAdd, ntn (show n ≤ 2147483647 by omega), lw_eq, q1, hcn2, n1, nsub (show 1 ≤ n + 1 by omega), Nat.add_sub_cancel]
    rw [if_pos (by rw [n6, nlt (by omega) (by omega)]; omega), gd_n (by omega) (by omega)]; rfl
  · refine rowL_snoc (fun i v hv => ?_) ?_
    · have hi : i < n := by rw [List.getElem?_eq_some_iff] at hv; have := hv.1; omega
      rw [q2.at' _ (by simp)]
      simp only [setI1, Nat.reduceAdd, true_and, show ¬ i = n by omega, if_false]
      exact hc.2.2.2.2.1 i v hv
    · rw [hpl, q2.at' _ (by simp)]; simp [setI1]
theorem c_drop (ok : okB n J L lost nig day col left p) (hc : CBd 1 n J L lost nig day col left till p w) {j : Nat} (hj : j < n) :
    ∃ w', fX11_drop N0 (nI j) w = some (nI (n - 1), w') ∧ Fr T1 w w' ∧ okB (n - 1) (rmJ j J) L lost nig day col left (rmP j p) ∧ CBd 1 (n - 1) (rmJ j J) L lost nig day col left till (rmP j p) w' := by
  have hN := N0_big
  obtain ⟨hn, bj, b, hp⟩ := ok
  obtain ⟨hpl, hpm, hnd, hall⟩ := perm_facts hp
  have e1 := has_wI (o := 2) (w := w) (nI j) hc.1.1 (by omega)
  have hr := wI_below (n := n) (by omega) hj
  have h10 : ¬ (1 : Int32) = 0 := by decide
  obtain ⟨w1, a1, a2, a3⟩ := leave_ev (N := N0) hc hpl hpm hj hn (by omega)
  have cnt : w1.1 2 0 = nI (n - 1) := a3.1.1
  exact ⟨w1, by simp only [fX11_drop, e1, hr, bd_some', h10, if_false, a1, cnt], a2.wd (fun o k q => by simp [T1] at q ⊢; omega), ⟨by omega, bJ_rm bj, b, rmP_perm hp hj⟩, a3⟩
/-- a plan told by digits -/
theorem dg_all : ∀ n, n < 7 → ∀ q ∈ prm n 6, (¬ dg q n < 0) ∧ (dg q n >>> ((3 * nI n) &&& 31)) = 0 ∧ (∀ i, i < n → dgt (dg q n) i = nI (lf q i)) ∧ seenD (dg q n) n = (1 <<< (nI n &&& 31)) - 1 := by decide +kernel
theorem c_plan (ok : okB n J L lost nig day col left p) (hc : CBd 1 n J L lost nig day col left till p w) {q : List Nat} (hq : q ∈ prm n 6) :
    ∃ w', fX11_plan N0 (dg q n) w = some (1, w') ∧ Fr T1 w w' ∧ okB n J L lost nig day col left q ∧ CBd 1 n J L lost nig day col left till q w' := by
  have hN := N0_big
  obtain ⟨hn, bj, b, hp⟩ := ok
  have hcn : w.1 2 0 = nI n := hc.1.1
  obtain ⟨c1, c2, d1, c3⟩ := dg_all n (by omega) q hq
  have lC := plan_loop1C (a := dg q n) (N := N0) hcn hn (by omega)
  have hqp : q.Perm (List.range n) := by have := prm_perm hq; rwa [rmB_all hn] at this
  have hql : q.length = n := by rw [hqp.length_eq, List.length_range]
  obtain ⟨w1, e1, e2, e3⟩ := plan_loop2 (r := 11) (w := w) (N := N0) (body := lbX1_arrange_73_2 N0 1 (dg q n)) d1 hql hn (by omega) (fun i w1 hi hF => by
    have h0 : w1.1 2 0 = nI n := by rw [hF.at' _ rfl]; exact hcn
    have h3 : (3 : Int32) * nI i = nI (3 * i) := by rw [n3, nmul]
    simp only [lbX1_arrange_73_2, Nat.reduceAdd, h0, lw_eq, h3]
    rw [if_neg (by rw [nle (by omega) (by omega)]; omega), show nI i + 1 = nI (i + 1) by rw [n1, nadd], gd_n (by omega) (by omega), ntn (by omega)]
    rfl) (fun w1 hF => by
    have h0 : w1.1 2 0 = nI n := by rw [hF.at' _ rfl]; exact hcn
    simp only [lbX1_arrange_73_2, Nat.reduceAdd, h0, Int32.le_refl, if_true])
  refine ⟨w1, ?_, e2.wd (fun o k q => by simp [T1] at q ⊢; omega), ⟨hn, bj, b, hqp⟩, hc.with e2 (fun k => rfl) (fun k => rfl) (fun k => rfl) (fun k _ _ => rfl) (hc.1.fr e2 (fun i hi k => by simp; omega)) e3⟩
  simp only [fX11_plan, fX1_arrange, c1, if_false, Nat.reduceAdd, hcn, c2, if_true, lC, bd_some', c3, e1, bd2_some']
  rw [if_neg (by decide)]
theorem c_press (hc : CBd 1 n J L lost nig day col left till p w) : fX11_press 0 w = some (nI day) := by
  simp only [fX11_press, hc.2.2.2.2.2.1, if_true]
theorem c_till (hc : CBd 1 n J L lost nig day col left till p w) : fX11_till w = some till := congrArg some hc.2.2.2.2.2.2.2.2
theorem c_many (hc : CBd 1 n J L lost nig day col left till p w) : fX11_many 0 w = some (nI n) := by
  have hcn : w.1 2 0 = nI n := hc.1.1
  simp only [fX11_many, hcn, if_true]
/-! kept -/
def KB (n : Nat) (J : Nat → Nat → Nat) (L lost nig : Nat → Nat) (day col left : Nat) (till : Int32) (p : List Nat) (w : AW) : Prop := w.1 0 4 = 1 ∧ CBd 12 n J L lost nig day col left till p w ∧ ∃ z, CTy 30 0 (fun _ _ => 0) z w
theorem KB.fr {w' : AW} {T : Nat → Nat → Bool} (h : KB n J L lost nig day col left till p w) (f : Fr T w w') (h0 : T 0 4 = false) (h1 : ∀ o k, 12 ≤ o → o ≤ 22 → T o k = false) (h2 : ∀ o k, 30 ≤ o → o ≤ 36 → T o k = false) : KB n J L lost nig day col left till p w' := by
  obtain ⟨a, b, z, c⟩ := h
  exact ⟨by rw [f.at' _ h0]; exact a, b.fr f (fun i hi k => h1 _ k (by omega) (by omega)), z, c.fr f (fun i hi k => h2 _ k (by omega) (by omega))⟩
def T2 (o k : Nat) : Bool := (decide (12 ≤ o) && decide (o ≤ 22)) || (decide (30 ≤ o) && decide (o ≤ 36)) || (o == 0 && k == 4)
theorem c_keep (ok : okB n J L lost nig day col left p) (hc : CBd 1 n J L lost nig day col left till p w) {z : Int32} (tc : CTy 23 0 (fun _ _ => 0) z w) :
    ∃ w', fX11_keep N0 w = some (1, w') ∧ Fr T2 w w' ∧ KB n J L lost nig day col left till p w' := by
  have hN := N0_big
  obtain ⟨hpl, -⟩ := perm_facts ok.2.2.2
  have hn := ok.1
  obtain ⟨w1, a1, a2, a3⟩ := bcopy_ev (b := 12) (N := N0) hc (Or.inl ⟨rfl, rfl⟩) hn (by omega) (by omega)
  have tc1 : CTy 23 0 (fun _ _ => 0) z w1 := tc.fr a2 (fun i hi k => by simp; omega)
  obtain ⟨w2, b1, b2, b3⟩ := tcopy_ev (t := 30) (N := N0) tc1 (Or.inl ⟨rfl, rfl⟩) (by omega) (by omega)
  have a3' : CBd 12 n J L lost nig day col left till p w2 := a3.fr b2 (fun i hi k => by simp; omega)
  have fC : Fr T2 w (setI w2 0 4 1) := (a2.wd (fun o k q => by simp [T2] at q ⊢; omega)).tr ((b2.wd (fun o k q => by simp [T2] at q ⊢; omega)).tr (Fr.set (by simp [T2])))
  have f4 : Fr (fun o k => o == 0 && k == 4) w2 (setI w2 0 4 1) := Fr.set (by simp)
  exact ⟨setI w2 0 4 1, by simp only [fX11_keep, a1, b1, bd_some', lw_eq], fC, by simp [setI1], a3'.fr f4 (fun i hi k => by simp), z, b3.fr f4 (fun i hi k => by simp)⟩
def T3 (o _k : Nat) : Bool := (decide (1 ≤ o) && decide (o ≤ 11)) || (decide (23 ≤ o) && decide (o ≤ 29))
theorem c_again (hn : n ≤ 6) (hpl : p.length ≤ 6) (hk : KB n J L lost nig day col left till p w) :
    ∃ w', fX11_again N0 w = some (nI n, w') ∧ Fr T3 w w' ∧ CBd 1 n J L lost nig day col left till p w' ∧ ∃ z, CTy 23 0 (fun _ _ => 0) z w' := by
  have hN := N0_big
  obtain ⟨k1, hc, z, tc⟩ := hk
  have h10 : ¬ (1 : Int32) = 0 := by decide
  obtain ⟨w1, a1, a2, a3⟩ := bcopy_ev (b := 1) (N := N0) hc (Or.inr ⟨rfl, rfl⟩) hn hpl (by omega)
  have tc1 : CTy 30 0 (fun _ _ => 0) z w1 := tc.fr a2 (fun i hi k => by simp; omega)
  obtain ⟨w2, b1, b2, b3⟩ := tcopy_ev (t := 23) (N := N0) tc1 (Or.inr ⟨rfl, rfl⟩) (by omega) (by omega)
  have a3' : CBd 1 n J L lost nig day col left till p w2 := a3.fr b2 (fun i hi k => by simp; omega)
  refine ⟨w2, ?_, (a2.wd (fun o k q => by simp [T3] at q ⊢; omega)).tr (b2.wd (fun o k q => by simp [T3] at q ⊢; omega)), a3', z, b3⟩
  have hcn : w2.1 2 0 = nI n := a3'.1.1
  simp only [fX11_again, k1, h10, if_false, a1, b1, bd_some', hcn]
end
