/-! 50: what a shelf holds -/
theorem st_shelf {wC wM : AW} (h : Rel wC wM) (a0 a1 a2 : Int32) : ∃ r wC' wM', fX11_shelf a0 a1 a2 wC = some (r, wC') ∧ fX12_shelf a0 a1 a2 wM = some (r, wM') ∧ Rel wC' wM' := by
  have h10 : ¬ (1 : Int32) = 0 := by decide
  obtain ⟨r1, r2, r3⟩ := h.2.2.2.2.2.1
  obtain ⟨n, J, L, lost, nig, day, col, left, till, p, ok, hc, hm⟩ := h.1
  have hn := ok.1
  rcases wI_01 a0 0 3 with hr | hr
  · exact ⟨-1, wC, wM, by simp only [fX11_shelf, isPlace_ev, hr, bd_some', if_true], by simp only [fX12_shelf, isShelf_ev, hr, bd_some', if_true], h⟩
  · obtain ⟨a, -, ha, rfl⟩ := wI_nat (lo := 0) (hi := 3) hr (by omega) (by omega)
    have hg : ∀ {β : Type} {k : Option β}, gd (inb (nI a) 4) k = k := fun {β k} => gd_n (by omega) (by omega)
    have ht : (nI a).toNatClampNeg = a := ntn (by omega)
    have fin : ∀ (wC' wM' : AW), Fr (fun o k => (o == 71 || o == 72 || o == 73) && k == a) wC wC' → Fr (fun o k => (o == 22 || o == 23 || o == 24) && k == a) wM wM' → shH (wC'.1 71 a) (wC'.1 72 a) (wC'.1 73 a) (wM'.1 22 a) (wM'.1 23 a) (wM'.1 24 a) → Rel wC' wM' := by
      intro wC' wM' fC fM hs
      refine h.shv (T := fun o k => (o == 71 || o == 72 || o == 73) && k == a) (T' := fun o k => (o == 22 || o == 23 || o == 24) && k == a) fC ⟨fun o k q => fM.at' k q, rfl⟩ (fun o k q q1 => by simp; omega) (fun o k q q1 => by simp; omega) ⟨fun j hj => ?_, fun k hk => ?_, fun j hj => ?_⟩
      · rw [fC.at' _ (by simp), fC.at' _ (by simp), fM.at' _ (by simp), fM.at' _ (by simp)]; exact r1 j hj
      · rw [fC.at' _ (by simp), fM.2]; exact r2 k hk
      · by_cases hja : j = a
        · subst hja; exact hs
        · rw [fC.at' _ (by simp [hja]), fC.at' _ (by simp [hja]), fC.at' _ (by simp [hja]), fM.at' _ (by simp [hja]), fM.at' _ (by simp [hja]), fM.at' _ (by simp [hja])]; exact r3 j hj
    by_cases q0 : a1 = 0
    · subst q0
      have e1 := has_wI (o := 2) (w := wC) a2 hc.1.1 (by omega)
      have e2 := isJob_wI (w := wM) a2 hm.2.2.2.1
      have hb := isb_wI a2 0 (nI n - 1)
      rcases wI_01 a2 0 (nI n - 1) with hw | hw
      · rw [hw] at hb
        exact ⟨-1, wC, wM, by simp only [fX11_shelf, isPlace_ev, hr, bd_some', h10, if_false, if_true, e1, hw], by simp only [fX12_shelf, isShelf_ev, hr, bd_some', h10, if_false, fX12_isHeld, if_true, e2, hw, hb, gd_true], h⟩
      · rw [hw] at hb
        have n02 : ¬ (0 : Int32) = 2 := by decide
        have n01 : ¬ (0 : Int32) = 1 := by decide
        refine ⟨1, setI (setI wC 71 a 1) 73 a a2, setI (setI (setI wM 22 a 0) 23 a a2) 24 a 0, ?_, ?_, fin _ _ ((Fr.set (by simp)).tr (Fr.set (by simp))) (((Fr.set (by simp)).tr (Fr.set (by simp))).tr (Fr.set (by simp))) (Or.inr (Or.inl ⟨by simp [setI1], by simp [setI1], by simp [setI1]⟩))⟩
        · simp only [fX11_shelf, isPlace_ev, hr, bd_some', h10, if_false, if_true, e1, hw, fX7_holdJob, hg, ht, lw_eq]
        · simp only [fX12_shelf, isShelf_ev, hr, bd_some', h10, if_false, fX12_isHeld, if_true, e2, hw, hb, gd_true, n02, n01, bX12_shelf_46, bX12_shelf_47, hg, ht, lw_eq]
    · by_cases q1 : a1 = 1
      · subst q1
        have hb := isb_wI a2 0 3
        rcases wI_01 a2 0 3 with hw | hw
        · rw [hw] at hb
          exact ⟨-1, wC, wM, by simp only [fX11_shelf, isPlace_ev, hr, bd_some', h10, if_false, if_true, hw], by simp only [fX12_shelf, isShelf_ev, hr, bd_some', h10, if_false, fX12_isHeld, if_true, hw, hb, gd_true], h⟩
        · rw [hw] at hb
          obtain ⟨c, -, hc3, rfl⟩ := wI_nat (lo := 0) (hi := 3) hw (by omega) (by omega)
          have hg2 : ∀ {β : Type} {k : Option β}, gd (inb (nI c) 4) k = k := fun {β k} => gd_n (by omega) (by omega)
          have ht2 : (nI c).toNatClampNeg = c := ntn (by omega)
          obtain ⟨s, z, hs1, hs2, hz, c1, m1, c2, m2⟩ := r1 c (by omega)
          have hge : (0 ≤ zI s) = (0 ≤ s) := by rw [show (0 : Int32) = zI 0 from rfl, zle (by omega) (by omega) (by omega) (by omega)]
          have hm1 : (zI s = -1) = (s = -1) := by rw [show (-1 : Int32) = zI (-1) from rfl, zeq (by omega) (by omega) (by omega) (by omega)]
          have n12 : ¬ (1 : Int32) = 2 := by decide
          have rC1 : ∀ w : AW, w.1 68 c = zI s → w.1 69 c = nI z → True := fun _ _ _ => trivial
          by_cases hms : s = -1
          · have hmT : zI s = -1 := by rw [hm1]; exact hms
            have hng : ¬ 0 ≤ s := by omega
            refine ⟨1, setI (setI (setI wC 71 a 0) 72 a (zI s)) 73 a (nI z), setI (setI (setI wM 22 a (-1)) 23 a (zI s)) 24 a (nI z), ?_, ?_, fin _ _ (((Fr.set (by simp)).tr (Fr.set (by simp))).tr (Fr.set (by simp))) (((Fr.set (by simp)).tr (Fr.set (by simp))).tr (Fr.set (by simp))) (Or.inl ⟨by simp [setI1], by simp [setI1]⟩)⟩
            · simp only [fX11_shelf, isPlace_ev, hr, bd_some', h10, if_false, if_true, hw, fX7_holdRow, hg2, ht2, c1, if_pos hmT, hg, ht, lw_eq, setI1, Nat.reduceEqDiff, false_and, c2]
            · simp only [fX12_shelf, isShelf_ev, hr, bd_some', h10, if_false, fX12_isHeld, if_true, hw, hb, gd_true, n12, hg2, ht2, m1, hge, hng, bX12_shelf_42, bX12_shelf_47, hg, ht, lw_eq, setI1, Nat.reduceEqDiff, false_and, m2]
          · have hmF : ¬ zI s = -1 := by rw [hm1]; exact hms
            have hyes : 0 ≤ s := by omega
            refine ⟨1, setI (setI (setI wC 71 a 2) 72 a (zI s)) 73 a (nI z), setI (setI (setI wM 22 a 1) 23 a (zI s)) 24 a (nI z), ?_, ?_, fin _ _ (((Fr.set (by simp)).tr (Fr.set (by simp))).tr (Fr.set (by simp))) (((Fr.set (by simp)).tr (Fr.set (by simp))).tr (Fr.set (by simp))) (Or.inr (Or.inr ⟨by simp [setI1], by simp [setI1], by simp [setI1], by simp [setI1], s.toNat, by omega, by simp [setI1]; rw [zI_nI, Int.toNat_of_nonneg hyes]⟩))⟩
            · simp only [fX11_shelf, isPlace_ev, hr, bd_some', h10, if_false, if_true, hw, fX7_holdRow, hg2, ht2, c1, hmF, hg, ht, lw_eq, setI1, Nat.reduceEqDiff, false_and, c2]
            · simp only [fX12_shelf, isShelf_ev, hr, bd_some', h10, if_false, fX12_isHeld, if_true, hw, hb, gd_true, n12, hg2, ht2, m1, hge, hyes, bX12_shelf_46, bX12_shelf_47, hg, ht, lw_eq, setI1, Nat.reduceEqDiff, false_and, m2]
      · by_cases q2 : a1 = 2
        · subst q2
          have n20 : ¬ (2 : Int32) = 0 := by decide
          have n21 : ¬ (2 : Int32) = 1 := by decide
          refine ⟨1, setI wC 71 a 0, setI (setI (setI wM 22 a (-1)) 23 a a2) 24 a 0, ?_, ?_, fin _ _ (Fr.set (by simp)) (((Fr.set (by simp)).tr (Fr.set (by simp))).tr (Fr.set (by simp))) (Or.inl ⟨by simp [setI1], by simp [setI1]⟩)⟩
          · simp only [fX11_shelf, isPlace_ev, hr, bd_some', h10, if_false, if_true, n20, n21, fX7_holdNothing, hg, ht, lw_eq]
          · simp only [fX12_shelf, isShelf_ev, hr, bd_some', h10, if_false, fX12_isHeld, if_true, n20, n21, bX12_shelf_42, bX12_shelf_47, hg, ht, lw_eq]
        · exact ⟨-1, wC, wM, by simp only [fX11_shelf, isPlace_ev, hr, bd_some', h10, if_false, q0, q1, q2], by simp only [fX12_shelf, isShelf_ev, hr, bd_some', h10, if_false, fX12_isHeld, q0, q1, q2, if_true], h⟩
theorem under_eq : ∀ k, k < 6 → ∀ s, s < 6 → (fX11_isUnder (nI k) (nI s) = fun (_ : AW) => fX11_isUnder (nI k) (nI s) (fun _ _ => 0, fun _ _ => 0)) ∧ (fX12_isUnder (nI k) (nI s) = fun (_ : AW) => fX11_isUnder (nI k) (nI s) (fun _ _ => 0, fun _ _ => 0)) := by
  intro k hk s hs
  have hk' : k = 0 ∨ k = 1 ∨ k = 2 ∨ k = 3 ∨ k = 4 ∨ k = 5 := by omega
  have hs' : s = 0 ∨ s = 1 ∨ s = 2 ∨ s = 3 ∨ s = 4 ∨ s = 5 := by omega
  rcases hk' with rfl | rfl | rfl | rfl | rfl | rfl <;> rcases hs' with rfl | rfl | rfl | rfl | rfl | rfl <;> exact ⟨rfl, rfl⟩
theorem under_some (k s : Nat) : ∃ r, fX11_isUnder (nI k) (nI s) (fun _ _ => 0, fun _ _ => 0) = some r := by
  unfold fX11_isUnder
  repeat' split
  all_goals exact ⟨_, rfl⟩
theorem its0_ev {n : Nat} {J : Nat → Nat → Nat} {w : AW} (h : MJs n J w) {j : Nat} (hj : j < n) (hn : n ≤ 6) : fX12_its (nI j) 0 w = some (nI (J 0 j)) := its_ev (i := 0) h hj (by omega) (by omega)
theorem st_taken {wC wM : AW} (h : Rel wC wM) (a0 a1 : Int32) : ∃ r, fX11_taken a0 a1 wC = some r ∧ fX12_taken a0 a1 wM = some r := by
  have h10 : ¬ (1 : Int32) = 0 := by decide
  have h01 : ¬ (0 : Int32) = 1 := by decide
  obtain ⟨r1, r2, r3⟩ := h.2.2.2.2.2.1
  obtain ⟨n, J, L, lost, nig, day, col, left, till, p, ok, hc, hm⟩ := h.1
  obtain ⟨hn, bj, -⟩ := ok
  rcases wI_01 a0 0 3 with hr | hr
  · exact ⟨-1, by simp only [fX11_taken, within_ev, isPlace_ev, hr, bd_some', if_true], by simp only [fX12_taken, isShelf_ev, hr, bd_some', if_true]⟩
  · obtain ⟨a, -, ha, rfl⟩ := wI_nat (lo := 0) (hi := 3) hr (by omega) (by omega)
    have hg : ∀ {β : Type} {k : Option β}, gd (inb (nI a) 4) k = k := fun {β k} => gd_n (by omega) (by omega)
    have ht : (nI a).toNatClampNeg = a := ntn (by omega)
    have hs := r3 a (by omega)
    have body : ∀ asR : Int32, (∃ s : Nat, a1 = nI s ∧ ((asR = 0 ∧ s ≤ 5) ∨ (asR = 1 ∧ 10 ≤ s ∧ s ≤ 13))) → ∃ r, bX11_taken_31 (nI a) a1 asR wC = some r ∧ bX12_taken_29 (nI a) a1 wM = some r := by
      rintro asR ⟨s, rfl, hsr⟩
      rcases hs with ⟨s1, s2⟩ | ⟨s1, s2, s3⟩ | ⟨s1, s2, s3, s4, t, s5, s6⟩
      · -- nothing
        have e1 := has_wI (o := 2) (w := wC) (-9) hc.1.1 (by omega)
        have hw : wI (-9) 0 (nI n - 1) = 0 := by unfold wI; rw [if_pos (by decide)]
        have n02 : ¬ (0 : Int32) = 2 := by decide
        have nm10 : ¬ (-1 : Int32) = 0 := by decide
        have nm1 : ¬ (0 : Int32) ≤ -1 := by decide
        exact ⟨-11, by simp only [bX11_taken_31, fX7_jobOn, fX7_holdsRow, hg, ht, s1, h01, n02, if_false, bd_some', e1, hw, if_true], by simp only [bX12_taken_29, fX12_kindOn, hg, ht, s2, nm10, nm1, if_false, bd_some']⟩
      · -- a job
        have e1 := has_wI (o := 2) (w := wC) (wC.1 73 a) hc.1.1 (by omega)
        have e2 := isJob_wI (w := wM) (wM.1 23 a) hm.2.2.2.1
        rw [← s3] at e2
        have n12 : ¬ (1 : Int32) = 2 := by decide
        have nm1 : ¬ (0 : Int32) ≤ -1 := by decide
        rcases wI_01 (wC.1 73 a) 0 (nI n - 1) with hw | hw
        · exact ⟨-11, by simp only [bX11_taken_31, fX7_jobOn, fX7_holdsRow, hg, ht, s1, n12, if_false, bd_some', e1, hw, if_true], by simp only [bX12_taken_29, fX12_kindOn, hg, ht, s2, ← s3, e2, hw, nm1, if_true, if_false, bd_some']⟩
        · obtain ⟨j, hj, hj2⟩ := wI_neg (by omega) hw
          rw [hj2] at e1 e2 hw s3
          have hkj := (bj j hj).1
          have e3 : wC.1 3 j = nI (J 0 j) := (hc.1.2 j hj).1
          have e4 := its0_ev hm.1 hj hn
          have n0k : (0 : Int32) ≤ nI (J 0 j) := by rw [n0, nle (by omega) (by omega)]; omega
          have n9k : ¬ nI (J 0 j) = 9 := by rw [n9, neq (by omega) (by omega)]; omega
          have hg6 : ∀ {β : Type} {k : Option β}, gd (inb (nI j) 6) k = k := fun {β k} => gd_n (by omega) (by omega)
          have htj : (nI j).toNatClampNeg = j := ntn (by omega)
          rcases hsr with ⟨rfl, hs5⟩ | ⟨rfl, hs10, hs13⟩
          · have n10s : ¬ (10 : Int32) ≤ nI s := by rw [n10, nle (by omega) (by omega)]; omega
            obtain ⟨u1, u2⟩ := under_eq (J 0 j) (by omega) s (by omega)
            obtain ⟨r, hu⟩ := under_some (J 0 j) s
            refine ⟨if r = 0 then -13 else nI j, ?_, ?_⟩
            · simp only [bX11_taken_31, fX7_jobOn, fX7_holdsRow, hg, ht, s1, n12, if_false, bd_some', if_true, hj2, e1, hw, h10, hg6, htj, e3, u1, hu]
              split <;> rfl
            · simp only [bX12_taken_29, fX12_kindOn, hg, ht, s2, ← s3, e2, hw, h10, if_true, if_false, bd_some', e4, n0k, n9k, n10s, u2, hu]
              split <;> rfl
          · have n10s : (10 : Int32) ≤ nI s := by rw [n10, nle (by omega) (by omega)]; omega
            exact ⟨-13, by simp only [bX11_taken_31, fX7_jobOn, fX7_holdsRow, hg, ht, s1, n12, if_false, bd_some', if_true, hj2, e1, hw, h10], by simp only [bX12_taken_29, fX12_kindOn, hg, ht, s2, ← s3, e2, hw, h10, if_true, if_false, bd_some', e4, n0k, n9k, n10s]⟩
      · -- a row
        have n21 : ¬ (2 : Int32) = 1 := by decide
        have n09 : (0 : Int32) ≤ 9 := by decide
        have n01' : (0 : Int32) ≤ 1 := by decide
        have h10a : 10 + nI t = nI (10 + t) := by rw [n10, nadd]
        rcases hsr with ⟨rfl, hs5⟩ | ⟨rfl, hs10, hs13⟩
        · have hne : ¬ nI s = nI (10 + t) := by rw [neq (by omega) (by omega)]; omega
          exact ⟨-13, by simp only [bX11_taken_31, fX7_jobOn, fX7_holdsRow, hg, ht, s1, n21, if_false, bd_some', if_true, h10], by simp only [bX12_taken_29, fX12_kindOn, hg, ht, s2, s6, h10, n01', n09, if_true, if_false, bd_some', h10a, hne]⟩
        · have hsub : nI s - 10 = nI (s - 10) := by rw [n10, nsub hs10]
          by_cases hq : s = 10 + t
          · have e5 : nI t = nI (s - 10) := by congr 1; omega
            have e6 : nI s = nI (10 + t) := by rw [hq]
            refine ⟨wC.1 73 a, ?_, ?_⟩
            · simp only [bX11_taken_31, fX7_jobOn, fX7_holdsRow, hg, ht, s1, n21, if_false, bd_some', if_true, h10, s3, s6, hsub]
              rw [if_pos e5]
            · simp only [bX12_taken_29, fX12_kindOn, hg, ht, s2, s6, h10, n01', n09, if_true, if_false, bd_some', h10a]
              rw [if_pos e6, s4]
          · have e5 : ¬ nI t = nI (s - 10) := by rw [neq (by omega) (by omega)]; omega
            have e6 : ¬ nI s = nI (10 + t) := by rw [neq (by omega) (by omega)]; exact hq
            refine ⟨-13, ?_, ?_⟩
            · simp only [bX11_taken_31, fX7_jobOn, fX7_holdsRow, hg, ht, s1, n21, if_false, bd_some', if_true, h10, s3, s6, hsub]
              rw [if_neg e5]
            · simp only [bX12_taken_29, fX12_kindOn, hg, ht, s2, s6, h10, n01', n09, if_true, if_false, bd_some', h10a]
              rw [if_neg e6]
    rcases wI_01 a1 10 13 with h13 | h13
    · rcases wI_01 a1 0 5 with h5 | h5
      · exact ⟨-1, by simp only [fX11_taken, within_ev, isPlace_ev, hr, bd_some', h10, if_false, h13, h5, if_true], by simp only [fX12_taken, isShelf_ev, in_ev, hr, bd_some', h10, if_false, h13, h5, if_true]⟩
      · obtain ⟨s, -, hs5, hs0⟩ := wI_nat (lo := 0) (hi := 5) h5 (by omega) (by omega)
        obtain ⟨r, b1, b2⟩ := body 0 ⟨s, hs0, Or.inl ⟨rfl, hs5⟩⟩
        exact ⟨r, by simp only [fX11_taken, within_ev, isPlace_ev, hr, bd_some', h10, if_false, h13, h5, if_true, b1], by simp only [fX12_taken, isShelf_ev, in_ev, hr, bd_some', h10, if_false, h5, b2]⟩
    · obtain ⟨s, hs10, hs13, hs0⟩ := wI_nat (lo := 10) (hi := 13) h13 (by omega) (by omega)
      obtain ⟨r, b1, b2⟩ := body 1 ⟨s, hs0, Or.inr ⟨rfl, hs10, hs13⟩⟩
      have h5 : wI a1 0 5 = 0 := by
        rw [hs0]
        unfold wI
        rw [if_neg (by rw [n0, nlt (by omega) (by omega)]; omega), if_pos (by rw [n5, nlt (by omega) (by omega)]; omega)]
      exact ⟨r, by simp only [fX11_taken, within_ev, isPlace_ev, hr, bd_some', h10, if_false, h13, b1], by simp only [fX12_taken, isShelf_ev, in_ev, hr, bd_some', h10, if_false, h13, h5, if_true, b2]⟩
