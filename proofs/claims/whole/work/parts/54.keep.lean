/-! 54: keep, again -/
theorem st_keep {wC wM : AW} (h : Rel wC wM) : ∃ r wC' wM', fX11_keep N0 wC = some (r, wC') ∧ fX12_keep N0 wM = some (r, wM') ∧ Rel wC' wM' := by
  have hN := N0_big
  obtain ⟨h1, h2, h3, h4, h5, h6, h7, h8⟩ := id h
  obtain ⟨n, J, L, lost, nig, day, col, left, till, p, ok, hc, hm⟩ := id h1
  obtain ⟨k, T, z, okt, tc, tm⟩ := id h2
  obtain ⟨hpl, -⟩ := perm_facts ok.2.2.2
  have hn := ok.1
  obtain ⟨w1, a1, a2, a3⟩ := bcopy_ev (b := 12) (N := N0) hc (Or.inl ⟨rfl, rfl⟩) hn (by omega) (by omega)
  have tc1 : CTy 23 k T z w1 := tc.fr a2 (fun i hi k => by simp; omega)
  obtain ⟨w2, b1, b2, b3⟩ := tcopy_ev (t := 30) (N := N0) tc1 (Or.inl ⟨rfl, rfl⟩) okt.1 (by omega)
  have a3' : CBd 12 n J L lost nig day col left till p w2 := a3.fr b2 (fun i hi k => by simp; omega)
  obtain ⟨v1, m1, m2, s0, s1, s2, s3, s4, s5, s6, r1, r2, r3, r4, r5, r6⟩ := keepM_ev (N := N0) (w := wM) (by omega)
  have fC : Fr (fun o k => (decide (12 ≤ o) && decide (o ≤ 22)) || (decide (30 ≤ o) && decide (o ≤ 36)) || (o == 0 && k == 4)) wC (setI w2 0 4 1) := (a2.wd (fun o k q => by simp at q ⊢; omega)).tr ((b2.wd (fun o k q => by simp at q ⊢; omega)).tr (Fr.set (by simp)))
  have fM : Fr (fun o k => o == 26 || o == 27 || (o == 0 && (k == 52 || k == 50))) wM (setI v1 0 50 1) := (m2.wd (fun o k q => by simp at q ⊢; omega)).tr (Fr.set (by simp))
  have f4 : Fr (fun o k => o == 0 && k == 4) w2 (setI w2 0 4 1) := Fr.set (by simp)
  have f50 : Fr (fun o k => o == 0 && k == 50) v1 (setI v1 0 50 1) := Fr.set (by simp)
  have e26 : ∀ k, (setI v1 0 50 1).1 26 k = v1.1 26 k := fun k => f50.at' _ rfl
  refine ⟨1, setI w2 0 4 1, setI v1 0 50 1, by simp only [fX11_keep, a1, b1, bd_some', lw_eq], by simp only [fX12_keep, m1, bd_some', lw_eq], h1.fr fC fM (fun o k a b => by simp; omega) (fun o k q => ?_), h2.fr fC fM (fun o k a b => by simp; omega) (fun k => rfl) rfl rfl, Or.inr ⟨by simp [setI1], by simp [setI1], ⟨n, J, L, lost, nig, day, col, left, till, p, ok, a3'.fr f4 (fun i hi k => by simp), ?_⟩, k, T, z, okt, b3.fr f4 (fun i hi k => by simp), ?_⟩, h4.fr fC fM rfl (fun k => rfl) rfl (fun k => rfl), h5.fr fC fM rfl (fun k => rfl) rfl (fun k => rfl), h6.fr fC fM (fun o k a b => by simp; omega) (fun o k a b => by simp; omega), h7.fr fC fM rfl (fun k => rfl) rfl (fun k => rfl), h8.fr fM (fun k => rfl) (fun k => rfl)⟩
  · simp only [mB, Bool.or_eq_true, Bool.and_eq_true, beq_iff_eq] at q
    simp; omega
  · obtain ⟨q1, ⟨q2, q3, q4, q5, q6, q7⟩, q8, q9, q10⟩ := hm
    refine ⟨fun j hj i hi => ?_, fun i hi => ?_, fun i hi => ?_, fun i hi => ?_, fun i v hv => ?_, ?_, ?_, ?_, ?_, ?_⟩
    · rw [e26, r1 _ (by omega)]; exact q1 j hj i hi
    · rw [e26, r2 _ hi]; exact q2 i hi
    · rw [e26, r3 _ (by omega)]; exact q3 i hi
    · rw [e26, r4 _ (by omega)]; exact q4 i hi
    · have hi : i < p.length := by rw [List.getElem?_eq_some_iff] at hv; exact hv.1
      rw [e26, r5 _ (by omega)]; exact q8 i v hv
    · rw [e26, s0]; exact q9
    · rw [e26, s1]; exact q5
    · rw [e26, s2]; exact q6
    · rw [e26, s3]; exact q7
    · rw [e26, s4]; exact q10
  · obtain ⟨t1, t2, t3⟩ := tm
    have hk := okt.1
    refine ⟨?_, ?_, fun j hj i hi => ?_⟩
    · rw [e26, s5]; exact t1
    · rw [e26, s6]; exact t2
    · rw [e26, r6 _ (by omega)]; exact t3 j hj i hi
theorem st_again {wC wM : AW} (h : Rel wC wM) : ∃ r wC' wM', fX11_again N0 wC = some (r, wC') ∧ fX12_again N0 wM = some (r, wM') ∧ Rel wC' wM' := by
  have hN := N0_big
  obtain ⟨h1, h2, h3, h4, h5, h6, h7, h8⟩ := id h
  rcases id h3 with ⟨k1, k2⟩ | ⟨k1, k2, ⟨n, J, L, lost, nig, day, col, left, till, p, ok, hc, hm⟩, k, T, z, okt, tc, tm⟩
  · exact ⟨-3, wC, wM, by simp only [fX11_again, k1, if_true], by simp only [fX12_again, k2, if_true], h⟩
  · obtain ⟨hpl, -⟩ := perm_facts ok.2.2.2
    have hn := ok.1
    have h10 : ¬ (1 : Int32) = 0 := by decide
    obtain ⟨w1, a1, a2, a3⟩ := bcopy_ev (b := 1) (N := N0) hc (Or.inr ⟨rfl, rfl⟩) hn (by omega) (by omega)
    have tc1 : CTy 30 k T z w1 := tc.fr a2 (fun i hi k => by simp; omega)
    obtain ⟨w2, b1, b2, b3⟩ := tcopy_ev (t := 23) (N := N0) tc1 (Or.inr ⟨rfl, rfl⟩) okt.1 (by omega)
    have a3' : CBd 1 n J L lost nig day col left till p w2 := a3.fr b2 (fun i hi k => by simp; omega)
    obtain ⟨v1, m1, m2, s27, r1, r2, r3, r4, r5, r6⟩ := againM_ev (N := N0) (w := wM) (by omega)
    obtain ⟨q1, q2, q3, q4, q5, q6, q7, q8, q9, q10⟩ := hm
    obtain ⟨t1, t2, t3⟩ := tm
    have hk := okt.1
    generalize hv2 : setI (setI (setI (setI (setI (setI (setI v1 0 0 (nI n)) 0 5 (nI day)) 0 6 (nI col)) 0 7 (nI left)) 0 8 till) 0 12 (nI k)) 0 14 z = v2
    have f2 : Fr (fun o k => o == 0 && (k == 0 || k == 5 || k == 6 || k == 7 || k == 8 || k == 12 || k == 14)) v1 v2 := by
      subst hv2
      exact ((((((Fr.set (by simp)).tr (Fr.set (by simp))).tr (Fr.set (by simp))).tr (Fr.set (by simp))).tr (Fr.set (by simp))).tr (Fr.set (by simp))).tr (Fr.set (by simp))
    have fC : Fr (fun o k => (decide (1 ≤ o) && decide (o ≤ 11)) || (decide (23 ≤ o) && decide (o ≤ 29))) wC w2 := (a2.wd (fun o k q => by simp at q ⊢; omega)).tr (b2.wd (fun o k q => by simp at q ⊢; omega))
    have fM : Fr (fun o k => o == 1 || o == 2 || o == 5 || o == 6 || o == 7 || o == 8 || o == 27 || (o == 0 && (k == 0 || k == 5 || k == 6 || k == 7 || k == 8 || k == 12 || k == 14 || k == 52))) wM v2 := (m2.wd (fun o k q => by simp at q ⊢; omega)).tr (f2.wd (fun o k q => by simp at q ⊢; omega))
    have eo : ∀ o k, o ≠ 0 → v2.1 o k = v1.1 o k := fun o k ho => f2.at' _ (by simp [ho])
    have hR : Rel w2 v2 := by
      refine ⟨⟨n, J, L, lost, nig, day, col, left, till, p, ok, a3', ⟨fun j hj i hi => ?_, ⟨fun i hi => ?_, fun i hi => ?_, fun i hi => ?_, ?_, ?_, ?_⟩, fun i v hv => ?_, ?_, ?_⟩⟩, ⟨k, T, z, okt, b3, ?_, ?_, fun j hj i hi => ?_⟩, h3.fr fC fM rfl (fun o k a b => by simp; omega) (fun o k a b => by simp; omega) rfl (fun k => rfl), h4.fr fC fM rfl (fun k => rfl) rfl (fun k => rfl), h5.fr fC fM rfl (fun k => rfl) rfl (fun k => rfl), h6.fr fC fM (fun o k a b => by simp; omega) (fun o k a b => by simp; omega), h7.fr fC fM rfl (fun k => rfl) rfl (fun k => rfl), h8.fr fM (fun k => rfl) (fun k => rfl)⟩
      · rw [eo _ _ (by omega), r1 _ (by omega)]; exact q1 j hj i hi
      · rw [eo _ _ (by omega), r2 _ hi]; exact q2 i hi
      · rw [eo _ _ (by omega), r3 _ (by omega)]; exact q3 i hi
      · rw [eo _ _ (by omega), r4 _ (by omega)]; exact q4 i hi
      · subst hv2; simp [setI1]
      · subst hv2; simp [setI1]
      · subst hv2; simp [setI1]
      · have hi : i < p.length := by rw [List.getElem?_eq_some_iff] at hv; exact hv.1
        rw [eo _ _ (by omega), r5 _ (by omega)]; exact q5 i v hv
      · subst hv2; simp [setI1]
      · subst hv2; simp [setI1]
      · subst hv2; simp [setI1]
      · subst hv2; simp [setI1]
      · rw [eo _ _ (by omega), r6 _ (by omega)]; exact t3 j hj i hi
    refine ⟨nI n, w2, v2, ?_, ?_, hR⟩
    · have hcn : w2.1 2 0 = nI n := a3'.1.1
      simp only [fX11_again, k1, h10, if_false, a1, b1, bd_some', hcn]
    · have z0 : (0 : Int32).toNatClampNeg = 0 := rfl
      have z1 : (1 : Int32).toNatClampNeg = 1 := rfl
      have z2 : (2 : Int32).toNatClampNeg = 2 := rfl
      have z3 : (3 : Int32).toNatClampNeg = 3 := rfl
      have z4 : (4 : Int32).toNatClampNeg = 4 := rfl
      have z5 : (5 : Int32).toNatClampNeg = 5 := rfl
      have z6 : (6 : Int32).toNatClampNeg = 6 := rfl
      have g0 : v1.1 27 0 = nI n := by rw [s27 0 (by omega)]; exact q6
      have g1 : v1.1 27 1 = nI day := by rw [s27 1 (by omega)]; exact q7
      have g2 : v1.1 27 2 = nI col := by rw [s27 2 (by omega)]; exact q8
      have g3 : v1.1 27 3 = nI left := by rw [s27 3 (by omega)]; exact q9
      have g4 : v1.1 27 4 = till := by rw [s27 4 (by omega)]; exact q10
      have g5 : v1.1 27 5 = nI k := by rw [s27 5 (by omega)]; exact t1
      have g6 : v1.1 27 6 = z := by rw [s27 6 (by omega)]; exact t2
      have gn : v2.1 0 0 = nI n := by subst hv2; simp [setI1]
      simp only [fX12_again, k2, h10, if_false, m1, bd_some', lw_eq, z0, z1, z2, z3, z4, z5, z6, setI1, show ¬ (27 = 0) by omega, false_and, g0, g1, g2, g3, g4, g5, g6, Nat.reduceEqDiff, and_false, true_and]
      rw [hv2]
      simp
