/-! 66: a row of a text, whole -/
def LwL (i : Nat) : Nat := if i = 0 then 1 else 0
def LwH (i : Nat) : Nat := if i = 0 then 4 else if i = 1 then 3 else if i = 2 then 99 else 4
section
variable {c : Nat} {Y : Nat → Nat} {N : Nat} {s p e : Nat} {wC wM : AW}
theorem job_39 {m : Nat} {F : Nat → Nat → Nat} (h : LTk Y c s p e wC wM) (hY : ∀ i, Y i < 256) (hc : c ≤ 200) (hN : 300 < N) (hj : JSt m F wC wM) (hm : m < 6) {k : Nat} (hk : k ≤ 5) :
    Out Y c e (fun wC' wM' => ∃ F', JSt (m + 1) F' wC' wM') wC wM (bX8_readJob_39 N (nI k) wC) (bX12_wantJob_37 N (nI k) wM) := by
  rcases pass_num h hY hc hN (lo := 1) (hi := 9) (by omega) (by omega) with ⟨r, c1, m1, r1, r9, a1, a1v, b1, f1, g1, s1, p1, e1, h1, l1⟩ | ⟨a1, r, b1⟩
  · have j1 := hj.fr f1 g1
    have a1' : fX8_passNumber N 1 9 wC = some (1, c1) := a1
    have b1' : fX12_wantNumber N 1 9 wM = some (nI r, m1) := b1
    refine Out.of (f1.wd (fun o k q => TCf_TCj q)) (g1.wd (fun o k q => TMf_TMj q)) (show e ≤ e1 by have := h1.le; omega) ?_
    obtain ⟨t1, t2, t3, t4, t5, e0, ht⟩ := id h1
    have ea := isNamed_ev (N := N) (i := 9) t1 t3 ht hY hc (by omega) (by omega)
    have eb := isWord_nm (i := 9) (h := 1299899) t4 ht hY (by omega) (by decide)
    have gn := good_ne t5
    by_cases hq : s1 = 1 ∧ tokL Y p1 (e1 - p1) = nmN.getD 9 []
    · rw [if_pos hq] at ea eb
      obtain ⟨s2, p2, e2, c2, m2, a2, b2, f2, g2, h2, l2⟩ := adv_pair h1 hY hc hN
      have F2 := f2.wd (T' := TCf) (fun o k q => T456_TCf q)
      have G2 := g2.wd (T' := TMf) (fun o k q => TMa_TMf q)
      have j2 := j1.fr F2 G2
      have key := job_70 h2 hY hc hN j2 hm hk r1 r9 (q := 1) (by omega)
      have := Out.of (F2.wd (fun o k q => TCf_TCj q)) (G2.wd (fun o k q => TMf_TMj q)) (show e1 ≤ e2 by have := h2.le; omega) key
      have x1 : bX8_readJob_39 N (nI k) wC = bX8_readJob_70 N (nI k) (nI r) (nI 1) c2 := by
        simp only [bX8_readJob_39, a1', bd2_some', on0, if_false, fX8_passName, ea, bd_some', a2, a1v]; rfl
      have x2 : bX12_wantJob_37 N (nI k) wM = bX12_wantJob_76 N (nI k) (nI r) (nI 1) m2 := by
        simp only [bX12_wantJob_37, b1', bd2_some', gn, if_false, eb, bd_some', on0, bX12_wantJob_67, b2]; rfl
      rw [x1, x2]; exact this
    · rw [if_neg hq] at ea eb
      have key := job_70 h1 hY hc hN j1 hm hk r1 r9 (q := 0) (by omega)
      have x1 : bX8_readJob_39 N (nI k) wC = bX8_readJob_70 N (nI k) (nI r) (nI 0) c1 := by
        simp only [bX8_readJob_39, a1', bd2_some', on0, if_false, fX8_passName, ea, bd_some', if_true, a1v]; rfl
      have x2 : bX12_wantJob_37 N (nI k) wM = bX12_wantJob_76 N (nI k) (nI r) (nI 0) m1 := by
        simp only [bX12_wantJob_37, b1', bd2_some', gn, if_false, eb, bd_some', if_true, bX12_wantJob_66, bX12_wantJob_67]; rfl
      rw [x1, x2]; exact key
  · have a1' : fX8_passNumber N 1 9 wC = some (0, wC) := a1
    have b1' : fX12_wantNumber N 1 9 wM = some (r, setI wM 0 22 0) := b1
    refine Out.no h ?_ ?_
    · simp only [bX8_readJob_39, a1', bd2_some', if_true]
    · simp only [bX12_wantJob_37, b1', bd2_some', dead_0, if_true, bX12_wantJob_66, bX12_wantJob_67, dead_76 dead_0]
theorem nm_pair (h : LTk Y c s p e wC wM) (hY : ∀ i, Y i < 256) (hc : c ≤ 200) (hN : 300 < N) {i : Nat} (k : Int64) (hi : i < 12) (hk : k = Int64.ofNat (hsh (nmN.getD i []))) :
    ∃ r : Int32, fX8_isNamed N i wC = some r ∧ fX12_isWord k wM = some r ∧ (r = 0 ∨ (r = 1 ∧ s = 1 ∧ tokL Y p (e - p) = nmN.getD i [])) := by
  obtain ⟨h1, h2, h3, h4, h5, e0, ht⟩ := id h
  refine ⟨_, isNamed_ev (N := N) h1 h3 ht hY hc hi (by omega), isWord_nm h4 ht hY hi hk, ?_⟩
  split
  · rename_i q; exact Or.inr ⟨rfl, q.1, q.2⟩
  · exact Or.inl rfl
theorem kind_pair (h : LTk Y c s p e wC wM) (hY : ∀ i, Y i < 256) (hc : c ≤ 200) (hN : 300 < N) :
    ∃ r : Int32, fX8_kindNamed N wC = some r ∧ fX12_kindHere wM = some r ∧ (r = -1 ∨ (s = 1 ∧ ∃ k, k ≤ 5 ∧ r = nI k)) := by
  obtain ⟨r0, a0, b0, d0⟩ := nm_pair h hY hc hN (i := 3) 7697 (by omega) (by decide)
  obtain ⟨r1, a1, b1, d1⟩ := nm_pair h hY hc hN (i := 4) 8984627224 (by omega) (by decide)
  obtain ⟨r2, a2, b2, d2⟩ := nm_pair h hY hc hN (i := 5) 237942837 (by omega) (by decide)
  obtain ⟨r3, a3, b3, d3⟩ := nm_pair h hY hc hN (i := 6) 291828332 (by omega) (by decide)
  obtain ⟨r4, a4, b4, d4⟩ := nm_pair h hY hc hN (i := 7) 311034809 (by omega) (by decide)
  obtain ⟨r5, a5, b5, d5⟩ := nm_pair h hY hc hN (i := 8) 158523 (by omega) (by decide)
  simp only [fX8_kindNamed, fX12_kindHere, a0, a1, a2, a3, a4, a5, b0, b1, b2, b3, b4, b5, bd_some']
  rcases d0 with rfl | ⟨rfl, q, _⟩
  · rcases d1 with rfl | ⟨rfl, q, _⟩
    · rcases d2 with rfl | ⟨rfl, q, _⟩
      · rcases d3 with rfl | ⟨rfl, q, _⟩
        · rcases d4 with rfl | ⟨rfl, q, _⟩
          · rcases d5 with rfl | ⟨rfl, q, _⟩
            · exact ⟨-1, rfl, rfl, Or.inl rfl⟩
            · exact ⟨5, rfl, rfl, Or.inr ⟨q, 5, by omega, rfl⟩⟩
          · exact ⟨4, rfl, rfl, Or.inr ⟨q, 4, by omega, rfl⟩⟩
        · exact ⟨3, rfl, rfl, Or.inr ⟨q, 3, by omega, rfl⟩⟩
      · exact ⟨2, rfl, rfl, Or.inr ⟨q, 2, by omega, rfl⟩⟩
    · exact ⟨1, rfl, rfl, Or.inr ⟨q, 1, by omega, rfl⟩⟩
  · exact ⟨0, rfl, rfl, Or.inr ⟨q, 0, by omega, rfl⟩⟩
theorem law_pair (h : LTk Y c s p e wC wM) (hY : ∀ i, Y i < 256) (hc : c ≤ 200) (hN : 300 < N) :
    ∃ r : Int32, fX8_lawNamed N wC = some r ∧ fX12_lawHere wM = some r ∧ ((r = -1) ∨ (s = 1 ∧ (∃ k, k < 3 ∧ r = nI k) ∧ fX12_kindHere wM = some (-1))) := by
  obtain ⟨r0, a0, b0, d0⟩ := nm_pair h hY hc hN (i := 0) 10345069 (by omega) (by decide)
  obtain ⟨r1, a1, b1, d1⟩ := nm_pair h hY hc hN (i := 1) 7443763252 (by omega) (by decide)
  obtain ⟨r2, a2, b2, d2⟩ := nm_pair h hY hc hN (i := 2) 125042 (by omega) (by decide)
  obtain ⟨k0, x0, y0, z0⟩ := nm_pair h hY hc hN (i := 3) 7697 (by omega) (by decide)
  obtain ⟨k1, x1, y1, z1⟩ := nm_pair h hY hc hN (i := 4) 8984627224 (by omega) (by decide)
  obtain ⟨k2, x2, y2, z2⟩ := nm_pair h hY hc hN (i := 5) 237942837 (by omega) (by decide)
  obtain ⟨k3, x3, y3, z3⟩ := nm_pair h hY hc hN (i := 6) 291828332 (by omega) (by decide)
  obtain ⟨k4, x4, y4, z4⟩ := nm_pair h hY hc hN (i := 7) 311034809 (by omega) (by decide)
  obtain ⟨k5, x5, y5, z5⟩ := nm_pair h hY hc hN (i := 8) 158523 (by omega) (by decide)
  have ne0 : ∀ i, i < 3 → ∀ j, j < 9 → 3 ≤ j → nmN.getD i [] = nmN.getD j [] → False := by decide
  have ne : ∀ i j : Nat, i < 3 → 3 ≤ j → j < 9 → nmN.getD i [] = nmN.getD j [] → False := fun i j a b d q => ne0 i a j d b q
  have none : ∀ i, i < 3 → tokL Y p (e - p) = nmN.getD i [] → fX12_kindHere wM = some (-1) := by
    intro i hi hq
    have w : ∀ {j : Nat} {r : Int32}, 3 ≤ j → j < 9 → (r = 0 ∨ (r = 1 ∧ s = 1 ∧ tokL Y p (e - p) = nmN.getD j [])) → r = 0 := by
      intro j r h3 h9 d
      rcases d with d | ⟨_, _, d⟩
      · exact d
      · exact (ne i j hi h3 h9 (hq.symm.trans d)).elim
    have g0 := w (by omega) (by omega) z0
    have g1 := w (by omega) (by omega) z1
    have g2 := w (by omega) (by omega) z2
    have g3 := w (by omega) (by omega) z3
    have g4 := w (by omega) (by omega) z4
    have g5 := w (by omega) (by omega) z5
    subst g0 g1 g2 g3 g4 g5
    simp only [fX12_kindHere, y0, y1, y2, y3, y4, y5, bd_some', if_true]
  have n12 : nmN.getD 1 [] = nmN.getD 2 [] → False := by decide
  simp only [fX8_lawNamed, fX12_lawHere, a0, a1, a2, b0, b1, b2, bd_some']
  rcases d0 with rfl | ⟨rfl, q, u⟩
  · rcases d1 with rfl | ⟨rfl, q, u⟩
    · rcases d2 with rfl | ⟨rfl, q, u⟩
      · exact ⟨-1, rfl, rfl, Or.inl rfl⟩
      · exact ⟨2, rfl, rfl, Or.inr ⟨q, ⟨2, by omega, rfl⟩, none 2 (by omega) u⟩⟩
    · have : r2 = 0 := by
        rcases d2 with d | ⟨_, _, d⟩
        · exact d
        · exact (n12 (u.symm.trans d)).elim
      subst this
      exact ⟨1, rfl, rfl, Or.inr ⟨q, ⟨1, by omega, rfl⟩, none 1 (by omega) u⟩⟩
  · exact ⟨0, rfl, rfl, Or.inr ⟨q, ⟨0, by omega, rfl⟩, none 0 (by omega) u⟩⟩
theorem law_ev {i : Nat} (hi : i < 3) (h : LTk Y c s p e wC wM) (hY : ∀ i, Y i < 256) (hc : c ≤ 200) (hN : 300 < N) (h3 : ∀ i, i < 4 → wM.1 3 i = leastS i ∧ wM.1 4 i = mostS i) :
    (∃ v wC' wM', LwL i ≤ v ∧ v ≤ LwH i ∧ fX8_readLaw N (nI i) wC = some (1, setI wC' 45 i (nI v)) ∧ fX12_wantLaw N (nI i) wM = some (setI wM' 11 i (nI v)) ∧ Fr TCf wC wC' ∧ Fm TMf wM wM' ∧ ∃ s' p' e', LTk Y c s' p' e' wC' wM' ∧ e ≤ p') ∨
    (∃ wC' wM', fX8_readLaw N (nI i) wC = some (0, wC') ∧ fX12_wantLaw N (nI i) wM = some wM' ∧ Fl c wC' wM' ∧ Fr TCf wC wC' ∧ Fm TMf wM wM') := by
  obtain ⟨s1, p1, e1, c1, m1, a1, b1, f1, g1, h1, l1⟩ := adv_pair h hY hc hN
  have F1 := f1.wd (T' := TCf) (fun o k q => T456_TCf q)
  have G1 := g1.wd (T' := TMf) (fun o k q => TMa_TMf q)
  have hl : leastS i = nI (LwL i) := by
    have : i = 0 ∨ i = 1 ∨ i = 2 := by omega
    rcases this with rfl | rfl | rfl <;> rfl
  have hh : mostS i = nI (LwH i) := by
    have : i = 0 ∨ i = 1 ∨ i = 2 := by omega
    rcases this with rfl | rfl | rfl <;> rfl
  have b3 : m1.1 3 i = nI (LwL i) := by rw [g1.at' _ rfl, (h3 i (by omega)).1, hl]
  have b4 : m1.1 4 i = nI (LwH i) := by rw [g1.at' _ rfl, (h3 i (by omega)).2, hh]
  have le1 : e1 ≥ e := by have := h1.le; omega
  have ngd : ∀ {β : Type} {k : Option β}, gd (inb (nI i) 4) k = k := fun {β k} => gd_n (by omega) (by omega)
  have nt : (nI i).toNatClampNeg = i := ntn (by omega)
  have q1 : LwL i ≤ 99 := by unfold LwL; split <;> omega
  have q2 : LwH i ≤ 99 := by
    unfold LwH
    repeat' split
    all_goals omega
  rcases pass_num h1 hY hc hN q1 q2 with ⟨v, c2, m2, v1, v2, a2, v3, b2, f2, g2, s2, p2, e2, h2, l2⟩ | ⟨a2, r2, b2⟩
  · have le2 := h2.le
    rcases pass_stop h2 hY hc hN with ⟨c3, m3, a3, b5, f3, g3, s3, p3, e3, h3', l3⟩ | ⟨a3, b5⟩
    · refine Or.inl ⟨v, c3, m3, v1, v2, ?_, ?_, F1.tr (f2.tr f3), G1.tr (g2.tr g3), s3, p3, e3, h3', by omega⟩
      · simp only [fX8_readLaw, a1, bd_some', ngd, nt, hl, hh, a2, bd2_some', on0, if_false, a3, v3, lw_eq]
      · simp only [fX12_wantLaw, b1, bd_some', ngd, nt, b3, b4, b2, bd2_some', b5, good_ne h3'.2.2.2.2.1, if_false, lw_eq]
    · refine Or.inr ⟨c2, setI m2 0 22 0, ?_, ?_, h2.fl, F1.tr f2, G1.tr (g2.tr F22)⟩
      · simp only [fX8_readLaw, a1, bd_some', ngd, nt, hl, hh, a2, bd2_some', on0, if_false, a3, if_true]
      · simp only [fX12_wantLaw, b1, bd_some', ngd, nt, b3, b4, b2, bd2_some', b5, dead_0, if_true, lw_eq, setI_same rfl]
  · refine Or.inr ⟨c1, setI m1 0 22 0, ?_, ?_, h1.fl, F1, G1.tr F22⟩
    · simp only [fX8_readLaw, a1, bd_some', ngd, nt, hl, hh, a2, bd2_some', if_true]
    · simp only [fX12_wantLaw, b1, bd_some', ngd, nt, b3, b4, b2, bd2_some', dead_end dead_0, dead_0, if_true, lw_eq, setI_same rfl]
end
