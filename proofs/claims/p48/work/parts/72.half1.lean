/-! 72: the first half of the law -/
theorem monD {L lost nig : Nat → Nat} {day col left : Nat} (b : bL L lost nig day col left) : mon (dyS (sOf L lost nig) day) 126 := fun u' u h1 h2 h3 => isD_mono (dyS_is b.2.2.2.2.2.2.2.1 (sOf_pos b.1) h1 (by omega)) (dyS_is b.2.2.2.2.2.2.2.1 (sOf_pos b.1) (by omega) h3) h2
theorem TB_hi {o k : Nat} (h : 67 ≤ o ∨ o ≤ 45) : TB o k = false := by simp [TB]; omega
/-- as the law has it -/
def LwS (n : Nat) (J : Nat → Nat → Nat) (L lost nig : Nat → Nat) (p : List Nat) (w : AW) : Prop :=
  okB n J L lost nig 0 0 0 p ∧ CBd 1 n J L lost nig 0 0 0 0 p w ∧ (∀ i, i < n → w.1 76 (5 * i + 4) = nI (J 4 i)) ∧ w.1 77 3 = nI (L 3) ∧ w.1 79 0 = nI (nig 0) ∧ nig 0 ≤ 1 ∧ ∃ z, CTy 23 0 (fun _ _ => 0) z w
section
variable {n : Nat} {J : Nat → Nat → Nat} {L lost nig : Nat → Nat} {p q : List Nat} {w w' : AW}
theorem LwS.mv {T : Nat → Nat → Bool} (h : LwS n J L lost nig p w) (f : Fr T w w') (ok : okB n J L lost nig 0 0 0 q) (c : CBd 1 n J L lost nig 0 0 0 0 q w') (h2 : ∀ o k, 23 ≤ o → o ≤ 29 → T o k = false) (h7 : ∀ o k, 76 ≤ o → T o k = false) : LwS n J L lost nig q w' := by
  obtain ⟨a1, a2, a3, a4, a5, a6, z, a7⟩ := h
  exact ⟨ok, c, fun i hi => by rw [f.at' _ (h7 76 _ (by omega))]; exact a3 i hi, by rw [f.at' _ (h7 77 _ (by omega))]; exact a4, by rw [f.at' _ (h7 79 _ (by omega))]; exact a5, a6, z, a7.fr f (fun i hi k => h2 _ k (by omega) (by omega))⟩
theorem LwS.tb (h : LwS n J L lost nig p w) (f : Fr TB w w') (c : CBd 1 n J L lost nig 0 0 0 0 p w') : LwS n J L lost nig p w' := h.mv f h.1 c (fun o k a b => TB_hi (by omega)) (fun o k a => TB_hi (by omega))
theorem KB.tb {m : Nat} {J' : Nat → Nat → Nat} {day col left : Nat} {till : Int32} (h : KB m J' L lost nig day col left till p w) (f : Fr TB w w') : KB m J' L lost nig day col left till p w' := h.fr f (TB_hi (by omega)) (fun o k a b => TB_hi (by omega)) (fun o k a b => TB_hi (by omega))
theorem KB.t1 {m : Nat} {J' : Nat → Nat → Nat} {day col left : Nat} {till : Int32} (h : KB m J' L lost nig day col left till p w) (f : Fr T1 w w') : KB m J' L lost nig day col left till p w' := h.fr f (T1_no (by omega)) (fun o k a b => T1_no (by omega)) (fun o k a b => T1_no (by omega))
theorem KB.t3 {m : Nat} {J' : Nat → Nat → Nat} {day col left : Nat} {till : Int32} (h : KB m J' L lost nig day col left till p w) (f : Fr T3 w w') : KB m J' L lost nig day col left till p w' := h.fr f (by simp [T3]) (fun o k a b => by simp [T3]; omega) (fun o k a b => by simp [T3]; omega)
/-- back from what was kept -/
theorem LwS.again {w1 : AW} {T : Nat → Nat → Bool} (h : LwS n J L lost nig p w) (f : Fr T w w1) (h7 : ∀ o k, 76 ≤ o → T o k = false) (hk : KB n J L lost nig 0 0 0 0 p w1) : ∃ w2, fX11_again N0 w1 = some (nI n, w2) ∧ LwS n J L lost nig p w2 ∧ KB n J L lost nig 0 0 0 0 p w2 ∧ Fr T3 w1 w2 := by
  obtain ⟨a1, a2, a3, a4, a5, a6, a7⟩ := h
  obtain ⟨hpl, -⟩ := perm_facts a1.2.2.2
  have hn := a1.1
  obtain ⟨w2, e1, e2, e3, e4⟩ := c_again hn (by omega) hk
  have hi : ∀ o k, 76 ≤ o → w2.1 o k = w.1 o k := fun o k ho => by rw [e2.at' k (by simp [T3]; omega), f.at' k (h7 o k ho)]
  exact ⟨w2, e1, ⟨a1, e3, fun i hi' => by rw [hi 76 _ (by omega)]; exact a3 i hi', by rw [hi 77 _ (by omega)]; exact a4, by rw [hi 79 _ (by omega)]; exact a5, a6, e4⟩, hk.t3 e2, e2⟩
end
theorem sN_range {f : Nat → Nat} : ∀ {n : Nat}, sN f n = sL f (List.range n) := by
  intro n
  induction n with
  | zero => rfl
  | succ n ih => rw [List.range_succ, sL_app, sN, ih]; simp [sL]
/-- what the second half is owed -/
def FinK (n : Nat) (J : Nat → Nat → Nat) (L lost nig : Nat → Nat) (ch : List Nat) (k : Int32 → Int32 → AW → Option (Int32 × AW)) : Prop :=
  ∀ w, LwS n J L lost nig ch w → KB n J L lost nig 0 0 0 0 ch w → ∃ wZ, k (nI n) (lteM (fun j => eJ (dyS (sOf L lost nig) 0) (L 1) 0 0 J j ch) J n) w = some (1, wZ)
section
variable {S : SC} {n : Nat} {J : Nat → Nat → Nat} {L lost nig : Nat → Nat} {ch : List Nat} {w : AW} {k : Int32 → Int32 → AW → Option (Int32 × AW)}
theorem fin_late (hK : FinK n J L lost nig ch k) (h : LwS n J L lost nig ch w) (hkb : KB n J L lost nig 0 0 0 0 ch w) : ∃ r w' wZ, fX11_late N0 w = some (r, w') ∧ k (nI n) r w' = some (1, wZ) := by
  obtain ⟨w', e1, e2, e3⟩ := c_late h.1 h.2.1
  obtain ⟨wZ, e4⟩ := hK w' (h.tb e2 e3) (hkb.tb e2)
  exact ⟨_, w', wZ, e1, e4⟩
theorem b813 (hK : FinK n J L lost nig ch k) (h : LwS n J L lost nig ch w) (hkb : KB n J L lost nig 0 0 0 0 ch w) (qq : Int32) :
    ∃ wZ, bL_law1_813 N0 S k (nI n) (acr (Vb (dyS (sOf L lost nig) 0) (L 1) 0 0 (L 2) J n) (J 4) n).1 (zI (acr (Vb (dyS (sOf L lost nig) 0) (L 1) 0 0 (L 2) J n) (J 4) n).2) qq qq w = some (1, wZ) := by
  obtain ⟨hn, bj, b, hp⟩ := id h.1
  obtain ⟨-, hac⟩ := acr_facts (V := Vb (dyS (sOf L lost nig) 0) (L 1) 0 0 (L 2) J n) (pr := J 4) n
  rw [bL_law1_813, if_pos rfl]
  rcases hac with ⟨h1, h2⟩ | ⟨kk, hkk, h1, h2, -⟩
  · rw [h1, if_pos (by decide)]
    obtain ⟨r, w', wZ, e1, e2⟩ := fin_late hK h hkb
    exact ⟨wZ, by rw [e1, bd2_some', e2]⟩
  · rw [h1, h2, if_neg (by rw [n0, nlt (by omega) (by omega)]; omega)]
    obtain ⟨w1, d1, d2, d3, d4⟩ := c_drop h.1 h.2.1 hkk
    obtain ⟨w2, f1, f2, f3⟩ := c_best d3 d4 0 (by decide)
    obtain ⟨w3, g1, g2, g3, g4⟩ := LwS.again (T := fun o k => T1 o k || TB o k) h ((d2.wd (fun o k q => by simp only [Bool.or_eq_false_iff] at q; exact q.1)).tr (f2.wd (fun o k q => by simp only [Bool.or_eq_false_iff] at q; exact q.2))) (fun o k ho => by rw [T1_no (by omega), TB_hi (by omega)]; rfl) ((hkb.t1 d2).tb f2)
    obtain ⟨r, w', wZ, e1, e2⟩ := fin_late hK g2 g3
    refine ⟨wZ, ?_⟩
    have em1 : nI n - 1 = nI (n - 1) := by rw [n1, nsub (by omega)]
    have a4 : nI (5 * kk) + 4 = nI (5 * kk + 4) := by rw [n4, nadd]
    have m5 : 5 * nI kk = nI (5 * kk) := by rw [n5, nmul]
    have r76 : w2.1 76 (5 * kk + 4) = nI (J 4 kk) := by rw [f2.at' _ (TB_hi (by omega)), d2.at' _ (T1_no (by omega))]; exact h.2.2.1 kk hkk
    have hpr := (bj kk hkk).2.2.2.2.2
    have hb : (bst (dyS (sOf L lost nig) 0) (L 1) 0 0 (L 2) (rmJ kk J) (n - 1)).1 = Vb (dyS (sOf L lost nig) 0) (L 1) 0 0 (L 2) J n kk := Vb_rm bj b.2.2.2.1 hn hkk
    rw [if_pos rfl, hb] at f1
    rw [d1, bd2_some', em1, if_pos rfl, f1, bd2_some', m5, a4, gd_n (by omega) (by omega), ntn (by omega), r76]
    rw [show zI (Vb (dyS (sOf L lost nig) 0) (L 1) 0 0 (L 2) J n kk) + nI (J 4 kk) / 2 = zI (Vb (dyS (sOf L lost nig) 0) (L 1) 0 0 (L 2) J n kk + ((J 4 kk / 2 : Nat) : Int)) by rw [n2, ndiv (by omega) (by omega) (by omega), zI_nI, zadd]]
    rw [if_pos rfl, g1, bd2_some', if_pos rfl, e1, bd2_some', e2]
theorem Vb6 {dy : Nat → Nat} {st c0 l0 fine : Nat} : Vb dy st c0 l0 fine J n 6 = (bst dy st c0 l0 fine J n).1 := rfl
theorem b711 (hK : FinK n J L lost nig ch k) (h : LwS n J L lost nig ch w) (hkb : KB n J L lost nig 0 0 0 0 ch w) (hn5 : n ≤ 5) {s c p : Nat} (hs1 : 1 ≤ s) (hs : s ≤ 9) (hc : c ≤ 1) (hp : p ≤ 99) {x : Int32} (hx : (x >>> (11 &&& 31)) &&& 1 = nI c) :
    ∃ wZ, bL_law1_711 N0 S k (nI n) (zI (bst (dyS (sOf L lost nig) 0) (L 1) 0 0 (L 2) J n).1) x (nI s) (nI p) (zI ((bst (dyS (sOf L lost nig) 0) (L 1) 0 0 (L 2) (upJ J n (jR 0 s c 60 p)) (n + 1)).1 - (bst (dyS (sOf L lost nig) 0) (L 1) 0 0 (L 2) J n).1)) w = some (1, wZ) := by
  obtain ⟨hn, bj, b, hpp⟩ := id h.1
  obtain ⟨w1, a1, a2, a3, a4⟩ := c_job h.1 h.2.1 (by omega) (k := 0) (s := s) (c := c) (b' := 60) (pr := p) (by omega) hs1 hs hc (by omega) hp
  obtain ⟨w2, b1, b2, b3⟩ := c_best a3 a4 0 (by decide)
  obtain ⟨w3, c1, c2, c3, c4⟩ := LwS.again (T := fun o k => T1 o k || TB o k) h ((a2.wd (fun o k q => by simp only [Bool.or_eq_false_iff] at q; exact q.1)).tr (b2.wd (fun o k q => by simp only [Bool.or_eq_false_iff] at q; exact q.2))) (fun o k ho => by rw [T1_no (by omega), TB_hi (by omega)]; rfl) ((hkb.t1 a2).tb b2)
  obtain ⟨w4, d1, d2, d3⟩ := c_best c2.1 c2.2.1 0 (by decide)
  have l4 := c2.tb d2 d3
  have k4 := c3.tb d2
  obtain ⟨w5, e1, e2, e3, e4⟩ := c_across l4.1 l4.2.1 0 (by decide)
  have l5 := l4.tb e2 e3
  have k5 := k4.tb e2
  obtain ⟨w6, f1, f2, f3, -⟩ := c_across l5.1 l5.2.1 1 (by decide)
  have l6 := l5.tb f2 f3
  have k6 := k5.tb f2
  obtain ⟨ac1, ac2⟩ := acr_facts (V := Vb (dyS (sOf L lost nig) 0) (L 1) 0 0 (L 2) J n) (pr := J 4) n
  have hab := e4 n (Nat.le_refl _)
  have hb6 := bst_top (dy := (dyS (sOf L lost nig) 0)) (st := L 1) (c0 := 0) (l0 := 0) bj b.2.2.2.1 hn
  rw [Vb6] at ac1 ac2
  rw [if_pos rfl] at b1 d1 e1
  rw [if_neg (by decide)] at f1
  rw [show nI 0 = (0 : Int32) from rfl, show nI 60 = (60 : Int32) from rfl] at a1
  rw [bL_law1_711, hx, a1, bd2_some', if_pos rfl, b1, bd2_some', zadd, show (bst (dyS (sOf L lost nig) 0) (L 1) 0 0 (L 2) J n).1 + ((bst (dyS (sOf L lost nig) 0) (L 1) 0 0 (L 2) (upJ J n (jR 0 s c 60 p)) (n + 1)).1 - (bst (dyS (sOf L lost nig) 0) (L 1) 0 0 (L 2) J n).1) = (bst (dyS (sOf L lost nig) 0) (L 1) 0 0 (L 2) (upJ J n (jR 0 s c 60 p)) (n + 1)).1 by omega]
  rw [if_pos rfl, c1, bd2_some', if_pos rfl, d1, bd2_some', if_pos rfl, e1, bd2_some', f1, bd2_some']
  rw [if_neg (by rw [zlt (by omega) (by omega) (by omega) (by omega)]; omega)]
  rcases ac2 with ⟨h1, h2⟩ | ⟨kk, hkk, h1, h2, h3⟩
  · rw [if_pos h1, bL_law1_801, if_pos (by rw [h2])]
    exact b813 hK l6 k6 1
  · rw [if_neg (by rw [h1, zI_nI, show (-9 : Int32) = zI (-9) from rfl, zeq (by omega) (by omega) (by omega) (by omega)]; omega), bL_law1_801, if_neg (by rw [zeq (by omega) (by omega) (by omega) (by omega)]; omega)]
    exact b813 hK l6 k6 0
/-- the new job, gone again -/
theorem LwS.job_drop (h : LwS n J L lost nig ch w) (hkb : KB n J L lost nig 0 0 0 0 ch w) (hn5 : n ≤ 5) {r : Nat → Nat} {w1 w2 : AW} {T : Nat → Nat → Bool} (f : Fr T w w1) (h2 : ∀ o k, 23 ≤ o → o ≤ 29 → T o k = false) (h7 : ∀ o k, 76 ≤ o → T o k = false) (h12 : ∀ o k, 12 ≤ o → o ≤ 22 → T o k = false) (h30 : ∀ o k, 30 ≤ o → o ≤ 36 → T o k = false) (h04 : T 0 4 = false) (ok : okB (n + 1) (upJ J n r) L lost nig 0 0 0 (ch ++ [n])) (c : CBd 1 (n + 1) (upJ J n r) L lost nig 0 0 0 0 (ch ++ [n]) w1) :
    ∃ w2, fX11_drop N0 (nI n) w1 = some (nI n, w2) ∧ LwS n J L lost nig ch w2 ∧ KB n J L lost nig 0 0 0 0 ch w2 := by
  obtain ⟨w2, e1, e2, e3, e4⟩ := c_drop ok c (j := n) (by omega)
  obtain ⟨hpl, hpm, hnd, hall⟩ := perm_facts h.1.2.2.2
  have hch : rmP n (ch ++ [n]) = ch := by
    unfold rmP
    rw [List.filter_append, List.filter_eq_self.mpr (fun x hx => by have := hpm x hx; simp; omega)]
    have : [n].filter (fun x => !(x == n)) = [] := by simp
    rw [this, List.append_nil, List.map_congr_left (g := id) (fun x hx => by have := hpm x hx; unfold dcr; rw [if_neg (by omega)]; rfl), List.map_id]
  rw [Nat.add_sub_cancel, hch] at e4
  rw [Nat.add_sub_cancel] at e1
  have c2 : CBd 1 n J L lost nig 0 0 0 0 ch w2 := e4.cgr (fun y hy k => by simp only [rmJ]; rw [if_pos hy, upJ_lt hy])
  refine ⟨w2, e1, h.mv (T := fun o k => T o k || T1 o k) ((f.wd (fun o k q => by simp only [Bool.or_eq_false_iff] at q; exact q.1)).tr (e2.wd (fun o k q => by simp only [Bool.or_eq_false_iff] at q; exact q.2))) h.1 c2 (fun o k a b => by rw [h2 o k a b, T1_no (by omega)]; rfl) (fun o k a => by rw [h7 o k a, T1_no (by omega)]; rfl), ?_⟩
  exact (hkb.fr f h04 h12 h30).t1 e2
theorem b600 (hK : FinK n J L lost nig ch k) (h : LwS n J L lost nig ch w) (hkb : KB n J L lost nig 0 0 0 0 ch w) (hn5 : n ≤ 5) {s c p : Nat} (hs1 : 1 ≤ s) (hs : s ≤ 9) (hc : c ≤ 1) (hp : p ≤ 99) {x : Int32} (hx : (x >>> (11 &&& 31)) &&& 1 = nI c) :
    ∃ wZ, bL_law1_600 N0 S k (nI n) (zI (bst (dyS (sOf L lost nig) 0) (L 1) 0 0 (L 2) J n).1) (nI (sN (J 4) n)) x (nI s) (nI p) (if 60 < soo (dyS (sOf L lost nig) 0) (L 1) 0 0 (L 2) (upJ J n (jR 0 s c 60 0)) (n + 1) then -3 else nI (soo (dyS (sOf L lost nig) 0) (L 1) 0 0 (L 2) (upJ J n (jR 0 s c 60 0)) (n + 1))) (zI ((bst (dyS (sOf L lost nig) 0) (L 1) 0 0 (L 2) (upJ J n (jR 0 s c 60 p)) (n + 1)).1 - (bst (dyS (sOf L lost nig) 0) (L 1) 0 0 (L 2) J n).1)) w = some (1, wZ) := by
  obtain ⟨hn, bj, b, hpp⟩ := id h.1
  rw [bL_law1_600]
  by_cases hso : 60 < soo (dyS (sOf L lost nig) 0) (L 1) 0 0 (L 2) (upJ J n (jR 0 s c 60 0)) (n + 1)
  · rw [if_pos hso, if_pos (by decide)]
    exact b711 hK h hkb hn5 hs1 hs hc hp hx
  · rw [if_neg hso]
    have bj60 := bJ_up (k := 0) (s := s) (c := c) (b := 60) (p := 0) bj (by omega) hs1 hs hc (by omega) (by omega)
    obtain ⟨so1, so2, so3⟩ := soo_facts (n := n) (dy := (dyS (sOf L lost nig) 0)) (st := L 1) (c0 := 0) (l0 := 0) (fine := L 2) (k := 0) (s := s) (c := c) (M := 126) bj (monD b) b.2.2.1 (by omega) (by omega) (by omega) (fun u h1 h2 => by have := dyS_le b.2.2.2.2.2.2.2.1 (sOf_pos (lost := lost) (nig := nig) b.1) h1 h2; omega) bj60 (by omega)
    generalize soo (dyS (sOf L lost nig) 0) (L 1) 0 0 (L 2) (upJ J n (jR 0 s c 60 0)) (n + 1) = so at *
    rw [if_neg (by rw [n0, nlt (by omega) (by omega)]; omega)]
    -- promised for its soonest day
    obtain ⟨w1, a1, a2, a3, a4⟩ := c_job h.1 h.2.1 (by omega) (k := 0) (s := s) (c := c) (b' := so) (pr := p) (by omega) hs1 hs hc (by omega) hp
    obtain ⟨w2, b1, b2, b3, -⟩ := c_fewest a3 a4
    obtain ⟨w3, c1, c2, c3⟩ := c_best a3 b3 0 (by decide)
    have hF : Fr (fun o k => T1 o k || TB o k) w w3 := (a2.wd (fun o k q => by simp only [Bool.or_eq_false_iff] at q; exact q.1)).tr ((b2.tr c2).wd (fun o k q => by simp only [Bool.or_eq_false_iff] at q; exact q.2))
    obtain ⟨w4, d1, d2, d3⟩ := h.job_drop (w2 := w) hkb hn5 hF (fun o k a b => by rw [T1_no (by omega), TB_hi (by omega)]; rfl) (fun o k a => by rw [T1_no (by omega), TB_hi (by omega)]; rfl) (fun o k a b => by rw [T1_no (by omega), TB_hi (by omega)]; rfl) (fun o k a b => by rw [T1_no (by omega), TB_hi (by omega)]; rfl) (by rw [T1_no (by omega), TB_hi (by omega)]; rfl) a3 c3
    have bj' := a3.2.1
    have hall := (bst_all (dy := (dyS (sOf L lost nig) 0)) (st := L 1) (c0 := 0) (l0 := 0) (n := n + 1) bj' b.2.2.2.1 (by omega)).2 (so2 p)
    have hsum : (sL (upJ J n (jR 0 s c so p) 4) (List.range (n + 1)) : Int) = ((sN (J 4) n + p : Nat) : Int) := by
      rw [List.range_succ, sL_app]
      simp only [sL, upJ_at]
      have e2 : jR 0 s c so p 4 = p := by simp [jR]
      rw [e2, ← sN_range, sN_congr (g := J 4) (fun i hi => upJ_lt hi)]
      simp
    rw [hsum] at hall
    rw [show nI 0 = (0 : Int32) from rfl] at a1
    rw [so2 p, show nI 0 = (0 : Int32) from rfl] at b1
    rw [if_pos rfl, hall] at c1
    rw [hx, a1, bd2_some', if_pos rfl, b1, bd2_some', if_pos rfl, c1, bd2_some', nadd, zI_nI, if_pos rfl, d1, bd2_some', if_pos rfl]
    by_cases h0 : so = 0
    · rw [if_pos (by rw [n0, nle (by omega) (by omega)]; omega)]
      exact b711 hK d2 d3 hn5 hs1 hs hc hp hx
    · rw [if_neg (by rw [n0, nle (by omega) (by omega)]; omega)]
      obtain ⟨w5, e1, e2, e3, e4⟩ := c_job d2.1 d2.2.1 (by omega) (k := 0) (s := s) (c := c) (b' := so - 1) (pr := p) (by omega) hs1 hs hc (by omega) hp
      obtain ⟨w6, f1, f2, f3, f4⟩ := c_fewest e3 e4
      have hF2 : Fr (fun o k => T1 o k || TB o k) w4 w6 := (e2.wd (fun o k q => by simp only [Bool.or_eq_false_iff] at q; exact q.1)).tr (f2.wd (fun o k q => by simp only [Bool.or_eq_false_iff] at q; exact q.2))
      obtain ⟨w7, g1, g2, g3⟩ := d2.job_drop (w2 := w) d3 hn5 hF2 (fun o k a b => by rw [T1_no (by omega), TB_hi (by omega)]; rfl) (fun o k a => by rw [T1_no (by omega), TB_hi (by omega)]; rfl) (fun o k a b => by rw [T1_no (by omega), TB_hi (by omega)]; rfl) (fun o k a b => by rw [T1_no (by omega), TB_hi (by omega)]; rfl) (by rw [T1_no (by omega), TB_hi (by omega)]; rfl) e3 f3
      have hne := so3 p (so - 1) (by omega)
      have em1 : nI so - 1 = nI (so - 1) := by rw [n1, nsub (by omega)]
      rw [show nI 0 = (0 : Int32) from rfl] at e1
      rw [em1, e1, bd2_some', if_pos rfl, f1, bd2_some', if_neg (by rw [n0, neq (by omega) (by omega)]; exact hne), g1, bd2_some', if_pos rfl]
      exact b711 hK g2 g3 hn5 hs1 hs hc hp hx
end
