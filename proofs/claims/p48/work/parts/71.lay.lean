/-! 71: the board as the law lays it -/
def atV (S : SC) (k : Nat) : Int32 := if Int32.ofNat S.1 ≤ nI k then 37 * nI k + 11 else S.2 k
theorem at_ev {S : SC} (hS : S.1 ≤ 260) {k : Nat} (hk : k ≤ 100) (w : AW) : fL_at S (nI k) w = some (atV S k) := by
  have e : (Int32.ofNat S.1 ≤ nI k) = (S.1 ≤ k) := nle (a := S.1) (b := k) (by omega) (by omega)
  unfold fL_at atV
  simp only [e]
  by_cases h : S.1 ≤ k
  · simp only [h, if_true]
  · simp only [h, if_false]
    rw [gd_n (by omega) (by omega), ntn (by omega)]
theorem mod_ev (a : Int32) {k : Nat} (h1 : 1 ≤ k) (h2 : k ≤ 100) : ∃ r, r < k ∧ ∀ w, fL_mod a (nI k) w = some (nI r) := by
  obtain ⟨z, rfl, z1, z2⟩ := toZ a
  have hk : ¬ nI k = 0 := by rw [n0, neq (by omega) (by omega)]; omega
  have e : zI z - zI z / nI k * nI k = zI (z.tmod k) := by
    rw [zI_nI, zdiv z1 z2 (by omega) (by omega), zmul, zsub]
    congr 1
    have := Int.mul_tdiv_add_tmod z k
    rw [Int.mul_comm] at this
    omega
  have hm : -(k : Int) < z.tmod k ∧ z.tmod k < k := by
    have hb := Int.tmod_lt_of_pos z (show (0 : Int) < k by omega)
    have hc := Int.tmod_lt_of_pos (-z) (show (0 : Int) < k by omega)
    rw [Int.neg_tmod] at hc
    omega
  have h0 : (0 ≤ zI (z.tmod k)) = (0 ≤ z.tmod k) := by
    rw [show (0 : Int32) = zI 0 from rfl, zle (by omega) (by omega) (by omega) (by omega)]
  by_cases hp : 0 ≤ z.tmod k
  · refine ⟨(z.tmod k).toNat, by omega, fun w => ?_⟩
    simp only [fL_mod, hk, not_false_eq_true, decide_true, gd_true, e, h0, hp, if_true]
    rw [zI_nI, Int.toNat_of_nonneg hp]
  · refine ⟨(z.tmod k + k).toNat, by omega, fun w => ?_⟩
    simp only [fL_mod, hk, not_false_eq_true, decide_true, gd_true, e, h0, hp, if_false]
    rw [zI_nI k, zadd, zI_nI, Int.toNat_of_nonneg (by omega)]
theorem and1 (x : Int32) : ∃ c, c ≤ 1 ∧ x &&& 1 = nI c := by
  obtain ⟨d, h1, h2⟩ := and7 x
  have e : x &&& 1 = (x &&& 7) &&& 1 := by
    rw [Int32.and_assoc]
    rfl
  rw [e, h2]
  have : d = 0 ∨ d = 1 ∨ d = 2 ∨ d = 3 ∨ d = 4 ∨ d = 5 ∨ d = 6 ∨ d = 7 := by omega
  rcases this with rfl | rfl | rfl | rfl | rfl | rfl | rfl | rfl
  · exact ⟨0, by omega, by decide⟩
  · exact ⟨1, by omega, by decide⟩
  · exact ⟨0, by omega, by decide⟩
  · exact ⟨1, by omega, by decide⟩
  · exact ⟨0, by omega, by decide⟩
  · exact ⟨1, by omega, by decide⟩
  · exact ⟨0, by omega, by decide⟩
  · exact ⟨1, by omega, by decide⟩
/-- what the law's own rows and the board may change in -/
def TLw (o k : Nat) : Bool := T1 o k || (decide (76 ≤ o) && decide (o ≤ 79))
theorem TLw_1 {o k : Nat} (h : TLw o k = false) : T1 o k = false := by simp only [TLw, Bool.or_eq_false_iff] at h; exact h.1
theorem T1_no {o k : Nat} (h : o = 0 ∨ 12 ≤ o) : T1 o k = false := by simp [T1]; omega
theorem CBd.law {b n : Nat} {J : Nat → Nat → Nat} {L lost nig : Nat → Nat} {day col left : Nat} {till : Int32} {p : List Nat} {w : AW} {o k : Nat} {v : Int32} (h : CBd b n J L lost nig day col left till p w) (hb : b ≤ 12) (ho : 60 ≤ o) : CBd b n J L lost nig day col left till p (setI w o k v) :=
  h.fr (T := fun a _ => a == o) (Fr.set (by simp)) (fun i hi k => by simp; omega)
/-- days told: their rows and the board's -/
def LayD (L : Nat → Nat) (i : Nat) (lost nig : Nat → Nat) (w0 w : AW) : Prop :=
  okB 0 (fun _ _ => 0) L lost nig 0 0 0 [] ∧ CBd 1 0 (fun _ _ => 0) L lost nig 0 0 0 0 [] w ∧ (∀ d, d < i → w.1 78 d = nI (lost d) ∧ w.1 79 d = nI (nig d) ∧ nig d ≤ 1) ∧ (∀ d, i ≤ d → lost d = 0 ∧ nig d = 0) ∧ Fr TLw w0 w ∧ (∀ k, w.1 77 k = w0.1 77 k)
section
variable {L lost nig : Nat → Nat} {i : Nat} {w0 w : AW}
theorem layD_tail (h : LayD L i lost nig w0 w) (hi : i < 10) {v m : Nat} (hv : v ≤ 2) (hm : m ≤ 1) :
    ∃ w1 w2 lost' nig', fX11_lose (nI i) (nI v) (setI (setI w 78 i (nI v)) 79 i (nI m)) = some (0, w1) ∧ w1.1 79 i = nI m ∧ fX11_night (nI i) (nI m) w1 = some (0, w2) ∧ LayD L (i + 1) lost' nig' w0 w2 := by
  obtain ⟨ok, hc, hr, hz, hF, h77⟩ := h
  have F0 : Fr (fun o k => (o == 78 || o == 79) && k == i) w (setI (setI w 78 i (nI v)) 79 i (nI m)) := (Fr.set (by simp)).tr (Fr.set (by simp))
  have hc0 : CBd 1 0 (fun _ _ => 0) L lost nig 0 0 0 0 [] (setI (setI w 78 i (nI v)) 79 i (nI m)) := hc.fr F0 (fun i hi k => by simp; omega)
  obtain ⟨w1, e1, f1, ok1, c1⟩ := c_lose ok hc0 (d := i) (m := v) (by omega) (by omega)
  obtain ⟨w2, e2, f2, ok2, c2⟩ := c_night ok1 c1 (d := i) (m := m) (by omega) (by omega)
  obtain ⟨z1, z2⟩ := hz i (Nat.le_refl _)
  rw [z1] at e1
  rw [z2] at e2
  have k1 : ∀ o k, 76 ≤ o → w1.1 o k = (setI (setI w 78 i (nI v)) 79 i (nI m)).1 o k := fun o k ho => f1.at' k (T1_no (by omega))
  have k2 : ∀ o k, 76 ≤ o → w2.1 o k = (setI (setI w 78 i (nI v)) 79 i (nI m)).1 o k := fun o k ho => by rw [f2.at' k (T1_no (by omega))]; exact k1 o k ho
  refine ⟨w1, w2, _, _, e1, by rw [k1 79 i (by omega)]; simp [setI1], e2, ok2, c2, fun d hd => ?_, fun d hd => ?_, ?_, fun k => ?_⟩
  · rw [k2 78 d (by omega), k2 79 d (by omega)]
    by_cases hq : d = i
    · subst hq; simp [setI1]; exact hm
    · obtain ⟨a, b, c⟩ := hr d (by omega)
      simp [setI1, hq]
      exact ⟨a, b, c⟩
  · obtain ⟨a, b⟩ := hz d (by omega)
    have hq : ¬ d = i := by omega
    simp only [hq, if_false]
    exact ⟨a, b⟩
  · refine hF.tr ((F0.wd (fun o k q => ?_)).tr ((f1.wd (fun o k q => TLw_1 q)).tr (f2.wd (fun o k q => TLw_1 q))))
    simp only [TLw, Bool.or_eq_false_iff, Bool.and_eq_false_iff, decide_eq_false_iff_not] at q
    simp only [Bool.and_eq_false_iff, Bool.or_eq_false_iff, beq_eq_false_iff_ne]
    omega
  · rw [k2 77 k (by omega)]
    simp [setI1]
    exact h77 k
theorem layD_step {S : SC} (hS : S.1 ≤ 260) {N : Nat} {a2 : Int32} (h : LayD L i lost nig w0 w) (hi : i < 10) :
    ∃ w2 lost' nig', lbL_lay_114_1 N S a2 (nI i, w) = some (.inl (nI (i + 1), w2)) ∧ LayD L (i + 1) lost' nig' w0 w2 := by
  have h10 : ¬ (10 : Int32) ≤ nI i := by rw [n10, nle (by omega) (by omega)]; omega
  have ha : fL_at S 1 w = some (atV S 1) := at_ev hS (k := 1) (by omega) w
  have hg : ∀ {β : Type} {k : Option β}, gd (inb (nI i) 10) k = k := fun {β k} => gd_n (by omega) (by omega)
  have ht : (nI i).toNatClampNeg = i := ntn (by omega)
  have h1 : nI i + 1 = nI (i + 1) := by rw [n1, nadd]
  have h78 : ∀ v m : Int32, (setI (setI w 78 i v) 79 i m).1 78 i = v := fun v m => by simp [setI1]
  generalize hT : ((atV S 1 >>> ((3 * nI i) &&& 31)) &&& 7) = t
  by_cases t1 : t = 1
  · obtain ⟨w1, w2, lo, ni, e1, e2, e3, e4⟩ := layD_tail h hi (v := 2) (m := 0) (by omega) (by omega)
    refine ⟨w2, lo, ni, ?_, e4⟩
    have t3 : ¬ t = 3 := by rw [t1]; decide
    rw [show nI 2 = (2 : Int32) from rfl, show nI 0 = (0 : Int32) from rfl] at e1
    rw [show nI 0 = (0 : Int32) from rfl] at e2 e3
    simp only [lbL_lay_114_1, h10, if_false, ha, bd_some', hT, t1, if_true, hg, ht, lw_eq, show ¬ ((1 : Int32) = 3) by decide, h78, e1, bd2_some', e2, e3, h1]
  · by_cases t2 : t = 2
    · obtain ⟨w1, w2, lo, ni, e1, e2, e3, e4⟩ := layD_tail h hi (v := 1) (m := 0) (by omega) (by omega)
      refine ⟨w2, lo, ni, ?_, e4⟩
      rw [show nI 1 = (1 : Int32) from rfl, show nI 0 = (0 : Int32) from rfl] at e1
      rw [show nI 0 = (0 : Int32) from rfl] at e2 e3
      simp only [lbL_lay_114_1, h10, if_false, ha, bd_some', hT, t2, if_true, hg, ht, lw_eq, show ¬ ((2 : Int32) = 3) by decide, show ¬ ((2 : Int32) = 1) by decide, h78, e1, bd2_some', e2, e3, h1]
    · by_cases t3 : t = 3
      · obtain ⟨w1, w2, lo, ni, e1, e2, e3, e4⟩ := layD_tail h hi (v := 0) (m := 1) (by omega) (by omega)
        refine ⟨w2, lo, ni, ?_, e4⟩
        rw [show nI 1 = (1 : Int32) from rfl, show nI 0 = (0 : Int32) from rfl] at e1
        rw [show nI 1 = (1 : Int32) from rfl] at e2 e3
        simp only [lbL_lay_114_1, h10, if_false, ha, bd_some', hT, t3, if_true, hg, ht, lw_eq, show ¬ ((3 : Int32) = 2) by decide, show ¬ ((3 : Int32) = 1) by decide, h78, e1, bd2_some', e2, e3, h1]
      · obtain ⟨w1, w2, lo, ni, e1, e2, e3, e4⟩ := layD_tail h hi (v := 0) (m := 0) (by omega) (by omega)
        refine ⟨w2, lo, ni, ?_, e4⟩
        rw [show nI 0 = (0 : Int32) from rfl] at e1 e2 e3
        simp only [lbL_lay_114_1, h10, if_false, ha, bd_some', hT, t1, t2, t3, if_true, hg, ht, lw_eq, h78, e1, bd2_some', e2, e3, h1]
end
/-- jobs told: their prices in the law's row -/
def LayJ (L lost nig : Nat → Nat) (j : Nat) (J : Nat → Nat → Nat) (w0 w : AW) : Prop :=
  okB j J L lost nig 0 0 0 (List.range j) ∧ CBd 1 j J L lost nig 0 0 0 0 (List.range j) w ∧ (∀ i, i < j → w.1 76 (5 * i + 4) = nI (J 4 i)) ∧ Fr TLw w0 w ∧ (∀ o k, 77 ≤ o → w.1 o k = w0.1 o k)
section
variable {L lost nig : Nat → Nat} {j : Nat} {J : Nat → Nat → Nat} {w0 w : AW}
theorem layJ_step {S : SC} (hS : S.1 ≤ 260) {N : Nat} {n : Nat} (h : LayJ L lost nig j J w0 w) (hj : j < n) (hn : n ≤ 5) :
    ∃ w2 J', lbL_lay_223_2 N S (nI n) (nI j, w) = some (.inl (nI (j + 1), w2)) ∧ LayJ L lost nig (j + 1) J' w0 w2 := by
  obtain ⟨ok, hc, hr, hF, hk⟩ := h
  have hnn : ¬ nI n ≤ nI j := by rw [nle (by omega) (by omega)]; omega
  have ha : ∀ w, fL_at S (2 + nI j) w = some (atV S (2 + j)) := fun w => by rw [n2, nadd]; exact at_ev hS (by omega) w
  obtain ⟨s, s1, s2⟩ := mod_ev (atV S (2 + j) >>> (3 &&& 31)) (k := 9) (by omega) (by omega)
  obtain ⟨kd', k1, k2⟩ := mod_ev (atV S (2 + j)) (k := 6) (by omega) (by omega)
  obtain ⟨b, b1, b2⟩ := mod_ev (atV S (2 + j) >>> (8 &&& 31)) (k := 16) (by omega) (by omega)
  obtain ⟨p, p1, p2⟩ := mod_ev (atV S (2 + j) >>> (12 &&& 31)) (k := 100) (by omega) (by omega)
  obtain ⟨c, c1, c2⟩ := and1 (atV S (2 + j) >>> (7 &&& 31))
  rw [show nI 9 = (9 : Int32) from rfl] at s2
  rw [show nI 6 = (6 : Int32) from rfl] at k2
  rw [show nI 16 = (16 : Int32) from rfl] at b2
  rw [show nI 100 = (100 : Int32) from rfl] at p2
  have m5 : 5 * nI j = nI (5 * j) := by rw [n5, nmul]
  have a1 : nI (5 * j) + 1 = nI (5 * j + 1) := by rw [n1, nadd]
  have a2 : nI (5 * j) + 2 = nI (5 * j + 2) := by rw [n2, nadd]
  have a3 : nI (5 * j) + 3 = nI (5 * j + 3) := by rw [n3, nadd]
  have a4 : nI (5 * j) + 4 = nI (5 * j + 4) := by rw [n4, nadd]
  have g0 : ∀ {β : Type} {k : Option β}, gd (inb (nI (5 * j)) 30) k = k := fun {β k} => gd_n (by omega) (by omega)
  have g1 : ∀ {β : Type} {k : Option β}, gd (inb (nI (5 * j + 1)) 30) k = k := fun {β k} => gd_n (by omega) (by omega)
  have g2 : ∀ {β : Type} {k : Option β}, gd (inb (nI (5 * j + 2)) 30) k = k := fun {β k} => gd_n (by omega) (by omega)
  have g3 : ∀ {β : Type} {k : Option β}, gd (inb (nI (5 * j + 3)) 30) k = k := fun {β k} => gd_n (by omega) (by omega)
  have g4 : ∀ {β : Type} {k : Option β}, gd (inb (nI (5 * j + 4)) 30) k = k := fun {β k} => gd_n (by omega) (by omega)
  have t0 : (nI (5 * j)).toNatClampNeg = 5 * j := ntn (by omega)
  have t1 : (nI (5 * j + 1)).toNatClampNeg = 5 * j + 1 := ntn (by omega)
  have t2 : (nI (5 * j + 2)).toNatClampNeg = 5 * j + 2 := ntn (by omega)
  have t3 : (nI (5 * j + 3)).toNatClampNeg = 5 * j + 3 := ntn (by omega)
  have t4 : (nI (5 * j + 4)).toNatClampNeg = 5 * j + 4 := ntn (by omega)
  have hs1 : 1 + nI s = nI (1 + s) := by rw [n1, nadd]
  have h1 : nI j + 1 = nI (j + 1) := by rw [n1, nadd]
  -- the rows written, whatever stands for what is left of it
  have key : ∀ x : Int32, ∃ w2, fX11_job (nI kd') (nI (1 + s)) (nI c) (nI b) (nI p) (setI (setI (setI (setI (setI w 76 (5 * j) (nI kd')) 76 (5 * j + 1) x) 76 (5 * j + 2) (nI c)) 76 (5 * j + 3) (nI b)) 76 (5 * j + 4) (nI p)) = some (nI j, w2) ∧ LayJ L lost nig (j + 1) (upJ J j (jR kd' (1 + s) c b p)) w0 w2 := by
    intro x
    have F0 : Fr (fun o k => o == 76 && (decide (5 * j ≤ k) && decide (k ≤ 5 * j + 4))) w (setI (setI (setI (setI (setI w 76 (5 * j) (nI kd')) 76 (5 * j + 1) x) 76 (5 * j + 2) (nI c)) 76 (5 * j + 3) (nI b)) 76 (5 * j + 4) (nI p)) := ((((Fr.set (by simp)).tr (Fr.set (by simp))).tr (Fr.set (by simp))).tr (Fr.set (by simp))).tr (Fr.set (by simp))
    have e4 : (setI (setI (setI (setI (setI w 76 (5 * j) (nI kd')) 76 (5 * j + 1) x) 76 (5 * j + 2) (nI c)) 76 (5 * j + 3) (nI b)) 76 (5 * j + 4) (nI p)).1 76 (5 * j + 4) = nI p := by simp [setI1]
    generalize (setI (setI (setI (setI (setI w 76 (5 * j) (nI kd')) 76 (5 * j + 1) x) 76 (5 * j + 2) (nI c)) 76 (5 * j + 3) (nI b)) 76 (5 * j + 4) (nI p)) = w1 at *
    have hc1 : CBd 1 j J L lost nig 0 0 0 0 (List.range j) w1 := hc.fr F0 (fun i hi k => by simp; omega)
    obtain ⟨w2, q1, q2, q3, q4⟩ := c_job ok hc1 (by omega) (k := kd') (s := 1 + s) (c := c) (b' := b) (pr := p) (by omega) (by omega) (by omega) c1 (by omega) (by omega)
    rw [← List.range_succ] at q3 q4
    refine ⟨w2, q1, q3, q4, fun i hi => ?_, hF.tr ((F0.wd (fun o k q => ?_)).tr (q2.wd (fun o k q => TLw_1 q))), fun o k ho => ?_⟩
    · rw [q2.at' _ (T1_no (by omega))]
      by_cases hq : i = j
      · subst hq; rw [e4, upJ_at]; simp [jR]
      · rw [upJ_lt (by omega), F0.at' _ (by simp; omega)]; exact hr i (by omega)
    · simp only [TLw, Bool.or_eq_false_iff, Bool.and_eq_false_iff, decide_eq_false_iff_not] at q
      simp; omega
    · rw [q2.at' _ (T1_no (by omega)), F0.at' _ (by simp; omega)]; exact hk o k ho
  by_cases hk5 : kd' = 5
  · obtain ⟨w2, e1, e2⟩ := key ((nI (1 + s) + 1) / 2)
    refine ⟨w2, _, ?_, e2⟩
    have hk5' : nI kd' = 5 := by rw [hk5]; rfl
    have s0 : (setI w 76 (5 * j) (nI kd')).1 76 (5 * j) = 5 := by simp [setI1, hk5']
    simp only [lbL_lay_223_2, hnn, if_false, ha, bd_some', s2, k2, m5, g0, t0, lw_eq, s0, if_true, hs1, a1, g1, t1, a2, g2, t2, c2, b2, a3, g3, t3, p2, a4, g4, t4]
    have r0 : (setI (setI (setI (setI (setI w 76 (5 * j) (nI kd')) 76 (5 * j + 1) ((nI (1 + s) + 1) / 2)) 76 (5 * j + 2) (nI c)) 76 (5 * j + 3) (nI b)) 76 (5 * j + 4) (nI p)).1 76 (5 * j) = nI kd' := by simp [setI1]
    have r2 : (setI (setI (setI (setI (setI w 76 (5 * j) (nI kd')) 76 (5 * j + 1) ((nI (1 + s) + 1) / 2)) 76 (5 * j + 2) (nI c)) 76 (5 * j + 3) (nI b)) 76 (5 * j + 4) (nI p)).1 76 (5 * j + 2) = nI c := by simp [setI1]
    have r3 : (setI (setI (setI (setI (setI w 76 (5 * j) (nI kd')) 76 (5 * j + 1) ((nI (1 + s) + 1) / 2)) 76 (5 * j + 2) (nI c)) 76 (5 * j + 3) (nI b)) 76 (5 * j + 4) (nI p)).1 76 (5 * j + 3) = nI b := by simp [setI1]
    have r4 : (setI (setI (setI (setI (setI w 76 (5 * j) (nI kd')) 76 (5 * j + 1) ((nI (1 + s) + 1) / 2)) 76 (5 * j + 2) (nI c)) 76 (5 * j + 3) (nI b)) 76 (5 * j + 4) (nI p)).1 76 (5 * j + 4) = nI p := by simp [setI1]
    rw [r0, r2, r3, r4, e1]
    simp only [bd2_some', if_true, h1]
  · obtain ⟨w2, e1, e2⟩ := key (nI (1 + s))
    refine ⟨w2, _, ?_, e2⟩
    have hk5' : ¬ nI kd' = 5 := by rw [n5, neq (by omega) (by omega)]; exact hk5
    have s0 : ¬ (setI w 76 (5 * j) (nI kd')).1 76 (5 * j) = 5 := by simp [setI1]; exact hk5'
    simp only [lbL_lay_223_2, hnn, if_false, ha, bd_some', s2, k2, m5, g0, t0, lw_eq, s0, hs1, a1, g1, t1, a2, g2, t2, c2, b2, a3, g3, t3, p2, a4, g4, t4]
    have r0 : (setI (setI (setI (setI (setI w 76 (5 * j) (nI kd')) 76 (5 * j + 1) (nI (1 + s))) 76 (5 * j + 2) (nI c)) 76 (5 * j + 3) (nI b)) 76 (5 * j + 4) (nI p)).1 76 (5 * j) = nI kd' := by simp [setI1]
    have r2 : (setI (setI (setI (setI (setI w 76 (5 * j) (nI kd')) 76 (5 * j + 1) (nI (1 + s))) 76 (5 * j + 2) (nI c)) 76 (5 * j + 3) (nI b)) 76 (5 * j + 4) (nI p)).1 76 (5 * j + 2) = nI c := by simp [setI1]
    have r3 : (setI (setI (setI (setI (setI w 76 (5 * j) (nI kd')) 76 (5 * j + 1) (nI (1 + s))) 76 (5 * j + 2) (nI c)) 76 (5 * j + 3) (nI b)) 76 (5 * j + 4) (nI p)).1 76 (5 * j + 3) = nI b := by simp [setI1]
    have r4 : (setI (setI (setI (setI (setI w 76 (5 * j) (nI kd')) 76 (5 * j + 1) (nI (1 + s))) 76 (5 * j + 2) (nI c)) 76 (5 * j + 3) (nI b)) 76 (5 * j + 4) (nI p)).1 76 (5 * j + 4) = nI p := by simp [setI1]
    rw [r0, r2, r3, r4, e1]
    simp only [bd2_some', if_true, h1]
end
/-- as the law begins: board and rows -/
def Laid (n : Nat) (J : Nat → Nat → Nat) (L lost nig : Nat → Nat) (w : AW) : Prop :=
  okB n J L lost nig 0 0 0 (List.range n) ∧ CBd 1 n J L lost nig 0 0 0 0 (List.range n) w ∧ (∀ i, i < n → w.1 76 (5 * i + 4) = nI (J 4 i)) ∧ w.1 77 3 = nI (L 3) ∧ w.1 79 0 = nI (nig 0) ∧ nig 0 ≤ 1 ∧ ∃ z, CTy 23 0 (fun _ _ => 0) z w
theorem lay_first : okB 0 (fun _ _ => 0) (fun i => if i = 0 then 2 else if i = 1 then 1 else if i = 2 then 5 else 1) (fun _ => 0) (fun _ => 0) 0 0 0 [] ∧ CBd 1 0 (fun _ _ => 0) (fun i => if i = 0 then 2 else if i = 1 then 1 else if i = 2 then 5 else 1) (fun _ => 0) (fun _ => 0) 0 0 0 0 [] w0C ∧ CTy 23 0 (fun _ _ => 0) 1 w0C := by
  have four : ∀ {P : Nat → Prop}, P 0 → P 1 → P 2 → P 3 → ∀ i, i < 4 → P i := fun {P} a b c d i hi => by
    have : i = 0 ∨ i = 1 ∨ i = 2 ∨ i = 3 := by omega
    rcases this with rfl | rfl | rfl | rfl <;> assumption
  exact ⟨⟨by omega, fun j hj => by omega, ⟨by decide, by decide, by decide, by decide, by decide, fun i _ => by show 0 ≤ 9; omega, fun i _ => by show 0 ≤ 9; omega, by omega, by omega, by omega⟩, List.Perm.refl _⟩, ⟨⟨rfl, fun j hj => by omega⟩, four rfl rfl rfl rfl, fun i _ => rfl, fun i _ => rfl, fun i v hv => by simp at hv, rfl, rfl, rfl, rfl⟩, ⟨rfl, rfl, fun j hj => by omega⟩⟩
theorem lay_ev {S : SC} (hS : S.1 ≤ 260) {n : Nat} (hn : n ≤ 5) : ∃ J L lost nig w', fL_lay N0 S (nI n) w0C = some (nI n, w') ∧ Laid n J L lost nig w' := by
  have hN := N0_big
  obtain ⟨ok0, hc0, tc0⟩ := lay_first
  have ha : ∀ w, fL_at S 0 w = some (atV S 0) := fun w => at_ev hS (k := 0) (by omega) w
  obtain ⟨l0, x1, x2⟩ := mod_ev (atV S 0) (k := 4) (by omega) (by omega)
  obtain ⟨l1, y1, y2⟩ := mod_ev (atV S 0 >>> (2 &&& 31)) (k := 4) (by omega) (by omega)
  obtain ⟨l2, z1, z2⟩ := mod_ev (atV S 0 >>> (4 &&& 31)) (k := 100) (by omega) (by omega)
  obtain ⟨l3, v1, v2⟩ := mod_ev (atV S 0 >>> (11 &&& 31)) (k := 5) (by omega) (by omega)
  rw [show nI 4 = (4 : Int32) from rfl] at x2 y2
  rw [show nI 100 = (100 : Int32) from rfl] at z2
  rw [show nI 5 = (5 : Int32) from rfl] at v2
  have e1l : 1 + nI l0 = nI (1 + l0) := by rw [n1, nadd]
  have q0 : (0 : Int32).toNatClampNeg = 0 := rfl
  have q1 : (1 : Int32).toNatClampNeg = 1 := rfl
  have q2 : (2 : Int32).toNatClampNeg = 2 := rfl
  have q3 : (3 : Int32).toNatClampNeg = 3 := rfl
  generalize hw1 : setI (setI (setI (setI w0C 77 0 (nI (1 + l0))) 77 1 (nI l1)) 77 2 (nI l2)) 77 3 (nI l3) = w1
  have F1 : Fr (fun o _ => o == 77) w0C w1 := by
    subst hw1
    exact (((Fr.set (by simp)).tr (Fr.set (by simp))).tr (Fr.set (by simp))).tr (Fr.set (by simp))
  have r0 : w1.1 77 0 = nI (1 + l0) := by subst hw1; simp [setI1]
  have r1 : w1.1 77 1 = nI l1 := by subst hw1; simp [setI1]
  have r2 : w1.1 77 2 = nI l2 := by subst hw1; simp [setI1]
  have r3 : w1.1 77 3 = nI l3 := by subst hw1; simp [setI1]
  have hc1 := hc0.fr F1 (fun i hi k => by simp; omega)
  obtain ⟨w2, a1, a2, a3, a4⟩ := c_set ok0 hc1 (l := 0) (m := 1 + l0) (by omega) (fun _ => by omega) (fun q => by omega) (fun q => by omega) (fun q => by omega)
  obtain ⟨w3, b1, b2, b3, b4⟩ := c_set a3 a4 (l := 1) (m := l1) (by omega) (fun q => by omega) (fun _ => by omega) (fun q => by omega) (fun q => by omega)
  obtain ⟨w4, c1, c2, c3, c4⟩ := c_set b3 b4 (l := 2) (m := l2) (by omega) (fun q => by omega) (fun q => by omega) (fun _ => by omega) (fun q => by omega)
  obtain ⟨w5, d1, d2, d3, d4⟩ := c_set c3 c4 (l := 3) (m := l3) (by omega) (fun q => by omega) (fun q => by omega) (fun q => by omega) (fun _ => by omega)
  have k2 : ∀ k, w2.1 77 k = w1.1 77 k := fun k => a2.at' k (T1_no (by omega))
  have k3 : ∀ k, w3.1 77 k = w1.1 77 k := fun k => by rw [b2.at' k (T1_no (by omega))]; exact k2 k
  have k4 : ∀ k, w4.1 77 k = w1.1 77 k := fun k => by rw [c2.at' k (T1_no (by omega))]; exact k3 k
  have k5 : ∀ k, w5.1 77 k = w1.1 77 k := fun k => by rw [d2.at' k (T1_no (by omega))]; exact k4 k
  have FF : Fr TLw w0C w5 := (F1.wd (fun o k q => by
    simp only [TLw, Bool.or_eq_false_iff, Bool.and_eq_false_iff, decide_eq_false_iff_not] at q
    simp; omega)).tr ((a2.wd (fun o k q => TLw_1 q)).tr ((b2.wd (fun o k q => TLw_1 q)).tr ((c2.wd (fun o k q => TLw_1 q)).tr (d2.wd (fun o k q => TLw_1 q)))))
  obtain ⟨L, d3, d4, hL3⟩ : ∃ L : Nat → Nat, okB 0 (fun _ _ => 0) L (fun _ => 0) (fun _ => 0) 0 0 0 [] ∧ CBd 1 0 (fun _ _ => 0) L (fun _ => 0) (fun _ => 0) 0 0 0 0 [] w5 ∧ L 3 = l3 := ⟨_, d3, d4, rfl⟩
  -- the days
  have D0 : LayD L 0 (fun _ => 0) (fun _ => 0) w5 w5 := ⟨d3, d4, fun d hd => by omega, fun d _ => ⟨rfl, rfl⟩, Fr.rf, fun k => rfl⟩
  have keyD := wh_cnt (body := lbL_lay_114_1 N0 S (nI n)) (n := 10)
    (I := fun i s => ∃ w lost nig, s = (nI i, w) ∧ LayD L i lost nig w5 w)
    (Q := fun e => ∃ w lost nig, e = .inl w ∧ LayD L 10 lost nig w5 w)
    (fun i s hi hI => by
      obtain ⟨w, lost, nig, rfl, h⟩ := hI
      obtain ⟨w2, lo, ni, e1, e2⟩ := layD_step (N := N0) (a2 := nI n) hS h hi
      exact ⟨_, e1, w2, lo, ni, rfl, e2⟩)
    (fun s hI => by
      obtain ⟨w, lost, nig, rfl, h⟩ := hI
      exact ⟨.inl w, rfl, w, lost, nig, rfl, h⟩) (N := N0) (i := 0) (s := (0, w5)) ⟨w5, _, _, rfl, D0⟩ (by omega) (by omega)
  obtain ⟨e, e1, w6, lost, nig, rfl, D10⟩ := keyD
  obtain ⟨g1, g2, g3, g4, g5, g6⟩ := D10
  -- the jobs
  have J0 : LayJ L lost nig 0 (fun _ _ => 0) w6 w6 := ⟨g1, g2, fun i hi => by omega, Fr.rf, fun o k _ => rfl⟩
  have keyJ := wh_cnt (body := lbL_lay_223_2 N0 S (nI n)) (n := n)
    (I := fun i s => ∃ w J, s = (nI i, w) ∧ LayJ L lost nig i J w6 w)
    (Q := fun e => ∃ w J, e = .inl w ∧ LayJ L lost nig n J w6 w)
    (fun i s hi hI => by
      obtain ⟨w, J, rfl, h⟩ := hI
      obtain ⟨w2, J', e1, e2⟩ := layJ_step (N := N0) hS h hi hn
      exact ⟨_, e1, w2, J', rfl, e2⟩)
    (fun s hI => by
      obtain ⟨w, J, rfl, h⟩ := hI
      refine ⟨.inl w, ?_, w, J, rfl, h⟩
      simp only [lbL_lay_223_2, Int32.le_refl, if_true]) (N := N0) (i := 0) (s := (0, w6)) ⟨w6, _, rfl, J0⟩ (by omega) (by omega)
  obtain ⟨e, e2, w7, J, rfl, h1, h2, h3, h4, h5⟩ := keyJ
  refine ⟨J, L, lost, nig, w7, ?_, h1, h2, h3, ?_, ?_, (g3 0 (by omega)).2.2, 1, ?_⟩
  · have s0 : fX11_set 0 (nI (1 + l0)) w1 = some (2, w2) := a1
    have s1 : fX11_set 1 (nI l1) w2 = some (1, w3) := b1
    have s2 : fX11_set 2 (nI l2) w3 = some (5, w4) := c1
    have s3 : fX11_set 3 (nI l3) w4 = some (1, w5) := d1
    simp only [fL_lay, ha, bd_some', x2, y2, z2, v2, lw_eq, q0, q1, q2, q3, e1l, hw1, r0, s0, bd2_some', if_true, k2, r1, s1, k3, r2, s2, k4, r3, s3, e1, se, e2]
  · rw [h5 77 3 (by omega), g6, k5, r3, hL3]
  · rw [h5 79 0 (by omega)]; exact (g3 0 (by omega)).2.1
  · refine tc0.fr (FF.tr (g5.tr h4)) (fun i hi k => ?_)
    simp [TLw, T1]; omega
