/-! 73: the first half of the law: masks, chances, rows -/
/-- who is late, as a number -/
def lateN (E : Nat → Nat) (J : Nat → Nat → Nat) : Nat → Nat
  | 0 => 0
  | j + 1 => if E j ≤ J 3 j then lateN E J j else lateN E J j ||| (1 <<< j)
theorem late64 {E : Nat → Nat} {J : Nat → Nat → Nat} : ∀ {n : Nat}, n ≤ 6 → lateN E J n < 64 ∧ lteM E J n = nI (lateN E J n) := by
  intro n
  induction n with
  | zero => intro _; exact ⟨by show 0 < 64; omega, rfl⟩
  | succ n ih =>
    intro h
    obtain ⟨i1, i2⟩ := ih (by omega)
    simp only [lateN, lteM]
    split
    · exact ⟨i1, i2⟩
    · rw [i2]
      exact ⟨btlt i1 (by omega), btor i1 (by omega)⟩
theorem late_bit {E : Nat → Nat} {J : Nat → Nat → Nat} : ∀ {n j : Nat}, (lateN E J n).testBit j = decide (j < n ∧ ¬ E j ≤ J 3 j) := by
  intro n
  induction n with
  | zero => intro j; simp [lateN]
  | succ n ih =>
    intro j
    simp only [lateN]
    split
    · next h =>
      rw [ih]
      apply decide_eq_decide.mpr
      constructor
      · rintro ⟨a, b⟩; exact ⟨by omega, b⟩
      · rintro ⟨a, b⟩
        refine ⟨?_, b⟩
        by_cases hq : j = n
        · subst hq; exact absurd h b
        · omega
    · next h =>
      rw [bt_or_test, ih]
      by_cases hq : j = n
      · subst hq; simp [h]
      · simp only [hq, decide_false, Bool.or_false]
        apply decide_eq_decide.mpr
        constructor
        · rintro ⟨a, b⟩; exact ⟨by omega, b⟩
        · rintro ⟨a, b⟩; exact ⟨by omega, b⟩
theorem late_zero {E : Nat → Nat} {J : Nat → Nat → Nat} {n : Nat} (hn : n ≤ 6) : lteM E J n = 0 ↔ ∀ j, j < n → E j ≤ J 3 j := by
  obtain ⟨h1, h2⟩ := late64 (E := E) (J := J) hn
  rw [h2, n0, neq (by omega) (by omega)]
  constructor
  · intro h j hj
    have hb := late_bit (E := E) (J := J) (n := n) (j := j)
    rw [h, Nat.zero_testBit] at hb
    by_cases hc : E j ≤ J 3 j
    · exact hc
    · exact absurd hb.symm (by simp [hj, hc])
  · intro h
    apply Nat.eq_of_testBit_eq
    intro j
    rw [late_bit, Nat.zero_testBit]
    simp only [decide_eq_false_iff_not, not_and]
    intro hj hc
    exact hc (h j hj)
theorem late_one {E : Nat → Nat} {J : Nat → Nat → Nat} {n j : Nat} (hn : n ≤ 6) (hj : j < n) : (lteM E J n >>> (nI j &&& 31)) &&& 1 = nI (if E j ≤ J 3 j then 0 else 1) := by
  obtain ⟨h1, h2⟩ := late64 (E := E) (J := J) hn
  have hb := late_bit (E := E) (J := J) (n := n) (j := j)
  rw [h2]
  split
  · next h =>
    exact (bt0 h1 (by omega)).mpr (by rw [hb]; simp [h])
  · next h =>
    exact (bt1 h1 (by omega)).mpr (by rw [hb]; simp [h, hj])
theorem less_all : ∀ a, a < 64 → ∀ b, b < 64 → (∀ j, j < 6 → a.testBit j = true → b.testBit j = true) → nI a &&& (nI b ^^^ (-1)) = 0 := by decide +kernel
theorem late_less {E E' : Nat → Nat} {J : Nat → Nat → Nat} {n : Nat} (hn : n ≤ 6) (h : ∀ j, j < n → E' j ≤ E j) : lteM E' J n &&& (lteM E J n ^^^ (-1)) = 0 := by
  obtain ⟨h1, h2⟩ := late64 (E := E) (J := J) hn
  obtain ⟨g1, g2⟩ := late64 (E := E') (J := J) hn
  rw [h2, g2]
  refine less_all _ g1 _ h1 (fun j hj => ?_)
  rw [late_bit, late_bit, decide_eq_true_iff, decide_eq_true_iff]
  rintro ⟨a, b⟩
  exact ⟨a, fun c => b (Nat.le_trans (h j a) c)⟩
section
variable {S : SC} {n : Nat} {J : Nat → Nat → Nat} {L lost nig : Nat → Nat} {ch : List Nat} {w : AW} {k : Int32 → Int32 → AW → Option (Int32 × AW)}
theorem p2_bd {t x : Nat} (h : x ≤ t) (ht : t ≤ 12) : 1 ≤ 2 ^ x ∧ 2 ^ x ≤ 4096 := ⟨Nat.one_le_two_pow, Nat.le_trans (Nat.pow_le_pow_right (by omega) (show x ≤ 12 by omega)) (by decide)⟩
theorem b470 (hS : S.1 ≤ 260) (hK : FinK n J L lost nig ch k) (h : LwS n J L lost nig ch w) (hn5 : n ≤ 5) (hfw : few (dyS (sOf L lost nig) 0) (L 1) 0 0 J n ≤ 10000000) :
    ∃ wZ, bL_law1_470 N0 S k (nI n) (zI (bst (dyS (sOf L lost nig) 0) (L 1) 0 0 (L 2) J n).1) (nI (sN (J 4) n)) (nI (few (dyS (sOf L lost nig) 0) (L 1) 0 0 J n)) w = some (1, wZ) := by
  obtain ⟨hn, bj, b, hpp⟩ := id h.1
  obtain ⟨s, s1, s2⟩ := mod_ev (atV S 9) (k := 9) (by omega) (by omega)
  obtain ⟨p, p1, p2⟩ := mod_ev (atV S 9 >>> (4 &&& 31)) (k := 100) (by omega) (by omega)
  obtain ⟨c, c1, c2⟩ := and1 (atV S 9 >>> (11 &&& 31))
  rw [show nI 9 = (9 : Int32) from rfl] at s2
  rw [show nI 100 = (100 : Int32) from rfl] at p2
  have ha : ∀ w, fL_at S 9 w = some (atV S 9) := fun w => at_ev hS (k := 9) (by omega) w
  have hs1 : 1 + nI s = nI (1 + s) := by rw [n1, nadd]
  obtain ⟨w1, a1, a2, a3⟩ := c_mean h.1 h.2.1 1 (by decide)
  have l1 := h.tb a2 a3
  obtain ⟨w2, d1, d2, d3⟩ := c_soonest l1.1 l1.2.1 (by omega) (k := 0) (s := 1 + s) (c := c) (by omega) (by omega) (by omega) c1
  have l2 := l1.tb d2 d3
  obtain ⟨w3, e1, e2, e3⟩ := c_gain l2.1 l2.2.1 (by omega) (k := 0) (s := 1 + s) (c := c) (b' := 60) (pr := p) (by omega) (by omega) (by omega) c1 (by omega) (by omega)
  have l3 := l2.tb e2 e3
  obtain ⟨z, tc⟩ := l3.2.2.2.2.2.2
  obtain ⟨w4, f1, f2, kb⟩ := c_keep l3.1 l3.2.1 tc
  have l4 : LwS n J L lost nig ch w4 := l3.mv f2 l3.1 (l3.2.1.fr f2 (fun i hi k => by simp [T2]; omega)) (fun o k q1 q2 => by simp [T2]; omega) (fun o k q1 => by simp [T2]; omega)
  rw [if_neg (by decide)] at a1
  rw [show nI 0 = (0 : Int32) from rfl] at d1
  rw [show nI 0 = (0 : Int32) from rfl, show nI 60 = (60 : Int32) from rfl] at e1
  have bjp := bJ_up (k := 0) (s := 1 + s) (c := c) (b := 60) (p := p) bj (by omega) (by omega) (by omega) c1 (by omega) (by omega)
  have bj60 := bJ_up (k := 0) (s := 1 + s) (c := c) (b := 60) (p := 0) bj (by omega) (by omega) (by omega) c1 (by omega) (by omega)
  have g0 := gain_le (M := 126) (c0 := 0) (l0 := 0) (monD b) bj b.2.2.2.1 b.2.2.1 (by omega) (by omega) (by omega) bjp
  obtain ⟨-, -, -, t1, t2⟩ := bst_top (dy := (dyS (sOf L lost nig) 0)) (st := L 1) (c0 := 0) (l0 := 0) bj b.2.2.2.1 hn
  obtain ⟨-, -, -, t3, t4⟩ := bst_top (dy := (dyS (sOf L lost nig) 0)) (st := L 1) (c0 := 0) (l0 := 0) bjp b.2.2.2.1 (by omega)
  obtain ⟨wZ, hz⟩ := b600 (s := 1 + s) (c := c) (p := p) (x := atV S 9) hK l4 kb hn5 (by omega) (by omega) c1 (by omega) c2
  have hrd := p2_bd (rdc_le (t := 2 * n) (a := mvL (dyS (sOf L lost nig) 0) (L 1) 0 0 (L 2) (L 3) J 0 0 ch)) (by omega)
  refine ⟨wZ, ?_⟩
  rw [bL_law1_470, a1, bd2_some', if_pos (by rw [n1, nle (by omega) (by omega)]; exact hrd.1), ha, bd_some', s2, bd_some', p2, bd_some', hs1, c2, d1, bd2_some', e1, bd2_some', f1, bd2_some', if_pos rfl]
  rw [if_neg (by rw [zI_nI p, zlt (by omega) (by omega) (by omega) (by omega)]; omega)]
  by_cases h5 : (5 : Int32) ≤ nI n
  · rw [if_pos h5]; exact hz
  · rw [if_neg h5]
    by_cases hso : 60 < soo (dyS (sOf L lost nig) 0) (L 1) 0 0 (L 2) (upJ J n (jR 0 (1 + s) c 60 0)) (n + 1)
    · rw [if_pos hso] at hz ⊢
      rw [if_neg (by decide), bL_law1_578]
      split
      · rw [bL_law1_590, bL_law1_595, if_pos rfl]; exact hz
      · rw [if_pos rfl, bL_law1_590, bL_law1_595, if_pos rfl]; exact hz
    · rw [if_neg hso] at hz ⊢
      obtain ⟨so1, -, -⟩ := soo_facts (n := n) (dy := (dyS (sOf L lost nig) 0)) (st := L 1) (c0 := 0) (l0 := 0) (fine := L 2) (k := 0) (s := 1 + s) (c := c) (M := 126) bj (monD b) b.2.2.1 (by omega) (by omega) (by omega) (fun u h1 h2 => by have := dyS_le b.2.2.2.2.2.2.2.1 (sOf_pos (lost := lost) (nig := nig) b.1) h1 h2; omega) bj60 (by omega)
      rw [so1]
      generalize soo (dyS (sOf L lost nig) 0) (L 1) 0 0 (L 2) (upJ J n (jR 0 (1 + s) c 60 0)) (n + 1) = so at *
      rw [if_pos (by rw [n0, nle (by omega) (by omega)]; omega), bL_law1_578, if_neg (by decide), if_neg (by rw [zI_nI so, show (-3 : Int32) = zI (-3) from rfl, zeq (by omega) (by omega) (by omega) (by omega)]; omega), bL_law1_595, if_pos rfl]
      exact hz
theorem b452 (hS : S.1 ≤ 260) (hK : FinK n J L lost nig ch k) (h : LwS n J L lost nig ch w) (hn5 : n ≤ 5) (hfw : few (dyS (sOf L lost nig) 0) (L 1) 0 0 J n ≤ 10000000) :
    ∃ wZ, bL_law1_452 N0 S k (nI n) (zI (bst (dyS (sOf L lost nig) 0) (L 1) 0 0 (L 2) J n).1) (nI (sN (J 4) n)) (nI (few (dyS (sOf L lost nig) 0) (L 1) 0 0 J n)) w = some (1, wZ) := by
  obtain ⟨hn, bj, b, hpp⟩ := id h.1
  obtain ⟨hpl, hpm, hnd, hall⟩ := perm_facts hpp
  have q3 : (3 : Int32).toNatClampNeg = 3 := rfl
  have hL3 := h.2.2.2.1
  rw [bL_law1_452, q3, hL3]
  by_cases h0 : nI (L 3) = 0
  · rw [if_pos h0]
    have h0' : L 3 = 0 := by rw [n0, neq (by have := b.2.2.2.2.1; omega) (by omega)] at h0; exact h0
    obtain ⟨w1, a1, a2, a3⟩ := c_mean h.1 h.2.1 0 (by decide)
    have l1 := h.tb a2 a3
    obtain ⟨w2, d1, d2, d3⟩ := c_worth l1.1 l1.2.1
    have l2 := l1.tb d2 d3
    obtain ⟨wZ, hz⟩ := b470 hS hK l2 hn5 hfw
    refine ⟨wZ, ?_⟩
    have ew := vL_wN (dy := (dyS (sOf L lost nig) 0)) (st := L 1) (c0 := 0) (l0 := 0) (fine := L 2) (J := J) (l := ch)
    rw [hpl] at ew
    rw [if_pos rfl, h0', mvL_0, hpl, four_two, rdc_whole] at a1
    rw [ew] at d1
    rw [a1, bd2_some', d1, bd2_some', if_pos rfl]
    exact hz
  · rw [if_neg h0]
    exact b470 hS hK h hn5 hfw
theorem b437 (hS : S.1 ≤ 260) (hK : FinK n J L lost nig ch k) (h : LwS n J L lost nig ch w) (hn5 : n ≤ 5) (hfw : few (dyS (sOf L lost nig) 0) (L 1) 0 0 J n ≤ 10000000) {q : Int32} (hq : (q = 1 ∧ okL (dyS (sOf L lost nig) 0) (L 1) 0 0 J 0 0 ch) ∨ (q = 0 ∧ ¬ okL (dyS (sOf L lost nig) 0) (L 1) 0 0 J 0 0 ch)) :
    ∃ wZ, bL_law1_437 N0 S k (nI n) (zI (bst (dyS (sOf L lost nig) 0) (L 1) 0 0 (L 2) J n).1) (nI (sN (J 4) n)) (nI (few (dyS (sOf L lost nig) 0) (L 1) 0 0 J n)) q w = some (1, wZ) := by
  obtain ⟨hn, bj, b, hpp⟩ := id h.1
  obtain ⟨hpl, hpm, hnd, hall⟩ := perm_facts hpp
  obtain ⟨w1, a1, a2, a3⟩ := c_late h.1 h.2.1
  obtain ⟨wZ, hz⟩ := b452 hS hK (h.tb a2 a3) hn5 hfw
  refine ⟨wZ, ?_⟩
  have hl := late_zero (E := fun j => eJ (dyS (sOf L lost nig) 0) (L 1) 0 0 J j ch) (J := J) hn
  have ho : okL (dyS (sOf L lost nig) 0) (L 1) 0 0 J 0 0 ch ↔ ∀ j, j < n → eJ (dyS (sOf L lost nig) 0) (L 1) 0 0 J j ch ≤ J 3 j := by
    rw [okL_eJ hnd]
    exact ⟨fun g j hj => g j (hall j hj), fun g j hj => g j (hpm j hj)⟩
  rw [bL_law1_437, a1, bd2_some']
  rcases hq with ⟨q1, q2⟩ | ⟨q1, q2⟩
  · rw [if_pos (hl.mpr (ho.mp q2)), bL_law1_449, if_pos q1]; exact hz
  · rw [if_neg (fun g => q2 (ho.mpr (hl.mp g))), bL_law1_449, if_pos q1]; exact hz
theorem b370 (hS : S.1 ≤ 260) (hK : FinK n J L lost nig ch k) (h : LwS n J L lost nig ch w) (hn5 : n ≤ 5) (hfw : few (dyS (sOf L lost nig) 0) (L 1) 0 0 J n ≤ 10000000) (q : Int32) :
    ∃ wZ, bL_law1_370 N0 S k (nI n) (zI (bst (dyS (sOf L lost nig) 0) (L 1) 0 0 (L 2) J n).1) (nI (sN (J 4) n)) (nI (few (dyS (sOf L lost nig) 0) (L 1) 0 0 J n)) q q w = some (1, wZ) := by
  obtain ⟨hn, bj, b, hpp⟩ := id h.1
  obtain ⟨hpl, hpm, hnd, hall⟩ := perm_facts hpp
  obtain ⟨w1, a1, a2, a3⟩ := c_sure h.1 h.2.1 0 (by decide)
  have l1 := h.tb a2 a3
  obtain ⟨w2, d1, d2, d3⟩ := c_sure l1.1 l1.2.1 1 (by decide)
  have l2 := l1.tb d2 d3
  obtain ⟨w3, e1, e2, e3, x1, x2⟩ := c_safest l2.1 l2.2.1 1 (Or.inl rfl)
  have l3 := l2.tb e2 e3
  obtain ⟨w4, f1, f2, f3, -, -⟩ := c_safest l3.1 l3.2.1 2 (Or.inr rfl)
  have l4 := l3.tb f2 f3
  have hv := svL_bd (dy := (dyS (sOf L lost nig) 0)) (st := L 1) (c0 := 0) (l0 := 0) (J := J) (l := ch) (u := 0) (was := 0) b.2.2.2.2.1
  have hso := svL_ok (dy := (dyS (sOf L lost nig) 0)) (st := L 1) (c0 := 0) (l0 := 0) (odds := L 3) (M := 126) (l := ch) (u := 0) (u' := 0) (was := 0) (monD b) bj b.2.2.1 (by omega) b.2.2.2.2.1 hpm (Or.inl rfl) (by omega)
  have hos := fun ho => ok_svL (dy := (dyS (sOf L lost nig) 0)) (st := L 1) (c0 := 0) (l0 := 0) (odds := L 3) (J := J) (l := ch) (u := 0) (was := 0) ho
  have hmo := sfe_top (dy := (dyS (sOf L lost nig) 0)) (st := L 1) (c0 := 0) (l0 := 0) (odds := L 3) (J := J) ch (prm_of hn hpp)
  have hmb := sfe_bd (dy := (dyS (sOf L lost nig) 0)) (st := L 1) (c0 := 0) (l0 := 0) (J := J) b.2.2.2.2.1 hn
  have hL3 := l4.2.2.2.1
  rw [hpl, four_two] at hv
  rw [four_two] at hmb
  rw [if_pos rfl] at a1 e1
  rw [if_neg (by decide)] at d1 f1
  rw [show nI 1 = (1 : Int32) from rfl] at e1
  rw [show nI 2 = (2 : Int32) from rfl] at f1
  generalize svL (dyS (sOf L lost nig) 0) (L 1) 0 0 (L 3) J 0 0 ch = v at *
  generalize (sfe (dyS (sOf L lost nig) 0) (L 1) 0 0 (L 3) J n).1 = mo at *
  have y1 := rdc_pos (t := 2 * n) (a := v)
  have y2 := rdc_down hv.2
  have y3 := rdc_le2 (t := 2 * n) hmo
  have y4 := rdc_pos (t := 2 * n) (a := mo)
  have y5 := rdc_down hmb
  have y6 := p2_bd (rdc_le (t := 2 * n) (a := v)) (by omega)
  have y7 := p2_bd (rdc_le (t := 2 * n) (a := mo)) (by omega)
  have c6 : (((2 ^ (rdc v (2 * n)).2 : Nat)) : Int) = (2 : Int) ^ (rdc v (2 * n)).2 := by simp
  have c7 : (((2 ^ (rdc mo (2 * n)).2 : Nat)) : Int) = (2 : Int) ^ (rdc mo (2 * n)).2 := by simp
  have u1 := y1.2 hv.1
  have u2 := y4.2 (by omega)
  rw [← c6] at y2 y3
  rw [← c7] at y5 y3
  generalize (2 ^ (rdc v (2 * n)).2) = d6 at *
  generalize (2 ^ (rdc mo (2 * n)).2) = d7 at *
  generalize (rdc v (2 * n)).1 = a at *
  generalize (rdc mo (2 * n)).1 = m at *
  have m1 : a * (d7 : Int) ≤ 4096 * 4096 := Int.mul_le_mul (by omega) (by omega) (by omega) (by omega)
  have m2 : m * (d6 : Int) ≤ 4096 * 4096 := Int.mul_le_mul (by omega) (by omega) (by omega) (by omega)
  have m3 : 0 ≤ a * (d7 : Int) := Int.mul_nonneg u1 (by omega)
  have m4 : 0 ≤ m * (d6 : Int) := Int.mul_nonneg u2 (by omega)
  rw [bL_law1_370, if_pos rfl, a1, bd2_some', d1, bd2_some']
  rw [if_neg (by rw [show (0 : Int32) = zI 0 from rfl, zlt (by omega) (by omega) (by omega) (by omega)]; omega)]
  rw [if_neg (by rw [zI_nI, zlt (by omega) (by omega) (by omega) (by omega)]; omega)]
  rw [e1, bd2_some', f1, bd2_some']
  rw [if_neg (by rw [zI_nI, zI_nI, zmul, zmul, zlt (by omega) (by omega) (by omega) (by omega)]; omega)]
  rw [show (3 : Int32).toNatClampNeg = 3 from rfl, hL3]
  by_cases h4 : (4 : Int32) ≤ nI (L 3)
  · rw [if_pos h4]; exact b452 hS hK l4 hn5 hfw
  · rw [if_neg h4]
    rw [n4, nle (by omega) (by have := b.2.2.2.2.1; omega)] at h4
    by_cases hz : zI a ≤ 0
    · rw [if_pos hz]
      rw [show (0 : Int32) = zI 0 from rfl, zle (by omega) (by omega) (by omega) (by omega)] at hz
      exact b437 hS hK l4 hn5 hfw (Or.inr ⟨rfl, fun g => by have := hos (by omega) g; have := y1.1.mpr this; omega⟩)
    · rw [if_neg hz]
      rw [show (0 : Int32) = zI 0 from rfl, zle (by omega) (by omega) (by omega) (by omega)] at hz
      exact b437 hS hK l4 hn5 hfw (Or.inl ⟨rfl, hso (y1.1.mp (by omega))⟩)
theorem b348 (hS : S.1 ≤ 260) (hK : FinK n J L lost nig ch k) (h : LwS n J L lost nig ch w) (hn5 : n ≤ 5) (hfw : few (dyS (sOf L lost nig) 0) (L 1) 0 0 J n ≤ 10000000) :
    ∃ wZ, bL_law1_348 N0 S k (nI n) (zI (bst (dyS (sOf L lost nig) 0) (L 1) 0 0 (L 2) J n).1) (nI (sN (J 4) n)) (nI (few (dyS (sOf L lost nig) 0) (L 1) 0 0 J n)) w = some (1, wZ) := by
  obtain ⟨r, w1, a1, a2, a3, a4⟩ := c_nights h.1 h.2.1
  have l1 := h.tb a2 a3
  have hz : nI (few (dyS (sOf L lost nig) 0) (L 1) 0 0 J n) = 0 ↔ few (dyS (sOf L lost nig) 0) (L 1) 0 0 J n = 0 := by rw [n0, neq (by omega) (by omega)]
  rw [bL_law1_348, a1, bd2_some']
  by_cases hr : r = 0
  · rw [if_pos hr, bL_law1_360, if_pos (hz.mpr (a4.mp hr))]
    exact b370 hS hK l1 hn5 hfw 1
  · rw [if_neg hr, bL_law1_360, if_neg (fun g => hr (a4.mpr (hz.mp g)))]
    exact b370 hS hK l1 hn5 hfw 0
end
