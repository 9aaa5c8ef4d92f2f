/-! 31: the reference's sums over masks -/
theorem kB_app {dy : Nat → Nat} {st c0 l0 : Nat} {J : Nat → Nat → Nat} {β : Nat → Bool} : ∀ {l l' : List Nat} {u was : Nat}, kB dy st c0 l0 J u was (l ++ l') β = kB dy st c0 l0 J u was l β * kB dy st c0 l0 J (uE st c0 l0 J (RB J β) u was l) (wE J was l) l' β := by
  intro l
  induction l with
  | nil => intro l' u was; simp [kB, uE, wE]
  | cons j l ih => intro l' u was; simp only [List.cons_append, kB, uE, wE, ih, Int.mul_assoc]
theorem wB_app {dy : Nat → Nat} {st c0 l0 fine : Nat} {J : Nat → Nat → Nat} {β : Nat → Bool} : ∀ {l l' : List Nat} {u was : Nat}, wB dy st c0 l0 fine J u was (l ++ l') β = wB dy st c0 l0 fine J u was l β + wB dy st c0 l0 fine J (uE st c0 l0 J (RB J β) u was l) (wE J was l) l' β := by
  intro l
  induction l with
  | nil => intro l' u was; simp [wB, uE, wE]
  | cons j l ih => intro l' u was; simp only [List.cons_append, wB, uE, wE, ih, Int.add_assoc]
theorem kB_lN {dy : Nat → Nat} {st c0 l0 : Nat} {J : Nat → Nat → Nat} {β : Nat → Bool} {l : List Nat} : kB dy st c0 l0 J 0 0 l β = if ltN dy st c0 l0 J (RB J β) (lf l) l.length = 0 then 1 else 0 := by
  have : ∀ i, i ≤ l.length → kB dy st c0 l0 J 0 0 (l.take i) β = if ltN dy st c0 l0 J (RB J β) (lf l) i = 0 then 1 else 0 := by
    intro i
    induction i with
    | zero => intro _; rfl
    | succ i ih =>
      intro h
      obtain ⟨a, b⟩ := uE_take (st := st) (c0 := c0) (l0 := l0) (J := J) (R := RB J β) (l := l) (i := i) (by omega)
      rw [take_one (by omega), kB_app, ih (by omega), a, b]
      simp only [kB, ltN, uN, Int.mul_one]
      by_cases h1 : dy (uB st c0 l0 J (RB J β) (uN st c0 l0 J (RB J β) (lf l) i) (wasN J (lf l) i) (lf l i)) ≤ J 3 (lf l i)
      · simp only [h1, if_true, Int.mul_one, Nat.add_zero]
      · simp only [h1, if_false, Int.mul_zero]
        rw [if_neg (by omega)]
  have := this l.length (Nat.le_refl _)
  rwa [List.take_length] at this
theorem wB_wN {dy : Nat → Nat} {st c0 l0 fine : Nat} {J : Nat → Nat → Nat} {β : Nat → Bool} {l : List Nat} : wB dy st c0 l0 fine J 0 0 l β = wN dy st c0 l0 fine J (RB J β) (lf l) l.length := by
  have : ∀ i, i ≤ l.length → wB dy st c0 l0 fine J 0 0 (l.take i) β = wN dy st c0 l0 fine J (RB J β) (lf l) i := by
    intro i
    induction i with
    | zero => intro _; rfl
    | succ i ih =>
      intro h
      obtain ⟨a, b⟩ := uE_take (st := st) (c0 := c0) (l0 := l0) (J := J) (R := RB J β) (l := l) (i := i) (by omega)
      rw [take_one (by omega), wB_app, ih (by omega), a, b]
      simp only [wB, wN, uN, Int.add_zero]
  have := this l.length (Nat.le_refl _)
  rwa [List.take_length] at this
def oN (odds m : Nat) : Nat → Nat
  | 0 => 1
  | j + 1 => oN odds m j * (if m.testBit j then odds else 4 - odds)
theorem oN_pB {odds m : Nat} (ho : odds ≤ 4) : ∀ n, (oN odds m n : Int) = pB odds (downL n) (fun i => m.testBit i) := by
  intro n
  induction n with
  | zero => rfl
  | succ n ih =>
    simp only [oN, downL, pB, Int.natCast_mul, ih]
    rw [Int.mul_comm]
    congr 1
    unfold oB
    split <;> omega
theorem oN_le {odds m : Nat} (ho : odds ≤ 4) : ∀ n, oN odds m n ≤ 4 ^ n := by
  intro n
  induction n with
  | zero => simp [oN]
  | succ n ih =>
    simp only [oN, Nat.pow_succ]
    exact Nat.mul_le_mul ih (by split <;> omega)
theorem four_le {n : Nat} (h : n ≤ 6) : 4 ^ n ≤ 4096 := by
  have : 4 ^ n ≤ 4 ^ 6 := Nat.pow_le_pow_right (by omega) h
  simpa using this
theorem oftenOf_ev {n m odds N : Nat} {w : AW} (h0 : w.1 0 0 = nI n) (hL : w.1 2 3 = nI odds) (ho : odds ≤ 4) (hn : n ≤ 6) (hm : m < 64) (hN : 10 < N) : fX12_oftenOf N (nI m) w = some (nI (oN odds m n)) := by
  have key := wh_for (body := lbX12_oftenOf_4_1 N (nI m) w) (fun i => (nI (oN odds m i), nI i)) (n := n) (e := nI (oN odds m n)) ?_ ?_ (N := N) (i := 0) (by omega) (by omega)
  · have key' : wh (lbX12_oftenOf_4_1 N (nI m) w) N (1, 0) = some (nI (oN odds m n)) := key
    simp only [fX12_oftenOf, key', lw_eq, bd_some', bd2_some', gd_true]
  · intro i hi
    have h4 : (4 : Int32) - nI odds = nI (4 - odds) := by rw [n4, nsub ho]
    by_cases hb : m.testBit i = true
    · have hb1 : ((nI m >>> (nI i &&& 31)) &&& 1) = 1 := by rw [bt1 hm (by omega)]; exact hb
      rw [lbX12_oftenOf_4_1]
      simp only [hb1, if_true]
      simp (disch := omega) only [n0, n1, n2, n3, n4, n5, n6, n7, n8, n9, n10, n13, n16, n18, n20, n30, n32, n40, n48, n57, n59, n60, n64, n97, n99, n122, n126, n186, n200, n1000000, nadd, nmul, nlt, nle, neq, ntn, gd_n, lw_eq, bd_some', bd2_some', gd_true, h0, hL, if_neg (show ¬ n ≤ i by omega), oN, hb, if_true]
    · have hb1 : ¬ ((nI m >>> (nI i &&& 31)) &&& 1) = 1 := by rw [bt1 hm (by omega)]; exact hb
      rw [lbX12_oftenOf_4_1]
      simp only [hb1, if_false]
      simp (disch := omega) only [h4, n0, n1, n3, nadd, nmul, nle, ntn, lw_eq, bd_some', bd2_some', gd_true, h0, hL, if_neg (show ¬ n ≤ i by omega), oN, hb, Bool.false_eq_true, if_false]
  · simp (disch := omega) only [lbX12_oftenOf_4_1, n0, n1, n2, n3, n4, n5, n6, n7, n8, n9, n10, n13, n16, n18, n20, n30, n32, n40, n48, n57, n59, n60, n64, n97, n99, n122, n126, n186, n200, n1000000, nadd, nmul, nlt, nle, neq, ntn, gd_n, h0, Nat.le_refl, if_true]
theorem Rd_RB {J : Nat → Nat → Nat} {m : Nat} : Rd J m = RB J (fun i => m.testBit i) := by funext j; rfl
theorem two_le {n : Nat} (h : n ≤ 6) : 2 ^ n ≤ 64 := by
  have : 2 ^ n ≤ 2 ^ 6 := Nat.pow_le_pow_right (by omega) h
  simpa using this
theorem sumM_bd {F : (Nat → Bool) → Int} {c : Nat} (h : ∀ m : Nat, 0 ≤ F (fun i => m.testBit i) ∧ F (fun i => m.testBit i) ≤ c) : ∀ k : Nat, 0 ≤ sumM F k ∧ sumM F k ≤ c * k := by
  intro k
  induction k with
  | zero => simp [sumM]
  | succ k ih =>
    have := h k
    simp only [sumM]
    rw [Int.natCast_succ, Int.mul_add, Int.mul_one]
    omega
theorem sumM_ext {F G : (Nat → Bool) → Int} (h : ∀ β, F β = G β) (k : Nat) : sumM F k = sumM G k := by rw [show F = G from funext h]
theorem prm_range {n : Nat} {p : List Nat} (hn : n ≤ 6) (hp : p ∈ prm n 6) : p.Perm (downL n) ∧ p.length = n := by
  have h1 := prm_perm hp
  rw [rmB_all hn] at h1
  exact ⟨h1.trans downL_perm.symm, by rw [h1.length_eq, List.length_range]⟩
theorem sureOf_ev {n : Nat} {J : Nat → Nat → Nat} {L lost nig : Nat → Nat} {day col left N : Nat} {w : AW} {p : List Nat} (hJ : MJs n J w) (hM : MLs L lost nig day col left w) (b : bL L lost nig day col left) (bj : bJ n J) (hn : n ≤ 6) (h0 : w.1 0 0 = nI n) (hN : 300 < N)
    (hp : rowL (w.1 12) p) (hpm : p ∈ prm n 6) :
    ∃ w', fX12_sureOf N w = some (zI (svL (dyS (sOf L lost nig) day) (L 1) col left (L 3) J 0 0 p), w') ∧ Fr TW w w' := by
  obtain ⟨hpp, hpl⟩ := prm_range hn hpm
  have hs0 : sLg (sOf L lost nig) day 0 = sOf L lost nig := by funext d; simp [sLg]
  have h2n := two_le hn
  have h4n := four_le hn
  have ho := b.2.2.2.2.1
  have hsum : svL (dyS (sOf L lost nig) day) (L 1) col left (L 3) J 0 0 p = sumM (fun β => pB (L 3) (downL n) β * kB (dyS (sOf L lost nig) day) (L 1) col left J 0 0 p β) (2 ^ n) := by
    rw [sumM_B, ← sumB_perm hpp, ← sum_sure (prm_nodup hpm)]
    exact sumB_congr (fun β => by rw [pB_perm hpp])
  have hF : ∀ m : Nat, 0 ≤ pB (L 3) (downL n) (fun i => m.testBit i) * kB (dyS (sOf L lost nig) day) (L 1) col left J 0 0 p (fun i => m.testBit i) ∧ pB (L 3) (downL n) (fun i => m.testBit i) * kB (dyS (sOf L lost nig) day) (L 1) col left J 0 0 p (fun i => m.testBit i) ≤ (4096 : Nat) := by
    intro m
    have := oN_le (m := m) ho n
    rw [← oN_pB ho, kB_lN]
    split
    · rw [Int.mul_one]; omega
    · rw [Int.mul_zero]; omega
  have hbd := sumM_bd (F := fun β => pB (L 3) (downL n) β * kB (dyS (sOf L lost nig) day) (L 1) col left J 0 0 p β) hF
  have h0' : ∀ w2, Fr TW w w2 → w2.1 0 0 = nI n := fun w2 hf => by rw [hf.at' _ rfl]; exact h0
  have key := wh_cnt (body := lbX12_sureOf_4_1 N) (n := 2 ^ n)
    (I := fun m s => ∃ w2, s = (zI (sumM (fun β => pB (L 3) (downL n) β * kB (dyS (sOf L lost nig) day) (L 1) col left J 0 0 p β) m), nI m, w2) ∧ Fr TW w w2)
    (Q := fun e => ∃ w2, e = (zI (sumM (fun β => pB (L 3) (downL n) β * kB (dyS (sOf L lost nig) day) (L 1) col left J 0 0 p β) (2 ^ n)), w2) ∧ Fr TW w w2)
    ?_ ?_ (N := N) (i := 0) (s := (0, 0, w)) ⟨w, rfl, Fr.rf⟩ (Nat.zero_le _) (by omega)
  · obtain ⟨e, e1, w2, rfl, e2⟩ := key
    refine ⟨w2, ?_, e2⟩
    simp only [fX12_sureOf, e1, lw_eq, bd_some', bd2_some', gd_true, hsum]
  · rintro m s hm ⟨w2, rfl, hf⟩
    have hm64 : m < 64 := by omega
    have ho2 : w2.1 2 3 = nI (L 3) := by rw [hf.at' _ rfl]; exact hM.1 3 (by omega)
    have hsh : (1 : Int32) <<< (nI n &&& 31) = nI (2 ^ n) := shl1 (by omega)
    have e1 := oftenOf_ev (N := N) (h0' w2 hf) ho2 ho hn hm64 (by omega)
    have hoN := oN_le (m := m) ho n
    by_cases hz : oN (L 3) m n = 0
    · refine ⟨(zI (sumM (fun β => pB (L 3) (downL n) β * kB (dyS (sOf L lost nig) day) (L 1) col left J 0 0 p β) (m + 1)), nI (m + 1), w2), ?_, w2, rfl, hf⟩
      have hz2 : pB (L 3) (downL n) (fun i => m.testBit i) = 0 := by rw [← oN_pB ho, hz]; rfl
      have hsame : sumM (fun β => pB (L 3) (downL n) β * kB (dyS (sOf L lost nig) day) (L 1) col left J 0 0 p β) (m + 1) = sumM (fun β => pB (L 3) (downL n) β * kB (dyS (sOf L lost nig) day) (L 1) col left J 0 0 p β) m := by
        simp only [sumM, hz2, Int.zero_mul, Int.add_zero]
      rw [hsame]
      simp only [lbX12_sureOf_4_1, h0' w2 hf, hsh]
      simp (disch := omega) only [e1, n0, n1, nle, nadd, lw_eq, bd_some', bd2_some', gd_true, if_neg (show ¬ 2 ^ n ≤ m by omega), if_pos (show oN (L 3) m n ≤ 0 by omega)]
    · obtain ⟨w3, g1, g2, g3, g4, g5⟩ := work_ev (tw := m) (lg := 0) (N := N) (hJ.fr hf (fun k => rfl)) (hM.fr hf (fun k => rfl) (fun k => rfl) (fun k => rfl) rfl rfl rfl) b bj hn hm64 (by omega) hN (fun i v h => by rw [hf.at' _ rfl]; exact hp i v h) hpm
      rw [hs0, Rd_RB] at g5
      rw [hpl] at g1 g5
      have hlb := lN_bd (dy := dyS (sOf L lost nig) day) (st := L 1) (c0 := col) (l0 := left) (J := J) (R := RB J fun i => m.testBit i) (p := lf p) n
      refine ⟨(zI (sumM (fun β => pB (L 3) (downL n) β * kB (dyS (sOf L lost nig) day) (L 1) col left J 0 0 p β) (m + 1)), nI (m + 1), w3), ?_, w3, rfl, hf.tr g2⟩
      have hsm := hbd m
      have hnext : sumM (fun β => pB (L 3) (downL n) β * kB (dyS (sOf L lost nig) day) (L 1) col left J 0 0 p β) (m + 1) = sumM (fun β => pB (L 3) (downL n) β * kB (dyS (sOf L lost nig) day) (L 1) col left J 0 0 p β) m + (if ltN (dyS (sOf L lost nig) day) (L 1) col left J (RB J fun i => m.testBit i) (lf p) n = 0 then (oN (L 3) m n : Int) else 0) := by
        simp only [sumM]
        rw [← oN_pB ho, kB_lN, hpl]
        congr 1
        split
        · rw [Int.mul_one]
        · rw [Int.mul_zero]
      rw [hnext]
      have hw : fX12_worksAll N (nI n) (nI m) 0 w2 = some w3 := by
        rw [n0]; simp only [fX12_worksAll, g1, lw_eq, bd_some', bd2_some', gd_true]
      have hg5 : fX12_lateMany N (w3.1 0 0) w3 = some (nI (ltN (dyS (sOf L lost nig) day) (L 1) col left J (RB J fun i => m.testBit i) (lf p) n)) := by rw [h0' w3 (hf.tr g2)]; exact g5
      by_cases hc : ltN (dyS (sOf L lost nig) day) (L 1) col left J (RB J fun i => m.testBit i) (lf p) n = 0
      · rw [if_pos hc, ← zadd, ← zI_nI (oN (L 3) m n)]
        simp only [lbX12_sureOf_4_1, h0' w2 hf, hsh, e1, hw, hg5, hc, lw_eq, bd_some', bd2_some', gd_true]
        rw [if_neg (show ¬ nI (2 ^ n) ≤ nI m by rw [nle (by omega) (by omega)]; omega), if_neg (show ¬ nI (oN (L 3) m n) ≤ 0 by rw [n0, nle (by omega) (by omega)]; omega), if_pos (show nI 0 = 0 from rfl), n1, nadd]
      · rw [if_neg hc, Int.add_zero]
        have hc2 : ¬ nI (ltN (dyS (sOf L lost nig) day) (L 1) col left J (RB J fun i => m.testBit i) (lf p) n) = 0 := by rw [n0, neq (by omega) (by omega)]; exact hc
        simp only [lbX12_sureOf_4_1, h0' w2 hf, hsh, e1, hw, hg5, lw_eq, bd_some', bd2_some', gd_true]
        rw [if_neg (show ¬ nI (2 ^ n) ≤ nI m by rw [nle (by omega) (by omega)]; omega), if_neg (show ¬ nI (oN (L 3) m n) ≤ 0 by rw [n0, nle (by omega) (by omega)]; omega), if_neg hc2, n1, nadd, show (0 : Int32) = zI 0 from rfl, zadd, Int.add_zero]
  · rintro s ⟨w2, rfl, hf⟩
    refine ⟨_, ?_, w2, rfl, hf⟩
    have hsh : (1 : Int32) <<< (nI n &&& 31) = nI (2 ^ n) := shl1 (by omega)
    simp only [lbX12_sureOf_4_1, h0' w2 hf, hsh, Int32.le_refl, if_true]
theorem refMean_ev {n : Nat} {J : Nat → Nat → Nat} {L lost nig : Nat → Nat} {day col left N : Nat} {w : AW} {c1 : Int32} {p : List Nat} (hJ : MJs n J w) (hM : MLs L lost nig day col left w) (b : bL L lost nig day col left) (bj : bJ n J) (hn : n ≤ 6) (h0 : w.1 0 0 = nI n) (hN : 300 < N)
    (hp : rowL (w.1 12) p) (hpm : p ∈ prm n 6) :
    ∃ w', wh (lbX12_mean_19_1 N c1) N (0, 0, w) = some (zI (mvL (dyS (sOf L lost nig) day) (L 1) col left (L 2) (L 3) J 0 0 p), w') ∧ Fr TW w w' := by
  obtain ⟨hpp, hpl⟩ := prm_range hn hpm
  have hs0 : sLg (sOf L lost nig) day 0 = sOf L lost nig := by funext d; simp [sLg]
  have h2n := two_le hn
  have h4n := four_le hn
  have ho := b.2.2.2.2.1
  have hsum : mvL (dyS (sOf L lost nig) day) (L 1) col left (L 2) (L 3) J 0 0 p = sumM (fun β => pB (L 3) (downL n) β * wB (dyS (sOf L lost nig) day) (L 1) col left (L 2) J 0 0 p β) (2 ^ n) := by
    rw [sumM_B, ← sumB_perm hpp, ← sum_mean (prm_nodup hpm)]
    exact sumB_congr (fun β => by rw [pB_perm hpp])
  have h0' : ∀ w2, Fr TW w w2 → w2.1 0 0 = nI n := fun w2 hf => by rw [hf.at' _ rfl]; exact h0
  have hsh : (1 : Int32) <<< (nI n &&& 31) = nI (2 ^ n) := shl1 (by omega)
  have key := wh_cnt (body := lbX12_mean_19_1 N c1) (n := 2 ^ n)
    (I := fun m s => ∃ w2, s = (zI (sumM (fun β => pB (L 3) (downL n) β * wB (dyS (sOf L lost nig) day) (L 1) col left (L 2) J 0 0 p β) m), nI m, w2) ∧ Fr TW w w2)
    (Q := fun e => ∃ w2, e = (zI (sumM (fun β => pB (L 3) (downL n) β * wB (dyS (sOf L lost nig) day) (L 1) col left (L 2) J 0 0 p β) (2 ^ n)), w2) ∧ Fr TW w w2)
    ?_ ?_ (N := N) (i := 0) (s := (0, 0, w)) ⟨w, rfl, Fr.rf⟩ (Nat.zero_le _) (by omega)
  · obtain ⟨e, e1, w2, rfl, e2⟩ := key
    exact ⟨w2, by rw [e1, hsum], e2⟩
  · rintro m s hm ⟨w2, rfl, hf⟩
    have hm64 : m < 64 := by omega
    have ho2 : w2.1 2 3 = nI (L 3) := by rw [hf.at' _ rfl]; exact hM.1 3 (by omega)
    have e1 := oftenOf_ev (N := N) (h0' w2 hf) ho2 ho hn hm64 (by omega)
    obtain ⟨w3, g1, g2, g3, g4, g5⟩ := work_ev (tw := m) (lg := 0) (N := N) (hJ.fr hf (fun k => rfl)) (hM.fr hf (fun k => rfl) (fun k => rfl) (fun k => rfl) rfl rfl rfl) b bj hn hm64 (by omega) hN (fun i v h => by rw [hf.at' _ rfl]; exact hp i v h) hpm
    rw [hs0, Rd_RB] at g4
    rw [hpl] at g1 g4
    have hnext : sumM (fun β => pB (L 3) (downL n) β * wB (dyS (sOf L lost nig) day) (L 1) col left (L 2) J 0 0 p β) (m + 1) = sumM (fun β => pB (L 3) (downL n) β * wB (dyS (sOf L lost nig) day) (L 1) col left (L 2) J 0 0 p β) m + (oN (L 3) m n : Int) * wN (dyS (sOf L lost nig) day) (L 1) col left (L 2) J (RB J fun i => m.testBit i) (lf p) n := by
      simp only [sumM]
      rw [← oN_pB ho, wB_wN, hpl]
    refine ⟨(zI (sumM (fun β => pB (L 3) (downL n) β * wB (dyS (sOf L lost nig) day) (L 1) col left (L 2) J 0 0 p β) (m + 1)), nI (m + 1), w3), ?_, w3, rfl, hf.tr g2⟩
    rw [hnext]
    have hw : fX12_worksAll N (nI n) (nI m) 0 w2 = some w3 := by
      rw [n0]; simp only [fX12_worksAll, g1, lw_eq, bd_some', bd2_some', gd_true]
    have hg4 : fX12_worthAll N (w3.1 0 0) w3 = some (zI (wN (dyS (sOf L lost nig) day) (L 1) col left (L 2) J (RB J fun i => m.testBit i) (lf p) n)) := by rw [h0' w3 (hf.tr g2)]; exact g4
    simp only [lbX12_mean_19_1, h0' w2 hf, hsh, e1, hw, hg4, lw_eq, bd_some', bd2_some', gd_true]
    rw [if_neg (show ¬ nI (2 ^ n) ≤ nI m by rw [nle (by omega) (by omega)]; omega), n1, nadd, zI_nI (oN (L 3) m n), zmul, zadd]
  · rintro s ⟨w2, rfl, hf⟩
    refine ⟨_, ?_, w2, rfl, hf⟩
    simp only [lbX12_mean_19_1, h0' w2 hf, hsh, Int32.le_refl, if_true]
