/-! 47: more small calls -/
theorem nor (a b : Nat) : nI a ||| nI b = nI (a ||| b) := by
  apply Int32.toBitVec_inj.mp
  rw [Int32.toBitVec_or]
  simp only [nI, Int32.toBitVec_ofNat']
  exact (BitVec.ofNat_or ..).symm
theorem and7 (x : Int32) : ∃ d, d < 8 ∧ x &&& 7 = nI d := by
  refine ⟨x.toBitVec.toNat &&& 7, ?_, ?_⟩
  · exact Nat.lt_of_le_of_lt Nat.and_le_right (by omega)
  · apply Int32.toBitVec_inj.mp
    rw [Int32.toBitVec_and]
    simp only [nI, Int32.toBitVec_ofNat']
    apply BitVec.eq_of_toNat_eq
    rw [BitVec.toNat_and, BitVec.toNat_ofNat, Nat.mod_eq_of_lt]
    · rfl
    · exact Nat.lt_of_le_of_lt Nat.and_le_right (by decide)
/-- lists of one length, the one in the other -/
theorem perm_of_sub : ∀ {l1 l2 : List Nat}, l1.Nodup → (∀ x ∈ l1, x ∈ l2) → l2.length = l1.length → l1.Perm l2 := by
  intro l1
  induction l1 with
  | nil => intro l2 _ _ h; rw [List.length_eq_zero_iff.mp h]
  | cons x t ih =>
    intro l2 hn hs hl
    obtain ⟨h1, h2⟩ := List.nodup_cons.mp hn
    have hx : x ∈ l2 := hs x List.mem_cons_self
    have : t.Perm (l2.erase x) := ih h2 (fun y hy => by
      have hne : y ≠ x := fun q => h1 (q ▸ hy)
      exact (List.mem_erase_of_ne hne).mpr (hs y (List.mem_cons_of_mem _ hy))) (by rw [List.length_erase_of_mem hx, hl]; simp)
    exact (List.Perm.cons x this).trans (List.perm_cons_erase hx).symm
/-- digits to the base 8 -/
def dgt (a : Int32) (i : Nat) : Int32 := (a >>> (nI (3 * i) &&& 31)) &&& 7
def seenD (a : Int32) : Nat → Int32
  | 0 => 0
  | i + 1 => seenD a i ||| (1 <<< (dgt a i &&& 31))
def mskL : List Nat → Nat
  | [] => 0
  | d :: l => 2 ^ d ||| mskL l
theorem mskL_bit {l : List Nat} {j : Nat} : (mskL l).testBit j = true ↔ j ∈ l := by
  induction l with
  | nil => simp [mskL]
  | cons d l ih =>
    simp only [mskL, Nat.testBit_or, Bool.or_eq_true, ih, Nat.testBit_two_pow, List.mem_cons, decide_eq_true_eq]
    constructor
    · rintro (h | h)
      · exact Or.inl h.symm
      · exact Or.inr h
    · rintro (h | h)
      · exact Or.inl h.symm
      · exact Or.inr h
theorem mskL_app {l l' : List Nat} : mskL (l ++ l') = mskL l ||| mskL l' := by
  induction l with
  | nil => simp [mskL]
  | cons d l ih => simp only [List.cons_append, mskL, ih, Nat.or_assoc]
theorem digs (a : Int32) (n : Nat) : ∃ p : List Nat, p.length = n ∧ (∀ i, i < n → dgt a i = nI (lf p i)) ∧ (∀ d ∈ p, d < 8) ∧ seenD a n = nI (mskL p) := by
  induction n with
  | zero => exact ⟨[], rfl, fun i h => by omega, fun d h => by simp at h, rfl⟩
  | succ n ih =>
    obtain ⟨p, h1, h2, h3, h4⟩ := ih
    obtain ⟨d, hd, he⟩ := and7 (a >>> (nI (3 * n) &&& 31))
    refine ⟨p ++ [d], by simp [h1], fun i hi => ?_, fun x hx => ?_, ?_⟩
    · by_cases hin : i = n
      · subst hin
        have : lf (p ++ [d]) i = d := by simp [lf, ← h1]
        rw [this]; exact he
      · rw [h2 i (by omega)]
        have : lf (p ++ [d]) i = lf p i := by
          unfold lf
          rw [List.getD_eq_getElem?_getD, List.getD_eq_getElem?_getD, List.getElem?_append_left (by omega)]
        rw [this]
    · rcases List.mem_append.mp hx with h | h
      · exact h3 x h
      · simp at h; omega
    · have e : dgt a n = nI d := he
      rw [seenD, h4, e, of_decide_eq_true (shl_13 d (by omega)), nor, mskL_app]
      simp [mskL]
theorem plan_loop1C {a : Int32} {n N : Nat} {w : AW} (h0 : w.1 2 0 = nI n) (hn : n ≤ 6) (hN : 20 < N) : wh (lbX1_arrange_24_1 N 1 a w) N (0, 0) = some (seenD a n) := by
  refine wh_for (body := lbX1_arrange_24_1 N 1 a w) (fun i => (seenD a i, nI i)) (n := n) ?_ ?_ (N := N) (i := 0) (Nat.zero_le _) (by omega)
  · intro i hi
    have h3 : (3 : Int32) * nI i = nI (3 * i) := by rw [n3, nmul]
    simp only [lbX1_arrange_24_1, Nat.reduceAdd, h0, lw_eq, h3]
    rw [if_neg (by rw [nle (by omega) (by omega)]; omega), show nI i + 1 = nI (i + 1) by rw [n1, nadd]]
    rfl
  · simp only [lbX1_arrange_24_1, Nat.reduceAdd, h0, Int32.le_refl, if_true]
theorem plan_loop1M {a : Int32} {n N : Nat} {w : AW} (h0 : w.1 0 0 = nI n) (hn : n ≤ 6) (hN : 20 < N) : wh (lbX12_plan_4_1 N a w) N (0, 0) = some (seenD a n) := by
  refine wh_for (body := lbX12_plan_4_1 N a w) (fun i => (seenD a i, nI i)) (n := n) ?_ ?_ (N := N) (i := 0) (Nat.zero_le _) (by omega)
  · intro i hi
    have h3 : (3 : Int32) * nI i = nI (3 * i) := by rw [n3, nmul]
    simp only [lbX12_plan_4_1, h0, lw_eq, h3]
    rw [if_neg (by rw [nle (by omega) (by omega)]; omega), show nI i + 1 = nI (i + 1) by rw [n1, nadd]]
    rfl
  · simp only [lbX12_plan_4_1, h0, Int32.le_refl, if_true]
theorem plan_loop2 {a : Int32} {n N r : Nat} {w : AW} {p : List Nat} {body : (Int32 × AW) → Option ((Int32 × AW) ⊕ AW)} (hd : ∀ i, i < n → dgt a i = nI (lf p i)) (hpl : p.length = n) (hn : n ≤ 6) (hN : 20 < N)
    (hb : ∀ i w1, i < n → Fr (fun o _ => o == r) w w1 → body (nI i, w1) = some (.inl (nI (i + 1), setI w1 r i (dgt a i)))) (he : ∀ w1, Fr (fun o _ => o == r) w w1 → body (nI n, w1) = some (.inr w1)) :
    ∃ w', wh body N (0, w) = some w' ∧ Fr (fun o _ => o == r) w w' ∧ rowL (w'.1 r) p := by
  have key := wh_cnt (body := body) (n := n)
    (I := fun i s => ∃ w1, s = (nI i, w1) ∧ Fr (fun o _ => o == r) w w1 ∧ ∀ k, k < i → w1.1 r k = nI (lf p k))
    (Q := fun w1 => Fr (fun o _ => o == r) w w1 ∧ ∀ k, k < n → w1.1 r k = nI (lf p k))
    ?_ ?_ (N := N) (i := 0) (s := (0, w)) ⟨w, rfl, Fr.rf, fun k hk => by omega⟩ (Nat.zero_le _) (by omega)
  · obtain ⟨w1, e1, e2, e3⟩ := key
    refine ⟨w1, e1, e2, fun i v hv => ?_⟩
    have hi : i < p.length := by rw [List.getElem?_eq_some_iff] at hv; exact hv.1
    rw [e3 i (by omega)]
    rw [getD_some hi] at hv
    exact congrArg nI (Option.some.inj hv)
  · rintro i s hi ⟨w1, rfl, hF, hk⟩
    refine ⟨_, hb i w1 hi hF, _, rfl, hF.tr (Fr.set (by simp)), fun k hk2 => ?_⟩
    by_cases hki : k = i
    · subst hki; simp only [setI1, and_self, if_true]; exact hd k hi
    · simp only [setI1, hki, and_false, if_false]; exact hk k (by omega)
  · rintro s ⟨w1, rfl, hF, hk⟩
    exact ⟨w1, he w1 hF, hF, hk⟩
theorem st_plan {wC wM : AW} (h : Rel wC wM) (a0 : Int32) : ∃ r wC' wM', fX11_plan N0 a0 wC = some (r, wC') ∧ fX12_plan N0 a0 wM = some (r, wM') ∧ Rel wC' wM' := by
  obtain ⟨n, J, L, lost, nig, day, col, left, till, p, ok, hc, hm⟩ := h.1
  have hN := N0_big
  obtain ⟨hn, bj, b, hp⟩ := ok
  have hcn : wC.1 2 0 = nI n := hc.1.1
  have hmn := hm.2.2.2.1
  have lC := plan_loop1C (a := a0) (N := N0) hcn hn (by omega)
  have lM := plan_loop1M (a := a0) (N := N0) hmn hn (by omega)
  have h3n : (3 : Int32) * nI n = nI (3 * n) := by rw [n3, nmul]
  by_cases c1 : a0 < 0
  · exact ⟨-1, wC, wM, by simp only [fX11_plan, fX1_arrange, c1, if_true, bd2_some'], by simp only [fX12_plan, lM, bd_some', c1, if_true], h⟩
  · by_cases c2 : (a0 >>> ((3 * nI n) &&& 31)) = 0
    · by_cases c3 : seenD a0 n = (1 <<< (nI n &&& 31)) - 1
      · obtain ⟨q, q1, q2, q3, q4⟩ := digs a0 n
        have hsh : (1 : Int32) <<< (nI n &&& 31) - 1 = nI (2 ^ n - 1) := by rw [shl1 (by omega), n1, nsub Nat.one_le_two_pow]
        have h2n := two_le hn
        have hmsk : mskL q = 2 ^ n - 1 := by
          have hb : mskL q < 2 ^ 8 := by
            apply Nat.lt_pow_two_of_testBit
            intro i hi
            have : ¬ (mskL q).testBit i = true := fun hh => by
              have := q3 i (mskL_bit.mp hh); omega
            simpa using this
          rw [q4, hsh, neq (by omega) (by omega)] at c3
          exact c3
        have hqp : q.Perm (List.range n) := by
          refine (perm_of_sub List.nodup_range (fun x hx => ?_) (by rw [q1, List.length_range])).symm
          rw [← mskL_bit, hmsk, Nat.testBit_two_pow_sub_one]
          simpa using hx
        obtain ⟨w1, e1, e2, e3⟩ := plan_loop2 (r := 11) (w := wC) (N := N0) (body := lbX1_arrange_73_2 N0 1 a0) q2 q1 hn (by omega) (fun i w1 hi hF => by
          have h0 : w1.1 2 0 = nI n := by rw [hF.at' _ rfl]; exact hcn
          have h3 : (3 : Int32) * nI i = nI (3 * i) := by rw [n3, nmul]
          simp only [lbX1_arrange_73_2, Nat.reduceAdd, h0, lw_eq, h3]
          rw [if_neg (by rw [nle (by omega) (by omega)]; omega), show nI i + 1 = nI (i + 1) by rw [n1, nadd], gd_n (by omega) (by omega), ntn (by omega)]
          rfl) (fun w1 hF => by
          have h0 : w1.1 2 0 = nI n := by rw [hF.at' _ rfl]; exact hcn
          simp only [lbX1_arrange_73_2, Nat.reduceAdd, h0, Int32.le_refl, if_true])
        obtain ⟨w2, k1, k2, k3⟩ := plan_loop2 (r := 7) (w := wM) (N := N0) (body := lbX12_plan_62_2 N0 a0) q2 q1 hn (by omega) (fun i w1 hi hF => by
          have h0 : w1.1 0 0 = nI n := by rw [hF.at' _ rfl]; exact hmn
          have h3 : (3 : Int32) * nI i = nI (3 * i) := by rw [n3, nmul]
          simp only [lbX12_plan_62_2, h0, lw_eq, h3]
          rw [if_neg (by rw [nle (by omega) (by omega)]; omega), show nI i + 1 = nI (i + 1) by rw [n1, nadd], gd_n (by omega) (by omega), ntn (by omega)]
          rfl) (fun w1 hF => by
          have h0 : w1.1 0 0 = nI n := by rw [hF.at' _ rfl]; exact hmn
          simp only [lbX12_plan_62_2, h0, Int32.le_refl, if_true])
        refine ⟨1, w1, w2, ?_, ?_, h.brd e2 k2 (fun o k q q1 => by simp; omega) (fun o k q q1 => ?_) ⟨n, J, L, lost, nig, day, col, left, till, q, ⟨hn, bj, b, hqp⟩, hc.with e2 (fun k => rfl) (fun k => rfl) (fun k => rfl) (fun k _ _ => rfl) (hc.1.fr e2 (fun i hi k => by simp; omega)) e3, hm.1.fr k2 (fun k => rfl), hm.2.1.fr k2 (fun k => rfl) (fun k => rfl) (fun k => rfl) rfl rfl rfl, k3, by rw [k2.at' _ rfl]; exact hmn, by rw [k2.at' _ rfl]; exact hm.2.2.2.2⟩⟩
        · simp only [fX11_plan, fX1_arrange, c1, if_false, Nat.reduceAdd, hcn, c2, if_true, lC, bd_some', c3, e1, bd2_some']
          rw [if_neg (by decide)]
        · simp only [fX12_plan, lM, bd_some', c1, if_false, hmn, c2, if_true, c3, k1]
        · simp only [mB, Bool.or_eq_false_iff, beq_eq_false_iff_ne] at q1
          simp; omega
      · exact ⟨-1, wC, wM, by simp only [fX11_plan, fX1_arrange, c1, if_false, Nat.reduceAdd, hcn, c2, if_true, lC, bd_some', c3, bd2_some'], by simp only [fX12_plan, lM, bd_some', c1, if_false, hmn, c2, if_true, c3], h⟩
    · exact ⟨-1, wC, wM, by simp only [fX11_plan, fX1_arrange, c1, if_false, Nat.reduceAdd, hcn, c2, bd2_some', if_true], by simp only [fX12_plan, lM, bd_some', c1, if_false, hmn, c2], h⟩
theorem st_set {wC wM : AW} (h : Rel wC wM) (a0 a1 : Int32) : ∃ r wC' wM', fX11_set a0 a1 wC = some (r, wC') ∧ fX12_set a0 a1 wM = some (r, wM') ∧ Rel wC' wM' := by
  obtain ⟨n, J, L, lost, nig, day, col, left, till, p, ok, hc, hm⟩ := h.1
  have hcs := h.2.2.2.2.2.2.2
  have h10 : ¬ (1 : Int32) = 0 := by decide
  rcases wI_01 a0 0 3 with hr | hr
  · have hne : ¬ (0 : Int32) = a0 := fun q => by subst q; exact absurd hr (by decide)
    exact ⟨-1, wC, wM, by simp only [fX11_set, within_ev, hr, bd_some', if_true], by simp only [fX12_set, in_ev, hr, bd_some', if_true, hne, if_false], h⟩
  · obtain ⟨l, -, hl, rfl⟩ := wI_nat (lo := 0) (hi := 3) hr (by omega) (by omega)
    obtain ⟨s1, s2⟩ := hcs l (by omega)
    have hg : ∀ {β : Type} {k : Option β}, gd (inb (nI l) 4) k = k := fun {β k} => gd_n (by omega) (by omega)
    have ht : (nI l).toNatClampNeg = l := ntn (by omega)
    rcases wI_01 a1 (leastS l) (mostS l) with hr2 | hr2
    · exact ⟨-1, wC, wM, by simp only [fX11_set, within_ev, hr, bd_some', h10, if_false, hg, ht, hr2, if_true], by simp only [fX12_set, in_ev, hr, bd_some', h10, if_false, if_true, hg, ht, s1, s2, hr2], h⟩
    · obtain ⟨c1, c2, c3, c4, c5, c6, c7, c8, c9⟩ := id hc
      obtain ⟨m1, ⟨m2, m3, m4, m5, m6, m7⟩, m8, m9, m10⟩ := id hm
      obtain ⟨hn, bj, ⟨b1, b2, b3, b4, b5, b6, b7, b8⟩, hp⟩ := ok
      have hm' : ∃ m, a1 = nI m ∧ (l = 0 → 1 ≤ m ∧ m ≤ 4) ∧ (l = 1 → m ≤ 3) ∧ (l = 2 → m ≤ 99) ∧ (l = 3 → m ≤ 4) := by
        have : l = 0 ∨ l = 1 ∨ l = 2 ∨ l = 3 := by omega
        rcases this with rfl | rfl | rfl | rfl
        · obtain ⟨m, q1, q2, q3⟩ := wI_nat (lo := 1) (hi := 4) hr2 (by omega) (by omega)
          exact ⟨m, q3, fun _ => ⟨q1, q2⟩, fun q => by omega, fun q => by omega, fun q => by omega⟩
        · obtain ⟨m, q1, q2, q3⟩ := wI_nat (lo := 0) (hi := 3) hr2 (by omega) (by omega)
          exact ⟨m, q3, fun q => by omega, fun _ => q2, fun q => by omega, fun q => by omega⟩
        · obtain ⟨m, q1, q2, q3⟩ := wI_nat (lo := 0) (hi := 99) hr2 (by omega) (by omega)
          exact ⟨m, q3, fun q => by omega, fun q => by omega, fun _ => q2, fun q => by omega⟩
        · obtain ⟨m, q1, q2, q3⟩ := wI_nat (lo := 0) (hi := 4) hr2 (by omega) (by omega)
          exact ⟨m, q3, fun q => by omega, fun q => by omega, fun q => by omega, fun _ => q2⟩
      obtain ⟨m, rfl, v0, v1, v2, v3⟩ := hm'
      have fC : Fr (fun o _ => o == 8) wC (setI wC 8 l (nI m)) := Fr.set (by simp)
      have fM : Fr (fun o _ => o == 2) wM (setI wM 2 l (nI m)) := Fr.set (by simp)
      have r1 : wC.1 8 l = nI (L l) := c2 l (by omega)
      have r2 := m2 l (by omega)
      refine ⟨nI (L l), _, _, ?_, ?_, h.brd fC fM (fun o k q q1 => by simp; omega) (fun o k q q1 => ?_) ⟨n, J, fun i => if i = l then m else L i, lost, nig, day, col, left, till, p, ⟨hn, bj, ⟨?_, ?_, ?_, ?_, ?_, b6, b7, b8⟩, hp⟩, ⟨c1.fr fC (fun i hi k => by simp; omega), fun i hi => ?_, c3, c4, c5, c6, c7, c8, c9⟩, ⟨m1, ⟨fun i hi => ?_, m3, m4, m5, m6, m7⟩, m8, m9, m10⟩⟩⟩
      · simp only [fX11_set, within_ev, hr, bd_some', h10, if_false, hg, ht, hr2, lw_eq, r1]
      · simp only [fX12_set, in_ev, hr, bd_some', h10, if_false, if_true, hg, ht, s1, s2, hr2, lw_eq, r2]
      · simp only [mB, Bool.or_eq_false_iff, beq_eq_false_iff_ne] at q1
        simp; omega
      · simp only []; split <;> omega
      · simp only []; split <;> omega
      · simp only []; split <;> omega
      · simp only []; split <;> omega
      · simp only []; split <;> omega
      · show (setI wC 8 l (nI m)).1 8 i = _
        by_cases hq : i = l
        · subst hq; simp [setI1]
        · simp only [setI1, hq, and_false, if_false]; exact c2 i hi
      · by_cases hq : i = l
        · subst hq; simp [setI1]
        · simp only [setI1, hq, and_false, if_false]; exact m2 i hi
/-! types -/
theorem Rel.typ {wC wM wC' wM' : AW} {T T' : Nat → Nat → Bool} (h : Rel wC wM) (f : Fr T wC wC') (f' : Fr T' wM wM') (hC : ∀ o k, pC o k = true → (o < 23 ∨ 29 < o) → T o k = false) (hM : ∀ o k, pM o k = true → ¬ (o = 8 ∨ (o = 0 ∧ (k = 12 ∨ k = 14))) → T' o k = false) (hb : RTy wC' wM') : Rel wC' wM' := by
  obtain ⟨h1, h2, h3, h4, h5, h6, h7, h8⟩ := h
  have rm2 : ∀ o k, 18 ≤ o → o ≤ 26 → T' o k = false := fun o k a b => hM o k (by simp [pM, a, b]) (by omega)
  refine ⟨h1.fr f f' (fun o k a b => hC o k (by simp [pC]; omega) (by omega)) (fun o k hk => ?_), hb, h3.fr f f' (hC 0 4 rfl (by omega)) (fun o k a b => hC o k (by simp [pC]; omega) (by omega)) (fun o k a b => hC o k (by simp [pC]; omega) (by omega)) (hM 0 50 rfl (by omega)) (fun k => rm2 26 k (by omega) (by omega)),
    h4.fr f f' (hC 37 1 rfl (by omega)) (fun k => hC 38 k rfl (by omega)) (hM 0 16 rfl (by omega)) (fun k => hM 9 k rfl (by omega)), h5.fr f f' (hC 59 2 rfl (by omega)) (fun k => hC 60 k rfl (by omega)) (hM 0 37 rfl (by omega)) (fun k => rm2 18 k (by omega) (by omega)), h6.fr f f' (fun o k a b => hC o k (by simp [pC, a, b]) (by omega)) (fun o k a b => rm2 o k (by omega) (by omega)), h7.fr f f' (hC 74 5 rfl (by omega)) (fun k => hC 75 k rfl (by omega)) (hM 0 48 rfl (by omega)) (fun k => rm2 25 k (by omega) (by omega)), h8.fr f' (fun k => hM 3 k rfl (by omega)) (fun k => hM 4 k rfl (by omega))⟩
  simp only [mB, Bool.or_eq_true, Bool.and_eq_true, beq_iff_eq] at hk
  exact hM o k (by simp only [pM, Bool.or_eq_true, Bool.and_eq_true, beq_iff_eq, decide_eq_true_eq]; omega) (by omega)
theorem st_seed {wC wM : AW} (h : Rel wC wM) (a0 : Int32) : ∃ r wC' wM', fX11_seed a0 wC = some (r, wC') ∧ fX12_seed a0 wM = some (r, wM') ∧ Rel wC' wM' := by
  obtain ⟨k, T, z, ok, hc, hm⟩ := h.2.1
  obtain ⟨c1, c2, c3⟩ := hc
  obtain ⟨m1, m2, m3⟩ := hm
  have fC : Fr (fun o k => o == 23 && k == 1) wC (setI wC 23 1 a0) := Fr.set (by simp)
  have fM : Fr (fun o k => o == 0 && k == 14) wM (setI wM 0 14 a0) := Fr.set (by simp)
  refine ⟨z, _, _, ?_, ?_, h.typ fC fM (fun o k q q1 => by simp; omega) (fun o k q q1 => by simp; omega) ⟨k, T, a0, ok, ⟨by simp [setI1, c1], by simp [setI1], fun j hj i hi => ?_⟩, ⟨by simp [setI1, m1], by simp [setI1], fun j hj i hi => ?_⟩⟩⟩
  · simp only [fX11_seed, lw_eq, c2]
  · simp only [fX12_seed, lw_eq, m2]
  · rw [fC.at' _ (by simp; omega)]; exact c3 j hj i hi
  · rw [fM.at' _ (by simp)]; exact m3 j hj i hi
theorem sN_pos_le {f : Nat → Nat} {k : Nat} : ∀ j, j ≤ k → sN f j ≤ sN f k := by
  intro j hj
  induction k with
  | zero => have : j = 0 := by omega
            subst this; exact Nat.le_refl _
  | succ k ih =>
    by_cases h : j = k + 1
    · subst h; exact Nat.le_refl _
    · have := ih (by omega); simp only [sN]; omega
theorem oddsC_ev {t k N : Nat} {T : Nat → Nat → Nat} {z : Int32} {w : AW} (ok : okT k T) (h : CTy t k T z w) (hN : 20 < N) : fX10_oddsOfAll N t w = some (nI (sN (T 5) k)) := by
  have key := wh_for (body := lbX10_oddsOfAll_4_1 N t w) (fun i => (nI (sN (T 5) i), nI i)) (n := k) (e := nI (sN (T 5) k)) ?_ ?_ (N := N) (i := 0) (Nat.zero_le _) (by have := ok.1; omega)
  · have key' : wh (lbX10_oddsOfAll_4_1 N t w) N (0, 0) = some (nI (sN (T 5) k)) := key
    simp only [fX10_oddsOfAll, key', lw_eq, bd_some', bd2_some', gd_true]
  · intro i hi
    have := ok.1
    have e : w.1 (t + 6) i = nI (T 5 i) := h.2.2 i hi 5 (by omega)
    simp (disch := omega) only [lbX10_oddsOfAll_4_1, n0, n1, n2, n3, n4, n5, n6, n7, n8, n9, n10, n13, n16, n18, n20, n30, n32, n40, n48, n57, n59, n60, n64, n97, n99, n122, n126, n186, n200, n1000000, nadd, nmul, nlt, nle, neq, ntn, gd_n, lw_eq, bd_some', bd2_some', gd_true, h.1, if_neg (show ¬ k ≤ i by omega), e, sN]
  · have := ok.1
    simp (disch := omega) only [lbX10_oddsOfAll_4_1, h.1, nle, Nat.le_refl, if_true]
theorem typeIts_ev {k : Nat} {T : Nat → Nat → Nat} {z : Int32} {w : AW} (ok : okT k T) (h : MTy k T z w) {j i : Nat} (hj : j < k) (hi : i < 6) : fX12_typeIts (nI j) (nI i) w = some (nI (T i j)) := by
  have := ok.1
  have e := h.2.2 j hj i hi
  simp (disch := omega) only [fX12_typeIts, n0, n1, n2, n3, n4, n5, n6, n7, n8, n9, n10, n13, n16, n18, n20, n30, n32, n40, n48, n57, n59, n60, n64, n97, n99, n122, n126, n186, n200, n1000000, nadd, nmul, nlt, nle, neq, ntn, gd_n, e]
theorem oddsM_ev {k N : Nat} {T : Nat → Nat → Nat} {z : Int32} {w : AW} (ok : okT k T) (h : MTy k T z w) (hN : 20 < N) : fX12_oddsOfTypes N w = some (nI (sN (T 5) k)) := by
  have key := wh_for (body := lbX12_oddsOfTypes_4_1 N w) (fun i => (nI (sN (T 5) i), nI i)) (n := k) (e := nI (sN (T 5) k)) ?_ ?_ (N := N) (i := 0) (Nat.zero_le _) (by have := ok.1; omega)
  · have key' : wh (lbX12_oddsOfTypes_4_1 N w) N (0, 0) = some (nI (sN (T 5) k)) := key
    simp only [fX12_oddsOfTypes, key', lw_eq, bd_some', bd2_some', gd_true]
  · intro i hi
    have := ok.1
    have e := typeIts_ev ok h hi (show 5 < 6 by omega)
    simp (disch := omega) only [lbX12_oddsOfTypes_4_1, n0, n1, n2, n3, n4, n5, n6, n7, n8, n9, n10, n13, n16, n18, n20, n30, n32, n40, n48, n57, n59, n60, n64, n97, n99, n122, n126, n186, n200, n1000000, nadd, nmul, nlt, nle, neq, ntn, gd_n, lw_eq, bd_some', bd2_some', gd_true, h.1, if_neg (show ¬ k ≤ i by omega), e, sN]
  · have := ok.1
    simp (disch := omega) only [lbX12_oddsOfTypes_4_1, h.1, nle, Nat.le_refl, if_true]
theorem st_typeOf {wC wM : AW} (h : Rel wC wM) (a0 a1 : Int32) : ∃ r, fX11_typeOf a0 a1 wC = some r ∧ fX12_typeOf a0 a1 wM = some r := by
  obtain ⟨k, T, z, ok, hc, hm⟩ := h.2.1
  have hk := ok.1
  have h10 : ¬ (1 : Int32) = 0 := by decide
  rcases wI_01 a0 0 (nI k - 1) with hr | hr
  · exact ⟨-1, by simp only [fX11_typeOf, hc.1, within_ev, hr, bd_some', if_true], by simp only [fX12_typeOf, hm.1, in_ev, hr, bd_some', if_true]⟩
  · obtain ⟨j, hj, rfl⟩ := wI_neg (by omega) hr
    have hx : ∀ i, i < 6 → fX12_typeIts (nI j) (nI i) wM = some (nI (T i j)) := fun i hi => typeIts_ev ok hm hj hi
    have hy : ∀ i, i < 6 → wC.1 (24 + i) j = nI (T i j) := fun i hi => by
      have := hc.2.2 j hj i hi; rwa [show 23 + 1 + i = 24 + i by omega] at this
    have hg : ∀ {β : Type} {k : Option β}, gd (inb (nI j) 3) k = k := fun {β k} => gd_n (by omega) (by omega)
    have ht : (nI j).toNatClampNeg = j := ntn (by omega)
    simp only [fX11_typeOf, fX12_typeOf, hc.1, hm.1, within_ev, in_ev, hr, bd_some', h10, if_false, hg, ht]
    rcases wI_01 a1 0 5 with hw | hw
    · refine ⟨-1, ?_, ?_⟩
      · have ne : ∀ i : Nat, i ≤ 5 → ¬ a1 = nI i := fun i hi q => by
          subst q
          have := wI_of (m := i) (lo := 0) (hi := 5) (by omega) hi (by omega)
          rw [show nI 0 = 0 from rfl, show nI 5 = 5 from rfl, hw] at this
          exact absurd this (by decide)
        rw [if_neg (show ¬ a1 = (0 : Int32) from ne 0 (by omega)), if_neg (show ¬ a1 = (1 : Int32) from ne 1 (by omega)), if_neg (show ¬ a1 = (2 : Int32) from ne 2 (by omega)), if_neg (show ¬ a1 = (3 : Int32) from ne 3 (by omega)), if_neg (show ¬ a1 = (4 : Int32) from ne 4 (by omega)), if_neg (show ¬ a1 = (5 : Int32) from ne 5 (by omega))]
      · simp only [hw, if_true]
    · obtain ⟨i, -, hi, rfl⟩ := wI_nat (lo := 0) (hi := 5) hw (by omega) (by omega)
      refine ⟨nI (T i j), ?_, ?_⟩
      · have : i = 0 ∨ i = 1 ∨ i = 2 ∨ i = 3 ∨ i = 4 ∨ i = 5 := by omega
        rcases this with rfl | rfl | rfl | rfl | rfl | rfl
        · rw [if_pos (show nI 0 = (0 : Int32) from rfl)]; exact congrArg some (hy 0 (by omega))
        · rw [if_neg (by decide), if_pos (show nI 1 = (1 : Int32) from rfl)]; exact congrArg some (hy 1 (by omega))
        · rw [if_neg (by decide), if_neg (by decide), if_pos (show nI 2 = (2 : Int32) from rfl)]; exact congrArg some (hy 2 (by omega))
        · rw [if_neg (by decide), if_neg (by decide), if_neg (by decide), if_pos (show nI 3 = (3 : Int32) from rfl)]; exact congrArg some (hy 3 (by omega))
        · rw [if_neg (by decide), if_neg (by decide), if_neg (by decide), if_neg (by decide), if_pos (show nI 4 = (4 : Int32) from rfl)]; exact congrArg some (hy 4 (by omega))
        · rw [if_neg (by decide), if_neg (by decide), if_neg (by decide), if_neg (by decide), if_neg (by decide), if_pos (show nI 5 = (5 : Int32) from rfl)]; exact congrArg some (hy 5 (by omega))
      · simp only [hw, h10, if_false, hx i (by omega), bd_some']
