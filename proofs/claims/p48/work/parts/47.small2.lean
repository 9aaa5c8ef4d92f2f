/-! 47: more small calls -/
theorem nor (a b : Nat) : nI a ||| nI b = nI (a ||| b) := by
  apply Int32.toBitVec_inj.mp
  rw [Int32.toBitVec_or]
  simp only [nI, Int32.toBitVec_ofNat']
  exact (BitVec.ofNat_or ..).symm
theorem and7 (x : Int32) : ∃ d, d < 8 ∧ x &&& 7 = nI d := by
  refine ⟨x.toBitVec.toNat &&& 7, ?_, ?_⟩
  · exact Nat.lt_of_le_of_lt Nat.and_le_right (by omega)
  · apply Int32.toBitVec_inj.mp
    rw [Int32.toBitVec_and]
    simp only [nI, Int32.toBitVec_ofNat']
    apply BitVec.eq_of_toNat_eq
    rw [BitVec.toNat_and, BitVec.toNat_ofNat, Nat.mod_eq_of_lt]
    · rfl
    · exact Nat.lt_of_le_of_lt Nat.and_le_right (by decide)
/-- lists of one length, the one in the other -/
theorem perm_of_sub : ∀ {l1 l2 : List Nat}, l1.Nodup → (∀ x ∈ l1, x ∈ l2) → l2.length = l1.length → l1.Perm l2 := by
  intro l1
  induction l1 with
  | nil => intro l2 _ _ h; rw [List.length_eq_zero_iff.mp h]
  | cons x t ih =>
    intro l2 hn hs hl
    obtain ⟨h1, h2⟩ := List.nodup_cons.mp hn
    have hx : x ∈ l2 := hs x List.mem_cons_self
    have : t.Perm (l2.erase x) := ih h2 (fun y hy => by
      have hne : y ≠ x := fun q => h1 (q ▸ hy)
      exact (List.mem_erase_of_ne hne).mpr (hs y (List.mem_cons_of_mem _ hy))) (by rw [List.length_erase_of_mem hx, hl]; simp)
    exact (List.Perm.cons x this).trans (List.perm_cons_erase hx).symm
/-- digits to the base 8 -/
def dgt (a : Int32) (i : Nat) : Int32 := (a >>> (nI (3 * i) &&& 31)) &&& 7
def seenD (a : Int32) : Nat → Int32
  | 0 => 0
  | i + 1 => seenD a i ||| (1 <<< (dgt a i &&& 31))
def mskL : List Nat → Nat
  | [] => 0
  | d :: l => 2 ^ d ||| mskL l
theorem mskL_bit {l : List Nat} {j : Nat} : (mskL l).testBit j = true ↔ j ∈ l := by
  induction l with
  | nil => simp [mskL]
  | cons d l ih =>
    simp only [mskL, Nat.testBit_or, Bool.or_eq_true, ih, Nat.testBit_two_pow, List.mem_cons, decide_eq_true_eq]
    constructor
    · rintro (h | h)
      · exact Or.inl h.symm
      · exact Or.inr h
    · rintro (h | h)
      · exact Or.inl h.symm
      · exact Or.inr h
theorem mskL_app {l l' : List Nat} : mskL (l ++ l') = mskL l ||| mskL l' := by
  induction l with
  | nil => simp [mskL]
  | cons d l ih => simp only [List.cons_append, mskL, ih, Nat.or_assoc]
theorem digs (a : Int32) (n : Nat) : ∃ p : List Nat, p.length = n ∧ (∀ i, i < n → dgt a i = nI (lf p i)) ∧ (∀ d ∈ p, d < 8) ∧ seenD a n = nI (mskL p) := by
  induction n with
  | zero => exact ⟨[], rfl, fun i h => by omega, fun d h => by simp at h, rfl⟩
  | succ n ih =>
    obtain ⟨p, h1, h2, h3, h4⟩ := ih
    obtain ⟨d, hd, he⟩ := and7 (a >>> (nI (3 * n) &&& 31))
    refine ⟨p ++ [d], by simp [h1], fun i hi => ?_, fun x hx => ?_, ?_⟩
    · by_cases hin : i = n
      · subst hin
        have : lf (p ++ [d]) i = d := by simp [lf, ← h1]
        rw [this]; exact he
      · rw [h2 i (by omega)]
        have : lf (p ++ [d]) i = lf p i := by
          unfold lf
          rw [List.getD_eq_getElem?_getD, List.getD_eq_getElem?_getD, List.getElem?_append_left (by omega)]
        rw [this]
    · rcases List.mem_append.mp hx with h | h
      · exact h3 x h
      · simp at h; omega
    · have e : dgt a n = nI d := he
      rw [seenD, h4, e, of_decide_eq_true (shl_13 d (by omega)), nor, mskL_app]
      simp [mskL]
theorem plan_loop1C {a : Int32} {n N : Nat} {w : AW} (h0 : w.1 2 0 = nI n) (hn : n ≤ 6) (hN : 20 < N) : wh (lbX1_arrange_24_1 N 1 a w) N (0, 0) = some (seenD a n) := by
  refine wh_for (body := lbX1_arrange_24_1 N 1 a w) (fun i => (seenD a i, nI i)) (n := n) ?_ ?_ (N := N) (i := 0) (Nat.zero_le _) (by omega)
  · intro i hi
    have h3 : (3 : Int32) * nI i = nI (3 * i) := by rw [n3, nmul]
    simp only [lbX1_arrange_24_1, Nat.reduceAdd, h0, lw_eq, h3]
    rw [if_neg (by rw [nle (by omega) (by omega)]; omega), show nI i + 1 = nI (i + 1) by rw [n1, nadd]]
    rfl
  · simp only [lbX1_arrange_24_1, Nat.reduceAdd, h0, Int32.le_refl, if_true]
theorem plan_loop2 {a : Int32} {n N r : Nat} {w : AW} {p : List Nat} {body : (Int32 × AW) → Option ((Int32 × AW) ⊕ AW)} (hd : ∀ i, i < n → dgt a i = nI (lf p i)) (hpl : p.length = n) (hn : n ≤ 6) (hN : 20 < N)
    (hb : ∀ i w1, i < n → Fr (fun o _ => o == r) w w1 → body (nI i, w1) = some (.inl (nI (i + 1), setI w1 r i (dgt a i)))) (he : ∀ w1, Fr (fun o _ => o == r) w w1 → body (nI n, w1) = some (.inr w1)) :
    ∃ w', wh body N (0, w) = some w' ∧ Fr (fun o _ => o == r) w w' ∧ rowL (w'.1 r) p := by
  have key := wh_cnt (body := body) (n := n)
    (I := fun i s => ∃ w1, s = (nI i, w1) ∧ Fr (fun o _ => o == r) w w1 ∧ ∀ k, k < i → w1.1 r k = nI (lf p k))
    (Q := fun w1 => Fr (fun o _ => o == r) w w1 ∧ ∀ k, k < n → w1.1 r k = nI (lf p k))
    ?_ ?_ (N := N) (i := 0) (s := (0, w)) ⟨w, rfl, Fr.rf, fun k hk => by omega⟩ (Nat.zero_le _) (by omega)
  · obtain ⟨w1, e1, e2, e3⟩ := key
    refine ⟨w1, e1, e2, fun i v hv => ?_⟩
    have hi : i < p.length := by rw [List.getElem?_eq_some_iff] at hv; exact hv.1
    rw [e3 i (by omega)]
    rw [getD_some hi] at hv
    exact congrArg nI (Option.some.inj hv)
  · rintro i s hi ⟨w1, rfl, hF, hk⟩
    refine ⟨_, hb i w1 hi hF, _, rfl, hF.tr (Fr.set (by simp)), fun k hk2 => ?_⟩
    by_cases hki : k = i
    · subst hki; simp only [setI1, and_self, if_true]; exact hd k hi
    · simp only [setI1, hki, and_false, if_false]; exact hk k (by omega)
  · rintro s ⟨w1, rfl, hF, hk⟩
    exact ⟨w1, he w1 hF, hF, hk⟩
/-! types -/
theorem sN_pos_le {f : Nat → Nat} {k : Nat} : ∀ j, j ≤ k → sN f j ≤ sN f k := by
  intro j hj
  induction k with
  | zero => have : j = 0 := by omega
            subst this; exact Nat.le_refl _
  | succ k ih =>
    by_cases h : j = k + 1
    · subst h; exact Nat.le_refl _
    · have := ih (by omega); simp only [sN]; omega
