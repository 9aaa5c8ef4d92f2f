/-! 72: what may come, as the reference lays it out -/
def dlF : Nat → Nat → List Nat
  | 0, _ => []
  | f + 1, t => if t = 0 then [] else dlF f (t / 4) ++ [t % 4 - 1]
def tkF (k : Nat) : Nat → Nat → Bool
  | 0, _ => true
  | f + 1, t => if t = 0 then true else if t % 4 = 0 then false else if t % 4 ≤ k then tkF k f (t / 4) else false
def tmN (t : Nat) : Nat := if t = 0 then 0 else if 4 ≤ t then (if 16 ≤ t then 3 else 2) else 1
theorem dl_1 : ∀ k, k < 4 → ∀ t, t < 64 → tkF k 3 t = true → (∀ x ∈ dlF 3 t, x < k) ∧ tmN t = (dlF 3 t).length ∧ t < 4 ^ (dlF 3 t).length ∧ (dlF 3 t).length ≤ 3 := by decide +kernel
theorem dl_2b : ∀ k, k < 4 → ∀ x, x < 3 → ∀ t, t < 16 → (!(tkF k 3 t) || !(decide (x < k)) || (tkF k 3 (4 * t + x + 1) && (dlF 3 (4 * t + x + 1) == dlF 3 t ++ [x]))) = true := by decide +kernel
theorem dl_2 {k x t : Nat} (hk : k < 4) (hx : x < k) (ht : t < 16) (h : tkF k 3 t = true) : tkF k 3 (4 * t + x + 1) = true ∧ dlF 3 (4 * t + x + 1) = dlF 3 t ++ [x] := by
  have q := dl_2b k hk x (by omega) t ht
  simp only [h, hx, decide_true, Bool.not_true, Bool.false_or, Bool.and_eq_true, beq_iff_eq] at q
  exact q
theorem dl_3 : ∀ a, a < 4 → ∀ t, t < 4 ^ a → (dlF 3 t).length ≤ a := by decide +kernel
theorem modI {t : Nat} (h : t ≤ 1000) : nI t - nI (t / 4) * 4 = nI (t % 4) ∧ nI t / 4 = nI (t / 4) := by
  have e : nI t / 4 = nI (t / 4) := by rw [n4, ndiv (by omega) (by omega) (by omega)]
  refine ⟨?_, e⟩
  rw [n4, nmul, nsub (by omega)]
  congr 1; omega
section
variable {n k : Nat} {J T : Nat → Nat → Nat} {L lost nig : Nat → Nat} {day col left N : Nat} {z till : Int32} {pl : List Nat}
theorem isTaken_ev {w : AW} (h : w.1 0 12 = nI k) (hk : k ≤ 3) (hN : 20 < N) {t : Nat} (ht : t < 64) : fX12_isTaken N (nI t) w = some (if tkF k 3 t = true then 1 else 0) := by
  have key : ∀ f t M, t < 4 ^ f → f ≤ 3 → f < M → wh (lbX12_isTaken_2_1 N w) M (nI t) = some (if tkF k f t = true then Sum.inl () else Sum.inr ()) := by
    intro f
    induction f with
    | zero =>
      intro t M h1 _ h2
      obtain ⟨M, rfl⟩ : ∃ q, M = q + 1 := ⟨M - 1, by omega⟩
      have : t = 0 := by simp at h1; omega
      subst this
      exact wh_out (by simp only [lbX12_isTaken_2_1, show nI 0 = 0 from rfl, if_true, tkF])
    | succ f ih =>
      intro t M h1 hf h2
      obtain ⟨M, rfl⟩ : ∃ q, M = q + 1 := ⟨M - 1, by omega⟩
      have hp : 4 ^ (f + 1) = 4 * 4 ^ f := by rw [Nat.pow_succ, Nat.mul_comm]
      have hb : 4 ^ f ≤ 16 := by
        have : f = 0 ∨ f = 1 ∨ f = 2 := by omega
        rcases this with rfl | rfl | rfl <;> decide
      have ht : t ≤ 1000 := by omega
      obtain ⟨m1, m2⟩ := modI ht
      by_cases h0 : t = 0
      · subst h0
        exact wh_out (by simp only [lbX12_isTaken_2_1, show nI 0 = 0 from rfl, if_true, tkF])
      · have hn0 : ¬ nI t = 0 := by rw [n0, neq (by omega) (by omega)]; exact h0
        by_cases hm : t % 4 = 0
        · refine wh_out ?_
          simp only [lbX12_isTaken_2_1, hn0, if_false, m2, m1, hm, show nI 0 = 0 from rfl, if_true, tkF, h0]
          rfl
        · have hm0 : ¬ nI (t % 4) = 0 := by rw [n0, neq (by omega) (by omega)]; exact hm
          by_cases hle : t % 4 ≤ k
          · rw [wh_step (s' := nI (t / 4)), ih (t / 4) M (by omega) (by omega) (by omega)]
            · simp only [tkF, h0, hm, hle, if_true, if_false]
            · have : nI (t % 4) ≤ nI k := by rw [nle (by omega) (by omega)]; exact hle
              simp only [lbX12_isTaken_2_1, hn0, if_false, m1, hm0, h, this, if_true, m2]
          · refine wh_out ?_
            have : ¬ nI (t % 4) ≤ nI k := by rw [nle (by omega) (by omega)]; exact hle
            simp only [lbX12_isTaken_2_1, hn0, if_false, m2, m1, hm0, h, this, tkF, h0, hm, hle]
            rfl
  have := key 3 t N (by simpa using ht) (by omega) (by omega)
  simp only [fX12_isTaken, this, bd_some']
  split <;> rfl
theorem takenMany_ev {w : AW} {t : Nat} (ht : t < 64) : fX12_takenMany (nI t) w = some (nI (tmN t)) := by
  unfold tmN
  simp (disch := omega) only [fX12_takenMany, n0, n4, n16, neq, nle]
  repeat' split
  all_goals first | rfl | omega
theorem lays_ev (ok : okT k T) (hd : day ≤ 60) : ∀ f t (pre : List Nat) (w : AW) M, t < 4 ^ f → f ≤ 3 → tkF k f t = true → f < M → n + pre.length + (dlF f t).length ≤ 6 → MJs (n + pre.length) (jX n J (typR T day) pre) w → MTy k T z w → w.1 0 5 = nI day →
    ∃ w', wh (lbX12_worthWith_7_1 N) M (nI (n + pre.length), nI t, w) = some (nI (n + (pre ++ (dlF f t).reverse).length), w') ∧ Fr (TOl n) w w' ∧ MJs (n + (pre ++ (dlF f t).reverse).length) (jX n J (typR T day) (pre ++ (dlF f t).reverse)) w' := by
  intro f
  induction f with
  | zero =>
    intro t pre w M h1 _ h2 h3 h4 h5 h6 h7
    obtain ⟨M, rfl⟩ : ∃ q, M = q + 1 := ⟨M - 1, by omega⟩
    have : t = 0 := by simp at h1; omega
    subst this
    refine ⟨w, wh_out ?_, Fr.rf, ?_⟩
    · simp only [lbX12_worthWith_7_1, show nI 0 = 0 from rfl, if_true, dlF, List.reverse_nil, List.append_nil]
    · simp only [dlF, List.reverse_nil, List.append_nil]; exact h5
  | succ f ih =>
    intro t pre w M h1 hf h2 h3 h4 h5 h6 h7
    obtain ⟨M, rfl⟩ : ∃ q, M = q + 1 := ⟨M - 1, by omega⟩
    have hp : 4 ^ (f + 1) = 4 * 4 ^ f := by rw [Nat.pow_succ, Nat.mul_comm]
    have hb : 4 ^ f ≤ 16 := by
      have : f = 0 ∨ f = 1 ∨ f = 2 := by omega
      rcases this with rfl | rfl | rfl <;> decide
    obtain ⟨m1, m2⟩ := modI (t := t) (by omega)
    by_cases h0 : t = 0
    · subst h0
      refine ⟨w, wh_out ?_, Fr.rf, ?_⟩
      · simp only [lbX12_worthWith_7_1, show nI 0 = 0 from rfl, if_true, dlF, List.reverse_nil, List.append_nil]
      · simp only [dlF, if_true, List.reverse_nil, List.append_nil]; exact h5
    · have hn0 : ¬ nI t = 0 := by rw [n0, neq (by omega) (by omega)]; exact h0
      simp only [tkF, h0, if_false] at h2
      by_cases hm : t % 4 = 0
      · rw [if_pos hm] at h2; exact absurd h2 (by decide)
      · rw [if_neg hm] at h2
        by_cases hle : t % 4 ≤ k
        · rw [if_pos hle] at h2
          have hx : t % 4 - 1 < k := by omega
          have hk := ok.1
          have edl : dlF (f + 1) t = dlF f (t / 4) ++ [t % 4 - 1] := by simp only [dlF, h0, if_false]
          rw [edl, List.length_append, List.length_singleton] at h4
          obtain ⟨q0, q1, q2, q3, q4, q5, q6, q7⟩ := ok.2.1 _ hx
          obtain ⟨w2, l1, l2, l3⟩ := lay_ev (k := T 0 (t % 4 - 1)) (s := T 1 (t % 4 - 1)) (c := T 2 (t % 4 - 1)) (b := day + T 3 (t % 4 - 1)) (p := T 4 (t % 4 - 1)) h5 (by omega) q0 q2
          have l2' : Fr (TOl n) w w2 := l2.wd (fun o k q => by
            simp only [TOl, Bool.or_eq_false_iff, Bool.and_eq_false_iff, beq_eq_false_iff_ne, decide_eq_false_iff_not] at q ⊢; omega)
          have l3' : MJs (n + (pre ++ [t % 4 - 1]).length) (jX n J (typR T day) (pre ++ [t % 4 - 1])) w2 := by
            rw [List.length_append, List.length_singleton, ← Nat.add_assoc]
            exact l3.cgr (fun y hy k _ => upJ_X (R := typR T day) (x := t % 4 - 1) y (by omega) k)
          obtain ⟨w3, g1, g2, g3⟩ := ih (t / 4) (pre ++ [t % 4 - 1]) w2 M (by omega) (by omega) h2 (by omega) (by rw [List.length_append, List.length_singleton]; omega) l3' (h6.fr l2' (fun k => rfl) rfl rfl) (by rw [l2'.at' _ rfl]; exact h7)
          have eap : pre ++ (dlF (f + 1) t).reverse = pre ++ [t % 4 - 1] ++ (dlF f (t / 4)).reverse := by
            rw [edl, List.reverse_append, List.reverse_singleton, List.append_assoc]
          rw [eap]
          refine ⟨w3, ?_, l2'.tr g2, g3⟩
          rw [wh_step ?_]
          · exact g1
          · have et : nI (t % 4) - 1 = nI (t % 4 - 1) := by rw [n1, nsub (by omega)]
            have i0 := typeIts_ev ok h6 hx (show 0 < 6 by omega)
            have i1 := typeIts_ev ok h6 hx (show 1 < 6 by omega)
            have i2 := typeIts_ev ok h6 hx (show 2 < 6 by omega)
            have i3 := typeIts_ev ok h6 hx (show 3 < 6 by omega)
            have i4 := typeIts_ev ok h6 hx (show 4 < 6 by omega)
            rw [show nI 0 = 0 from rfl] at i0
            rw [show nI 1 = 1 from rfl] at i1
            rw [show nI 2 = 2 from rfl] at i2
            rw [show nI 3 = 3 from rfl] at i3
            rw [show nI 4 = 4 from rfl] at i4
            simp only [lbX12_worthWith_7_1, hn0, if_false, m1, et, i0, i1, i2, i3, i4, bd_some', h7, nadd, l1, m2]
            rw [show nI (n + pre.length) + 1 = nI (n + (pre ++ [t % 4 - 1]).length) by rw [n1, nadd, List.length_append, List.length_singleton, Nat.add_assoc]]
        · rw [if_neg hle] at h2; exact absurd h2 (by decide)
theorem worthWith_ev {w : AW} (ok : okT k T) (b : bL L lost nig day col left) (bj : bJ n J) (hm : MBd n J L lost nig day col left till pl w) (hT : MTy k T z w) {t : Nat} (ht : t < 64) (hv : tkF k 3 t = true) (hn : n + (dlF 3 t).length ≤ 6) (hN : 800 < N) :
    ∃ w', fX12_worthWith N (nI t) w = some (zI (VX (dyS (sOf L lost nig) day) (L 1) col left (L 2) n J (typR T day) (dlF 3 t)), w') ∧ Fr (TOl n) w w' := by
  have hd := b.2.2.2.2.2.2.2.1
  have hJ0 : MJs (n + ([] : List Nat).length) (jX n J (typR T day) []) w := MJs.cgr (show MJs n J w from hm.1) (fun y hy k _ => by
    show J k y = if y < n then J k y else _
    rw [if_pos (by simpa using hy)])
  obtain ⟨w1, a1, a2, a3⟩ := lays_ev (N := N) (n := n) (J := J) ok hd 3 t [] w N (by simpa using ht) (by omega) hv (by omega) (by simpa using hn) hJ0 hT hm.2.1.2.2.2.1
  rw [List.nil_append, List.length_reverse] at a1 a3
  have M1 := hm.frl a2
  have hk := ok.1
  have hl : ∀ x ∈ (dlF 3 t).reverse, x < k := fun x hx => (dl_1 k (by omega) t ht hv).1 x (List.mem_reverse.mp hx)
  have bjx := bJ_X (l := (dlF 3 t).reverse) bj ok hd hl
  rw [List.length_reverse] at bjx
  obtain ⟨w2, mo, ch, k1, k2, -, k4⟩ := mostOfAll_ev (bb := 6) (bI := -1) (N := N) a3 M1.2.1 b bjx hn (by omega) (neg1_iff hn) hN
  have hmo : mo = VX (dyS (sOf L lost nig) day) (L 1) col left (L 2) n J (typR T day) (dlF 3 t) := by
    have e := congrArg Prod.fst k4
    have e2 := VX_rev (dy := dyS (sOf L lost nig) day) (st := L 1) (c0 := col) (l0 := left) (fine := L 2) (n := n) (J := J) (R := typR T day) (l := dlF 3 t) hn
    exact e.trans e2
  subst hmo
  refine ⟨w2, ?_, a2.tr (k2.wd (fun o k q => TOl_O q))⟩
  simp only [fX12_worthWith, hm.2.2.2.1]
  have a1' : wh (lbX12_worthWith_7_1 N) N (nI n, nI t, w) = some (nI (n + (dlF 3 t).length), w1) := a1
  rw [a1', bd_some']
  simp only [k1, bd2_some']
end
