/-! 36: the reference's SAFEST, FEWEST, SOONEST, NIGHTS -/
def lowG (f : List Nat → Nat) (b : Nat) (p : List Nat) : Nat := if f p < b then f p else b
/-- the day on which job n ends, by an order -/
def eJ (dy : Nat → Nat) (st c0 l0 : Nat) (J : Nat → Nat → Nat) (n : Nat) (p : List Nat) : Nat := dy (uN st c0 l0 J (J 1) (lf p) (p.idxOf n + 1))
def soonG (e : List Nat → Nat) (l : List Nat → Nat) (b : Int) (p : List Nat) : Int := if l p = 0 ∧ (b < 0 ∨ (e p : Int) < b) then (e p : Int) else b
theorem lf_idxOf {p : List Nat} {n : Nat} (h : n ∈ p) : p.idxOf n < p.length ∧ lf p (p.idxOf n) = n := by
  have h1 : p.idxOf n < p.length := List.idxOf_lt_length_iff.mpr h
  refine ⟨h1, ?_⟩
  have := getD_some h1
  rw [List.getElem?_eq_getElem h1, List.getElem_idxOf h1] at this
  exact (Option.some.inj this).symm
theorem dy_le {L lost nig : Nat → Nat} {day col left n : Nat} {J : Nat → Nat → Nat} {p : List Nat} {i : Nat} (b : bL L lost nig day col left) (bj : bJ n J) (hn : n ≤ 6) (hpl : p.length ≤ 6) (hpm : ∀ j ∈ p, j < n) (hi : i < p.length) : dyS (sOf L lost nig) day (uN (L 1) col left J (J 1) (lf p) (i + 1)) ≤ 186 := by
  have h1 : ∀ k, k < p.length → J 1 (lf p k) ≤ 18 := fun k hk => by
    have := bj _ (hpm _ (getD_mem (l := p) hk))
    unfold lf; omega
  have := uN_le (st := L 1) (c0 := col) (l0 := left) (J := J) h1 b.2.2.1 b.2.2.2.2.2.2.2.2.2 (i + 1) (by omega)
  exact dyS_le (d0 := day) b.2.2.2.2.2.2.2.1 (sOf_pos (lost := lost) (nig := nig) b.1) (uN_pos (bj _ (hpm _ (getD_mem (l := p) hi))).2.1) (by omega)
