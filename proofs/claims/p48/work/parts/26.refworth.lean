/-! 26: the reference works an order: ends, worth, late ones -/
theorem wN_bd {dy : Nat → Nat} {st c0 l0 fine : Nat} {J : Nat → Nat → Nat} {R : Nat → Nat} {p : Nat → Nat} {all m : Nat} (bj : bJ all J) (bf : fine ≤ 99) (hp2 : ∀ i, i < m → p i < all) : ∀ i, i ≤ m → -198 * (i : Int) ≤ wN dy st c0 l0 fine J R p i ∧ wN dy st c0 l0 fine J R p i ≤ 99 * (i : Int) := by
  intro i
  induction i with
  | zero => intro _; simp [wN]
  | succ i ih =>
    intro hi
    have := ih (by omega)
    have b4 := (bj _ (hp2 i (by omega))).2.2.2.2.2
    have v1 := vOf_le (fine := fine) (J := J) (j := p i) (e := dy (uN st c0 l0 J R p (i + 1)))
    have v2 := vOf_ge (fine := fine) (J := J) (j := p i) (e := dy (uN st c0 l0 J R p (i + 1)))
    simp only [wN]
    omega
theorem lN_bd {dy : Nat → Nat} {st c0 l0 : Nat} {J : Nat → Nat → Nat} {R : Nat → Nat} {p : Nat → Nat} : ∀ i, ltN dy st c0 l0 J R p i ≤ i := by
  intro i
  induction i with
  | zero => exact Nat.le_refl _
  | succ i ih => simp only [ltN]; split <;> omega
