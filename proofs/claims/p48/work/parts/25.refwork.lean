/-! 25: the reference works an order -/
def MJs (all : Nat) (J : Nat → Nat → Nat) (w : AW) : Prop := ∀ j, j < all → ∀ i, i < 5 → w.1 1 (5 * j + i) = nI (J i j)
def MLs (L lost nig : Nat → Nat) (day col left : Nat) (w : AW) : Prop := (∀ i, i < 4 → w.1 2 i = nI (L i)) ∧ (∀ i, i ≤ 60 → w.1 5 i = nI (lost i)) ∧ (∀ i, i ≤ 60 → w.1 6 i = nI (nig i)) ∧ w.1 0 5 = nI day ∧ w.1 0 6 = nI col ∧ w.1 0 7 = nI left
/-- numbers as told -/
def bL (L lost nig : Nat → Nat) (day col left : Nat) : Prop := 1 ≤ L 0 ∧ L 0 ≤ 4 ∧ L 1 ≤ 3 ∧ L 2 ≤ 99 ∧ L 3 ≤ 4 ∧ (∀ i, i ≤ 60 → lost i ≤ 9) ∧ (∀ i, i ≤ 60 → nig i ≤ 9) ∧ day ≤ 60 ∧ col ≤ 1 ∧ left ≤ 3
def bJ (all : Nat) (J : Nat → Nat → Nat) : Prop := ∀ j, j < all → J 0 j ≤ 5 ∧ 1 ≤ J 1 j ∧ J 1 j ≤ 9 ∧ J 2 j ≤ 1 ∧ J 3 j ≤ 80 ∧ J 4 j ≤ 99
theorem sOf_le {L lost nig : Nat → Nat} {day col left d : Nat} (b : bL L lost nig day col left) : sOf L lost nig d ≤ 13 := by
  obtain ⟨b0, b1, -, -, -, b2, b3, -⟩ := b
  unfold sOf
  split
  · next h => have := b2 d h; have := b3 d h; omega
  · omega
theorem sLg_le {L lost nig : Nat → Nat} {day col left d d0 lg : Nat} (b : bL L lost nig day col left) : sLg (sOf L lost nig) d0 lg d ≤ 14 := by
  have := sOf_le (d := d) b
  unfold sLg; split <;> omega
/-- the day stands at slot u, with so many left -/
def atS (S : Nat → Nat) (d0 u d left : Nat) : Prop := d0 ≤ d ∧ cmS S d0 (d - d0) ≤ u ∧ u + left = cmS S d0 (d - d0 + 1)
theorem atS_0 {S : Nat → Nat} {d0 : Nat} : atS S d0 0 d0 (S d0) := by
  refine ⟨Nat.le_refl _, ?_, ?_⟩ <;> simp [cmS]
theorem atS_next {S : Nat → Nat} {d0 u d : Nat} (h : atS S d0 u d 0) : atS S d0 u (d + 1) (S (d + 1)) := by
  obtain ⟨h1, h2, h3⟩ := h
  refine ⟨by omega, ?_, ?_⟩
  · rw [show d + 1 - d0 = d - d0 + 1 by omega]; omega
  · rw [show d + 1 - d0 = d - d0 + 1 by omega, cmS, show d0 + (d - d0 + 1) = d + 1 by omega]; omega
theorem atS_use {S : Nat → Nat} {d0 u d left : Nat} (h : atS S d0 u d (left + 1)) : atS S d0 (u + 1) d left ∧ isD S d0 (u + 1) d := by
  obtain ⟨h1, h2, h3⟩ := h
  exact ⟨⟨h1, by omega, by omega⟩, h1, by omega, by omega⟩
theorem atS_d {S : Nat → Nat} {d0 u d left : Nat} (h : atS S d0 u d left) (h0 : d0 ≤ 60) (hS : ∀ d, 60 < d → 1 ≤ S d) (hu : u ≤ 126) : d ≤ 187 := by
  obtain ⟨h1, h2, h3⟩ := h
  have := cmS_low h0 hS (d - d0)
  omega
/-- the press of the reference -/
def MP (pc ps : Nat) (w : AW) : Prop := w.1 0 29 = nI pc ∧ w.1 0 30 = nI ps
def TW (o k : Nat) : Bool := (o == 13) || (o == 14) || (o == 0 && (k == 29 || k == 30))
theorem MJs.fr {all : Nat} {J : Nat → Nat → Nat} {w w' : AW} {T : Nat → Nat → Bool} (h : MJs all J w) (f : Fr T w w') (ht : ∀ k, T 1 k = false) : MJs all J w' := fun j hj i hi => by rw [f.at' _ (ht _)]; exact h j hj i hi
theorem MLs.fr {L lost nig : Nat → Nat} {day col left : Nat} {w w' : AW} {T : Nat → Nat → Bool} (h : MLs L lost nig day col left w) (f : Fr T w w') (h2 : ∀ k, T 2 k = false) (h5 : ∀ k, T 5 k = false) (h6 : ∀ k, T 6 k = false) (ha : T 0 5 = false) (hb : T 0 6 = false) (hc : T 0 7 = false) : MLs L lost nig day col left w' := by
  obtain ⟨a, b, c, d, e, g⟩ := h
  refine ⟨fun i hi => ?_, fun i hi => ?_, fun i hi => ?_, ?_, ?_, ?_⟩
  · rw [f.at' _ (h2 _)]; exact a i hi
  · rw [f.at' _ (h5 _)]; exact b i hi
  · rw [f.at' _ (h6 _)]; exact c i hi
  · rw [f.at' _ ha]; exact d
  · rw [f.at' _ hb]; exact e
  · rw [f.at' _ hc]; exact g
def Rd (J : Nat → Nat → Nat) (m j : Nat) : Nat := if m.testBit j then 2 * J 1 j else J 1 j
