/-! 40: the two worlds, side by side -/
/-- a board of the program, at cell b -/
def CBd (b n : Nat) (J : Nat → Nat → Nat) (L lost nig : Nat → Nat) (day col left : Nat) (till : Int32) (p : List Nat) (w : AW) : Prop :=
  CJo (b + 1) n J w ∧ (∀ i, i < 4 → w.1 (b + 7) i = nI (L i)) ∧ (∀ i, i ≤ 60 → w.1 (b + 8) i = nI (lost i)) ∧ (∀ i, i ≤ 60 → w.1 (b + 9) i = nI (nig i)) ∧ rowL (w.1 (b + 10)) p
    ∧ w.1 b 5 = nI day ∧ w.1 b 6 = nI col ∧ w.1 b 7 = nI left ∧ w.1 b 8 = till
/-- the board of the reference -/
def MBd (n : Nat) (J : Nat → Nat → Nat) (L lost nig : Nat → Nat) (day col left : Nat) (till : Int32) (p : List Nat) (w : AW) : Prop :=
  MJs n J w ∧ MLs L lost nig day col left w ∧ rowL (w.1 7) p ∧ w.1 0 0 = nI n ∧ w.1 0 8 = till
/-- the kept board of the reference -/
def MKb (n : Nat) (J : Nat → Nat → Nat) (L lost nig : Nat → Nat) (day col left : Nat) (till : Int32) (p : List Nat) (w : AW) : Prop :=
  (∀ j, j < n → ∀ i, i < 5 → w.1 26 (7 + (5 * j + i)) = nI (J i j)) ∧ (∀ i, i < 4 → w.1 26 (57 + i) = nI (L i)) ∧ (∀ i, i ≤ 60 → w.1 26 (61 + i) = nI (lost i)) ∧ (∀ i, i ≤ 60 → w.1 26 (122 + i) = nI (nig i))
    ∧ (∀ i v, p[i]? = some v → w.1 26 (183 + i) = nI v) ∧ w.1 26 0 = nI n ∧ w.1 26 1 = nI day ∧ w.1 26 2 = nI col ∧ w.1 26 3 = nI left ∧ w.1 26 4 = till
def okB (n : Nat) (J : Nat → Nat → Nat) (L lost nig : Nat → Nat) (day col left : Nat) (p : List Nat) : Prop := n ≤ 6 ∧ bJ n J ∧ bL L lost nig day col left ∧ p.Perm (List.range n)
def CTy (t k : Nat) (T : Nat → Nat → Nat) (z : Int32) (w : AW) : Prop := w.1 t 0 = nI k ∧ w.1 t 1 = z ∧ ∀ j, j < k → ∀ i, i < 6 → w.1 (t + 1 + i) j = nI (T i j)
def MTy (k : Nat) (T : Nat → Nat → Nat) (z : Int32) (w : AW) : Prop := w.1 0 12 = nI k ∧ w.1 0 14 = z ∧ ∀ j, j < k → ∀ i, i < 6 → w.1 8 (6 * j + i) = nI (T i j)
def MKt (k : Nat) (T : Nat → Nat → Nat) (z : Int32) (w : AW) : Prop := w.1 26 5 = nI k ∧ w.1 26 6 = z ∧ ∀ j, j < k → ∀ i, i < 6 → w.1 26 (191 + (6 * j + i)) = nI (T i j)
def okT (k : Nat) (T : Nat → Nat → Nat) : Prop := k ≤ 3 ∧ (∀ j, j < k → T 0 j ≤ 5 ∧ 1 ≤ T 1 j ∧ T 1 j ≤ 9 ∧ T 2 j ≤ 1 ∧ T 3 j ≤ 20 ∧ T 4 j ≤ 99 ∧ 1 ≤ T 5 j ∧ T 5 j ≤ 4) ∧ sN (T 5) k ≤ 4
def RBd (wC wM : AW) : Prop := ∃ n J L lost nig day col left till p, okB n J L lost nig day col left p ∧ CBd 1 n J L lost nig day col left till p wC ∧ MBd n J L lost nig day col left till p wM
def RTy (wC wM : AW) : Prop := ∃ k T z, okT k T ∧ CTy 23 k T z wC ∧ MTy k T z wM
def RKp (wC wM : AW) : Prop := (wC.1 0 4 = 0 ∧ wM.1 0 50 = 0) ∨ (wC.1 0 4 = 1 ∧ wM.1 0 50 = 1 ∧ (∃ n J L lost nig day col left till p, okB n J L lost nig day col left p ∧ CBd 12 n J L lost nig day col left till p wC ∧ MKb n J L lost nig day col left till p wM) ∧ (∃ k T z, okT k T ∧ CTy 30 k T z wC ∧ MKt k T z wM))
/-- a byte, as the program holds it -/
def sB (y : Nat) : Int32 := zI (if y < 128 then (y : Int) else (y : Int) - 256)
def RTp (wC wM : AW) : Prop := ∃ (c : Nat) (Y : Nat → Nat), c ≤ 200 ∧ (∀ i, Y i < 256) ∧ wC.1 37 1 = nI c ∧ wM.1 0 16 = nI c ∧ (∀ i, i < c → wC.1 38 i = sB (Y i)) ∧ (∀ i, i < c → wM.1 9 i = nI (Y i))
def RRw (wC wM : AW) : Prop := ∃ m, m ≤ 6 ∧ wC.1 59 2 = nI m ∧ wM.1 0 37 = nI m ∧ ∀ k, k < 18 → wC.1 60 k = wM.1 18 k
def shH (hC s1 n1 hM n2 s2 : Int32) : Prop := (hC = 0 ∧ hM = -1) ∨ (hC = 1 ∧ hM = 0 ∧ n1 = n2) ∨ (hC = 2 ∧ hM = 1 ∧ s1 = n2 ∧ n1 = s2 ∧ ∃ s : Nat, s ≤ 3 ∧ n2 = nI s)
def RSh (wC wM : AW) : Prop := (∀ i, i < 4 → ∃ (s : Int) (z : Nat), -1 ≤ s ∧ s ≤ 3 ∧ z ≤ 40 ∧ wC.1 68 i = zI s ∧ wM.1 19 i = zI s ∧ wC.1 69 i = nI z ∧ wM.1 20 i = nI z) ∧ (∀ k, k < 160 → wC.1 70 k = (wM.2 21 k).toInt32)
  ∧ (∀ i, i < 4 → shH (wC.1 71 i) (wC.1 72 i) (wC.1 73 i) (wM.1 22 i) (wM.1 23 i) (wM.1 24 i))
def RTh (wC wM : AW) : Prop := ∃ r, r ≤ 30 ∧ wC.1 74 5 = nI r ∧ wM.1 0 48 = nI r ∧ ∀ i, i < r → wC.1 75 i = wM.1 25 i
def RCs (wM : AW) : Prop := ∀ i, i < 4 → wM.1 3 i = leastS i ∧ wM.1 4 i = mostS i
/-! what stays, if its cells stay -/
def mB (o k : Nat) : Bool := o == 1 || o == 2 || o == 5 || o == 6 || o == 7 || (o == 0 && (k == 0 || k == 5 || k == 6 || k == 7 || k == 8))
theorem CBd.fr {b n : Nat} {J : Nat → Nat → Nat} {L lost nig : Nat → Nat} {day col left : Nat} {till : Int32} {p : List Nat} {w w' : AW} {T : Nat → Nat → Bool} (h : CBd b n J L lost nig day col left till p w) (f : Fr T w w') (ht : ∀ i, i < 11 → ∀ k, T (b + i) k = false) : CBd b n J L lost nig day col left till p w' := by
  obtain ⟨h1, h2, h3, h4, h5, h6, h7, h8, h9⟩ := h
  refine ⟨h1.fr f (fun i hi k => ?_), fun i hi => ?_, fun i hi => ?_, fun i hi => ?_, fun i v hv => ?_, ?_, ?_, ?_, ?_⟩
  · rw [show b + 1 + i = b + (1 + i) by omega]; exact ht _ (by omega) k
  · rw [f.at' _ (ht 7 (by omega) i)]; exact h2 i hi
  · rw [f.at' _ (ht 8 (by omega) i)]; exact h3 i hi
  · rw [f.at' _ (ht 9 (by omega) i)]; exact h4 i hi
  · rw [f.at' _ (ht 10 (by omega) i)]; exact h5 i v hv
  · rw [f.at' _ (show T b 5 = false from ht 0 (by omega) 5)]; exact h6
  · rw [f.at' _ (show T b 6 = false from ht 0 (by omega) 6)]; exact h7
  · rw [f.at' _ (show T b 7 = false from ht 0 (by omega) 7)]; exact h8
  · rw [f.at' _ (show T b 8 = false from ht 0 (by omega) 8)]; exact h9
theorem MBd.fr {n : Nat} {J : Nat → Nat → Nat} {L lost nig : Nat → Nat} {day col left : Nat} {till : Int32} {p : List Nat} {w w' : AW} {T : Nat → Nat → Bool} (h : MBd n J L lost nig day col left till p w) (f : Fr T w w') (ht : ∀ o k, mB o k = true → T o k = false) : MBd n J L lost nig day col left till p w' := by
  obtain ⟨h1, h2, h3, h4, h5⟩ := h
  refine ⟨h1.fr f (fun k => ht 1 k rfl), h2.fr f (fun k => ht 2 k rfl) (fun k => ht 5 k rfl) (fun k => ht 6 k rfl) (ht 0 5 rfl) (ht 0 6 rfl) (ht 0 7 rfl), fun i v hv => ?_, ?_, ?_⟩
  · rw [f.at' _ (ht 7 i rfl)]; exact h3 i v hv
  · rw [f.at' _ (ht 0 0 rfl)]; exact h4
  · rw [f.at' _ (ht 0 8 rfl)]; exact h5
theorem MKb.fr {n : Nat} {J : Nat → Nat → Nat} {L lost nig : Nat → Nat} {day col left : Nat} {till : Int32} {p : List Nat} {w w' : AW} {T : Nat → Nat → Bool} (h : MKb n J L lost nig day col left till p w) (f : Fr T w w') (ht : ∀ k, T 26 k = false) : MKb n J L lost nig day col left till p w' := by
  have e : ∀ k, w'.1 26 k = w.1 26 k := fun k => f.at' k (ht k)
  unfold MKb
  simp only [e]
  exact h
theorem CTy.fr {t k : Nat} {T0 : Nat → Nat → Nat} {z : Int32} {w w' : AW} {T : Nat → Nat → Bool} (h : CTy t k T0 z w) (f : Fr T w w') (ht : ∀ i, i < 7 → ∀ k, T (t + i) k = false) : CTy t k T0 z w' := by
  obtain ⟨h1, h2, h3⟩ := h
  refine ⟨by rw [f.at' _ (show T t 0 = false from ht 0 (by omega) 0)]; exact h1, by rw [f.at' _ (show T t 1 = false from ht 0 (by omega) 1)]; exact h2, fun j hj i hi => ?_⟩
  rw [f.at' _ (by rw [show t + 1 + i = t + (1 + i) by omega]; exact ht _ (by omega) j)]
  exact h3 j hj i hi
theorem MTy.fr {k : Nat} {T0 : Nat → Nat → Nat} {z : Int32} {w w' : AW} {T : Nat → Nat → Bool} (h : MTy k T0 z w) (f : Fr T w w') (h8 : ∀ k, T 8 k = false) (ha : T 0 12 = false) (hb : T 0 14 = false) : MTy k T0 z w' := by
  obtain ⟨h1, h2, h3⟩ := h
  exact ⟨by rw [f.at' _ ha]; exact h1, by rw [f.at' _ hb]; exact h2, fun j hj i hi => by rw [f.at' _ (h8 _)]; exact h3 j hj i hi⟩
theorem MKt.fr {k : Nat} {T0 : Nat → Nat → Nat} {z : Int32} {w w' : AW} {T : Nat → Nat → Bool} (h : MKt k T0 z w) (f : Fr T w w') (ht : ∀ k, T 26 k = false) : MKt k T0 z w' := by
  have e : ∀ k, w'.1 26 k = w.1 26 k := fun k => f.at' k (ht k)
  unfold MKt
  simp only [e]
  exact h
section
variable {wC wM wC' wM' : AW} {T T' : Nat → Nat → Bool}
theorem RBd.fr (h : RBd wC wM) (f : Fr T wC wC') (f' : Fr T' wM wM') (hC : ∀ o k, 1 ≤ o → o ≤ 11 → T o k = false) (hM : ∀ o k, mB o k = true → T' o k = false) : RBd wC' wM' := by
  obtain ⟨n, J, L, lost, nig, day, col, left, till, p, h1, h2, h3⟩ := h
  exact ⟨n, J, L, lost, nig, day, col, left, till, p, h1, h2.fr f (fun i hi k => hC _ k (by omega) (by omega)), h3.fr f' hM⟩
theorem RTy.fr (h : RTy wC wM) (f : Fr T wC wC') (f' : Fr T' wM wM') (hC : ∀ o k, 23 ≤ o → o ≤ 29 → T o k = false) (h8 : ∀ k, T' 8 k = false) (ha : T' 0 12 = false) (hb : T' 0 14 = false) : RTy wC' wM' := by
  obtain ⟨k, T0, z, h1, h2, h3⟩ := h
  exact ⟨k, T0, z, h1, h2.fr f (fun i hi k => hC _ k (by omega) (by omega)), h3.fr f' h8 ha hb⟩
theorem RKp.fr (h : RKp wC wM) (f : Fr T wC wC') (f' : Fr T' wM wM') (h0 : T 0 4 = false) (hC : ∀ o k, 12 ≤ o → o ≤ 22 → T o k = false) (hC2 : ∀ o k, 30 ≤ o → o ≤ 36 → T o k = false) (h50 : T' 0 50 = false) (h26 : ∀ k, T' 26 k = false) : RKp wC' wM' := by
  have e1 : wC'.1 0 4 = wC.1 0 4 := f.at' _ h0
  have e2 : wM'.1 0 50 = wM.1 0 50 := f'.at' _ h50
  unfold RKp
  rw [e1, e2]
  rcases h with h | ⟨h1, h2, ⟨n, J, L, lost, nig, day, col, left, till, p, h3, h4, h5⟩, k, T0, z, h6, h7, h8⟩
  · exact Or.inl h
  · exact Or.inr ⟨h1, h2, ⟨n, J, L, lost, nig, day, col, left, till, p, h3, h4.fr f (fun i hi k => hC _ k (by omega) (by omega)), h5.fr f' h26⟩, k, T0, z, h6, h7.fr f (fun i hi k => hC2 _ k (by omega) (by omega)), h8.fr f' h26⟩
theorem RTp.fr (h : RTp wC wM) (f : Fr T wC wC') (f' : Fr T' wM wM') (h1 : T 37 1 = false) (h2 : ∀ k, T 38 k = false) (h3 : T' 0 16 = false) (h4 : ∀ k, T' 9 k = false) : RTp wC' wM' := by
  obtain ⟨c, Y, a1, a2, a3, a4, a5, a6⟩ := h
  exact ⟨c, Y, a1, a2, by rw [f.at' _ h1]; exact a3, by rw [f'.at' _ h3]; exact a4, fun i hi => by rw [f.at' _ (h2 i)]; exact a5 i hi, fun i hi => by rw [f'.at' _ (h4 i)]; exact a6 i hi⟩
theorem RRw.fr (h : RRw wC wM) (f : Fr T wC wC') (f' : Fr T' wM wM') (h1 : T 59 2 = false) (h2 : ∀ k, T 60 k = false) (h3 : T' 0 37 = false) (h4 : ∀ k, T' 18 k = false) : RRw wC' wM' := by
  obtain ⟨m, a1, a2, a3, a4⟩ := h
  exact ⟨m, a1, by rw [f.at' _ h1]; exact a2, by rw [f'.at' _ h3]; exact a3, fun k hk => by rw [f.at' _ (h2 k), f'.at' _ (h4 k)]; exact a4 k hk⟩
theorem RSh.fr (h : RSh wC wM) (f : Fr T wC wC') (f' : Fr T' wM wM') (hC : ∀ o k, 68 ≤ o → o ≤ 73 → T o k = false) (hM : ∀ o k, 19 ≤ o → o ≤ 24 → T' o k = false) : RSh wC' wM' := by
  obtain ⟨a1, a2, a3⟩ := h
  have eC : ∀ o k, 68 ≤ o → o ≤ 73 → wC'.1 o k = wC.1 o k := fun o k h1 h2 => f.at' k (hC o k h1 h2)
  have eM : ∀ o k, 19 ≤ o → o ≤ 24 → wM'.1 o k = wM.1 o k := fun o k h1 h2 => f'.at' k (hM o k h1 h2)
  refine ⟨fun i hi => ?_, fun k hk => ?_, fun i hi => ?_⟩
  · rw [eC 68 i (by omega) (by omega), eC 69 i (by omega) (by omega), eM 19 i (by omega) (by omega), eM 20 i (by omega) (by omega)]; exact a1 i hi
  · rw [eC 70 k (by omega) (by omega), f'.2]; exact a2 k hk
  · rw [eC 71 i (by omega) (by omega), eC 72 i (by omega) (by omega), eC 73 i (by omega) (by omega), eM 22 i (by omega) (by omega), eM 23 i (by omega) (by omega), eM 24 i (by omega) (by omega)]; exact a3 i hi
theorem RTh.fr (h : RTh wC wM) (f : Fr T wC wC') (f' : Fr T' wM wM') (h1 : T 74 5 = false) (h2 : ∀ k, T 75 k = false) (h3 : T' 0 48 = false) (h4 : ∀ k, T' 25 k = false) : RTh wC' wM' := by
  obtain ⟨r, a1, a2, a3, a4⟩ := h
  exact ⟨r, a1, by rw [f.at' _ h1]; exact a2, by rw [f'.at' _ h3]; exact a3, fun i hi => by rw [f.at' _ (h2 i), f'.at' _ (h4 i)]; exact a4 i hi⟩
theorem RCs.fr (h : RCs wM) (f' : Fr T' wM wM') (h3 : ∀ k, T' 3 k = false) (h4 : ∀ k, T' 4 k = false) : RCs wM' := fun i hi => by
  rw [f'.at' _ (h3 i), f'.at' _ (h4 i)]; exact h i hi
/-- cells of the program, of the reference, that later calls look at -/
def pC (o k : Nat) : Bool := (o == 0 && k == 4) || (decide (1 ≤ o) && decide (o ≤ 36)) || (o == 37 && k == 1) || (o == 38) || (o == 59 && k == 2) || (o == 60) || (decide (68 ≤ o) && decide (o ≤ 73)) || (o == 74 && k == 5) || (o == 75)
def pM (o k : Nat) : Bool := (o == 0 && (k == 0 || k == 5 || k == 6 || k == 7 || k == 8 || k == 12 || k == 14 || k == 16 || k == 37 || k == 48 || k == 50)) || (decide (1 ≤ o) && decide (o ≤ 9)) || (decide (18 ≤ o) && decide (o ≤ 26))
end

