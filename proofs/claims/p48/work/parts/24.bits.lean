/-! 24: bits of small sets -/
theorem bt_all : ∀ m, m < 64 → ∀ j, j < 6 → (decide (((nI m >>> (nI j &&& 31)) &&& 1) = 1) = m.testBit j ∧ decide (((nI m >>> (nI j &&& 31)) &&& 1) = 0) = !m.testBit j ∧ decide ((nI m ||| (1 <<< (nI j &&& 31))) = nI (m ||| (1 <<< j))) = true ∧ m ||| (1 <<< j) < 64) := by decide +kernel
theorem bt1 {m j : Nat} (hm : m < 64) (hj : j < 6) : (((nI m >>> (nI j &&& 31)) &&& 1) = 1) = (m.testBit j = true) := by
  have := (bt_all m hm j hj).1
  apply propext; rw [← decide_eq_true_iff (p := ((nI m >>> (nI j &&& 31)) &&& 1) = 1), this]
theorem bt0 {m j : Nat} (hm : m < 64) (hj : j < 6) : (((nI m >>> (nI j &&& 31)) &&& 1) = 0) = (m.testBit j = false) := by
  have := (bt_all m hm j hj).2.1
  apply propext; rw [← decide_eq_true_iff (p := ((nI m >>> (nI j &&& 31)) &&& 1) = 0), this]; simp
theorem btor {m j : Nat} (hm : m < 64) (hj : j < 6) : (nI m ||| (1 <<< (nI j &&& 31))) = nI (m ||| (1 <<< j)) := of_decide_eq_true (bt_all m hm j hj).2.2.1
theorem btlt {m j : Nat} (hm : m < 64) (hj : j < 6) : m ||| (1 <<< j) < 64 := (bt_all m hm j hj).2.2.2
theorem bt_or_test {m i j : Nat} : (m ||| (1 <<< j)).testBit i = (m.testBit i || decide (i = j)) := by
  rw [Nat.testBit_or, Nat.one_shiftLeft, Nat.testBit_two_pow]
  congr 1
  simp [eq_comm]
theorem shl_all : ∀ j, j < 7 → decide ((1 : Int32) <<< (nI j &&& 31) = nI (1 <<< j)) = true ∧ decide ((1 : Int32) <<< (nI (2 * j) &&& 31) = nI (4 ^ j)) = true := by decide +kernel
theorem shl1 {j : Nat} (h : j < 7) : (1 : Int32) <<< (nI j &&& 31) = nI (2 ^ j) := by
  have := of_decide_eq_true (shl_all j h).1
  rwa [Nat.one_shiftLeft] at this
theorem shl2 {j : Nat} (h : j < 7) : (1 : Int32) <<< (nI (2 * j) &&& 31) = nI (4 ^ j) := of_decide_eq_true (shl_all j h).2

