/-! 67: chances; fractions cut short -/
section
variable {dy : Nat → Nat} {st c0 l0 fine odds n M : Nat} {J : Nat → Nat → Nat}
theorem svL_ok (hm : mon dy M) (bj : bJ n J) (h2 : st ≤ 3) (h3 : l0 ≤ 3) (ho : odds ≤ 4) : ∀ {l : List Nat} {u u' was : Nat}, (∀ j ∈ l, j < n) → (u' = u ∨ (0 < u' ∧ u' ≤ u)) → u + 21 * l.length ≤ M → 0 < svL dy st c0 l0 odds J u was l → okL dy st c0 l0 J u' was l := by
  intro l
  induction l with
  | nil => intro u u' was _ _ _ _; trivial
  | cons j l ih =>
    intro u u' was hl hu hM hs
    have hj := hl j List.mem_cons_self
    have hR := (bj j hj).2.2.1
    have hl' : ∀ i ∈ l, i < n := fun i hi => hl i (List.mem_cons_of_mem _ hi)
    have a : uB st c0 l0 J (J 1) u' was j ≤ uB st c0 l0 J (J 1) u was j := by
      rcases hu with rfl | ⟨h0, h1⟩
      · exact Nat.le_refl _
      · exact uB_mono h0 h1
    have b := uB_pos (st := st) (c0 := c0) (l0 := l0) (J := J) (u := u') (was := was) (bj j hj).2.1
    have c := uB_le21 (st := st) (c0 := c0) (l0 := l0) (u := u) (was := was) bj hj h2 h3
    simp only [List.length_cons] at hM
    have n1 := oB_nn ho false
    have n2 := oB_nn ho true
    simp only [svL] at hs
    have s1 := (svL_bd (dy := dy) (st := st) (c0 := c0) (l0 := l0) (J := J) ho (l := l) (u := uB st c0 l0 J (J 1) u was j) (was := J 2 j)).1
    have s2 := (svL_bd (dy := dy) (st := st) (c0 := c0) (l0 := l0) (J := J) ho (l := l) (u := uB st c0 l0 J (J 1) u was j + J 1 j) (was := J 2 j)).1
    have hd0 := hm _ _ b a (by omega)
    have hd1 := hm (uB st c0 l0 J (J 1) u' was j) (uB st c0 l0 J (J 1) u was j + J 1 j) b (by omega) (by omega)
    by_cases p1 : 0 < (if dy (uB st c0 l0 J (J 1) u was j) ≤ J 3 j then oB odds false * svL dy st c0 l0 odds J (uB st c0 l0 J (J 1) u was j) (J 2 j) l else 0)
    · by_cases q : dy (uB st c0 l0 J (J 1) u was j) ≤ J 3 j
      · rw [if_pos q] at p1
        have hpos : 0 < svL dy st c0 l0 odds J (uB st c0 l0 J (J 1) u was j) (J 2 j) l := by
          rcases Int.lt_or_eq_of_le s1 with h | h
          · exact h
          · rw [← h, Int.mul_zero] at p1; omega
        exact ⟨by omega, ih hl' (Or.inr ⟨b, a⟩) (by omega) hpos⟩
      · rw [if_neg q] at p1; omega
    · by_cases q : dy (uB st c0 l0 J (J 1) u was j + J 1 j) ≤ J 3 j
      · rw [if_pos q] at hs
        have hpos : 0 < svL dy st c0 l0 odds J (uB st c0 l0 J (J 1) u was j + J 1 j) (J 2 j) l := by
          rcases Int.lt_or_eq_of_le s2 with h | h
          · exact h
          · rw [← h, Int.mul_zero] at hs; omega
        exact ⟨by omega, ih hl' (Or.inr ⟨b, by omega⟩) (by omega) hpos⟩
      · rw [if_neg q] at hs; omega
theorem ok_svL (ho : odds < 4) : ∀ {l : List Nat} {u was : Nat}, okL dy st c0 l0 J u was l → 0 < svL dy st c0 l0 odds J u was l := by
  intro l
  induction l with
  | nil => intro u was _; simp [svL]
  | cons j l ih =>
    intro u was h
    simp only [okL] at h
    have hi := ih h.2
    have s2 := (svL_bd (dy := dy) (st := st) (c0 := c0) (l0 := l0) (J := J) (odds := odds) (by omega) (l := l) (u := uB st c0 l0 J (J 1) u was j + J 1 j) (was := J 2 j)).1
    have h4 : 0 < oB odds false := by simp [oB]; omega
    have m1 := Int.mul_pos h4 hi
    have m2 := Int.mul_nonneg (oB_nn (odds := odds) (by omega) true) s2
    simp only [svL]
    rw [if_pos h.1]
    split <;> omega
theorem mvL_0 : ∀ {l : List Nat} {u was : Nat}, mvL dy st c0 l0 fine 0 J u was l = vL dy st c0 l0 fine J u was l * 4 ^ l.length := by
  intro l
  induction l with
  | nil => intro u was; simp [mvL, vL]
  | cons j l ih =>
    intro u was
    have e0 : oB 0 false = 4 := rfl
    have e1 : oB 0 true = 0 := rfl
    simp only [mvL, vL, e0, e1, Int.zero_mul, Int.add_zero, ih, List.length_cons, Int.pow_succ]
    rw [← Int.add_mul, Int.mul_comm 4, Int.mul_assoc]
end
theorem tdiv2 {x : Int} : (2 * x).tdiv 2 = x ∧ (2 * x).tmod 2 = 0 := by
  have h1 : (2 * x).tdiv 2 = x := by rw [Int.mul_comm]; exact Int.mul_tdiv_cancel x (by omega)
  refine ⟨h1, ?_⟩
  have := Int.mul_tdiv_add_tmod (2 * x) 2
  rw [h1] at this
  omega
theorem rdc_whole : ∀ {t : Nat} {x : Int}, rdc (x * 2 ^ t) t = (x, 0) := by
  intro t
  induction t with
  | zero => intro x; simp [rdc]
  | succ t ih =>
    intro x
    have e : x * 2 ^ (t + 1) = 2 * (x * 2 ^ t) := by rw [Int.pow_succ, ← Int.mul_assoc, Int.mul_comm]
    rw [e, rdc, if_pos (tdiv2).2, (tdiv2).1]
    exact ih
theorem rdc_val : ∀ {t : Nat} {a : Int}, (rdc a t).1 * 2 ^ t = a * 2 ^ (rdc a t).2 := by
  intro t
  induction t with
  | zero => intro a; rfl
  | succ t ih =>
    intro a
    rw [rdc]
    split
    · next h =>
      have e := tm_even h
      have := ih (a := a.tdiv 2)
      rw [Int.pow_succ, ← Int.mul_assoc, this]
      conv => rhs; rw [e]
      rw [Int.mul_assoc, Int.mul_comm _ 2, ← Int.mul_assoc, Int.mul_comm 2]
      rw [Int.mul_comm (a.tdiv 2) 2]
      rw [← e]
    · rfl
theorem pow2i {t : Nat} : (0 : Int) < 2 ^ t := Int.pow_pos (by omega)
theorem rdc_pos {t : Nat} {a : Int} : (0 < (rdc a t).1 ↔ 0 < a) ∧ (0 ≤ a → 0 ≤ (rdc a t).1) := by
  have h := rdc_val (t := t) (a := a)
  have p1 := pow2i (t := t)
  have p2 := pow2i (t := (rdc a t).2)
  refine ⟨⟨fun q => ?_, fun q => ?_⟩, fun q => ?_⟩
  · have h1 := Int.mul_pos q p1
    rw [h] at h1
    exact Int.pos_of_mul_pos_left h1 p2
  · have h1 := Int.mul_pos q p2
    rw [← h] at h1
    exact Int.pos_of_mul_pos_left h1 p1
  · have h1 := Int.mul_nonneg q (Int.le_of_lt p2)
    rw [← h] at h1
    exact Int.nonneg_of_mul_nonneg_left h1 p1
theorem rdc_down {t : Nat} {a : Int} (h : a ≤ 2 ^ t) : (rdc a t).1 ≤ 2 ^ (rdc a t).2 := by
  have h1 := rdc_val (t := t) (a := a)
  have p1 := pow2i (t := t)
  have p2 := pow2i (t := (rdc a t).2)
  have h2 := Int.mul_le_mul_of_nonneg_right h (Int.le_of_lt p2)
  rw [← h1, Int.mul_comm (2 ^ t)] at h2
  exact Int.le_of_mul_le_mul_right h2 p1
/-- of two fractions the greater -/
theorem rdc_le2 {t : Nat} {a b : Int} (h : a ≤ b) : (rdc a t).1 * 2 ^ (rdc b t).2 ≤ (rdc b t).1 * 2 ^ (rdc a t).2 := by
  have h1 := rdc_val (t := t) (a := a)
  have h2 := rdc_val (t := t) (a := b)
  have p1 := pow2i (t := t)
  have p3 := Int.mul_pos (pow2i (t := (rdc a t).2)) (pow2i (t := (rdc b t).2))
  have h3 := Int.mul_le_mul_of_nonneg_right h (Int.le_of_lt p3)
  have e1 : a * (2 ^ (rdc a t).2 * 2 ^ (rdc b t).2) = (rdc a t).1 * 2 ^ (rdc b t).2 * 2 ^ t := by
    rw [← Int.mul_assoc, ← h1, Int.mul_assoc, Int.mul_comm (2 ^ t), ← Int.mul_assoc]
  have e2 : b * (2 ^ (rdc a t).2 * 2 ^ (rdc b t).2) = (rdc b t).1 * 2 ^ (rdc a t).2 * 2 ^ t := by
    rw [Int.mul_comm (2 ^ (rdc a t).2), ← Int.mul_assoc, ← h2, Int.mul_assoc, Int.mul_comm (2 ^ t), ← Int.mul_assoc]
  rw [e1, e2] at h3
  exact Int.le_of_mul_le_mul_right h3 p1
theorem four_two {n : Nat} : (4 : Int) ^ n = 2 ^ (2 * n) := by rw [Int.pow_mul]; rfl
section
variable {dy : Nat → Nat} {st c0 l0 odds n : Nat} {J : Nat → Nat → Nat}
theorem sfe_top : ∀ q ∈ prm n 6, svL dy st c0 l0 odds J 0 0 q ≤ (sfe dy st c0 l0 odds J n).1 := (fold_top (f := fun p => svL dy st c0 l0 odds J 0 0 p) (L := prm n 6) (b := (-1, []))).2.1
theorem sfe_bd (ho : odds ≤ 4) (hn : n ≤ 6) : (sfe dy st c0 l0 odds J n).1 ≤ 4 ^ n := by
  obtain ⟨a1, a2, a3⟩ := fold_top (f := fun p => svL dy st c0 l0 odds J 0 0 p) (L := prm n 6) (b := (-1, []))
  have p : (0 : Int) < 4 ^ n := Int.pow_pos (by omega)
  rcases a3 with h | ⟨q, hq, h⟩
  · have : (sfe dy st c0 l0 odds J n).1 = -1 := h
    omega
  · have h1 : (sfe dy st c0 l0 odds J n).1 = svL dy st c0 l0 odds J 0 0 q := h
    have h2 := (svL_bd (dy := dy) (st := st) (c0 := c0) (l0 := l0) (J := J) ho (l := q) (u := 0) (was := 0)).2
    rw [(prm_range hn hq).2] at h2
    omega
end
