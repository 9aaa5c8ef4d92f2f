/-! 31: the reference's sums over masks -/
theorem kB_app {dy : Nat → Nat} {st c0 l0 : Nat} {J : Nat → Nat → Nat} {β : Nat → Bool} : ∀ {l l' : List Nat} {u was : Nat}, kB dy st c0 l0 J u was (l ++ l') β = kB dy st c0 l0 J u was l β * kB dy st c0 l0 J (uE st c0 l0 J (RB J β) u was l) (wE J was l) l' β := by
  intro l
  induction l with
  | nil => intro l' u was; simp [kB, uE, wE]
  | cons j l ih => intro l' u was; simp only [List.cons_append, kB, uE, wE, ih, Int.mul_assoc]
theorem wB_app {dy : Nat → Nat} {st c0 l0 fine : Nat} {J : Nat → Nat → Nat} {β : Nat → Bool} : ∀ {l l' : List Nat} {u was : Nat}, wB dy st c0 l0 fine J u was (l ++ l') β = wB dy st c0 l0 fine J u was l β + wB dy st c0 l0 fine J (uE st c0 l0 J (RB J β) u was l) (wE J was l) l' β := by
  intro l
  induction l with
  | nil => intro l' u was; simp [wB, uE, wE]
  | cons j l ih => intro l' u was; simp only [List.cons_append, wB, uE, wE, ih, Int.add_assoc]
theorem kB_lN {dy : Nat → Nat} {st c0 l0 : Nat} {J : Nat → Nat → Nat} {β : Nat → Bool} {l : List Nat} : kB dy st c0 l0 J 0 0 l β = if ltN dy st c0 l0 J (RB J β) (lf l) l.length = 0 then 1 else 0 := by
  have : ∀ i, i ≤ l.length → kB dy st c0 l0 J 0 0 (l.take i) β = if ltN dy st c0 l0 J (RB J β) (lf l) i = 0 then 1 else 0 := by
    intro i
    induction i with
    | zero => intro _; rfl
    | succ i ih =>
      intro h
      obtain ⟨a, b⟩ := uE_take (st := st) (c0 := c0) (l0 := l0) (J := J) (R := RB J β) (l := l) (i := i) (by omega)
      rw [take_one (by omega), kB_app, ih (by omega), a, b]
      simp only [kB, ltN, uN, Int.mul_one]
      by_cases h1 : dy (uB st c0 l0 J (RB J β) (uN st c0 l0 J (RB J β) (lf l) i) (wasN J (lf l) i) (lf l i)) ≤ J 3 (lf l i)
      · simp only [h1, if_true, Int.mul_one, Nat.add_zero]
      · simp only [h1, if_false, Int.mul_zero]
        rw [if_neg (by omega)]
  have := this l.length (Nat.le_refl _)
  rwa [List.take_length] at this
theorem wB_wN {dy : Nat → Nat} {st c0 l0 fine : Nat} {J : Nat → Nat → Nat} {β : Nat → Bool} {l : List Nat} : wB dy st c0 l0 fine J 0 0 l β = wN dy st c0 l0 fine J (RB J β) (lf l) l.length := by
  have : ∀ i, i ≤ l.length → wB dy st c0 l0 fine J 0 0 (l.take i) β = wN dy st c0 l0 fine J (RB J β) (lf l) i := by
    intro i
    induction i with
    | zero => intro _; rfl
    | succ i ih =>
      intro h
      obtain ⟨a, b⟩ := uE_take (st := st) (c0 := c0) (l0 := l0) (J := J) (R := RB J β) (l := l) (i := i) (by omega)
      rw [take_one (by omega), wB_app, ih (by omega), a, b]
      simp only [wB, wN, uN, Int.add_zero]
  have := this l.length (Nat.le_refl _)
  rwa [List.take_length] at this
def oN (odds m : Nat) : Nat → Nat
  | 0 => 1
  | j + 1 => oN odds m j * (if m.testBit j then odds else 4 - odds)
theorem oN_pB {odds m : Nat} (ho : odds ≤ 4) : ∀ n, (oN odds m n : Int) = pB odds (downL n) (fun i => m.testBit i) := by
  intro n
  induction n with
  | zero => rfl
  | succ n ih =>
    simp only [oN, downL, pB, Int.natCast_mul, ih]
    rw [Int.mul_comm]
    congr 1
    unfold oB
    split <;> omega
theorem oN_le {odds m : Nat} (ho : odds ≤ 4) : ∀ n, oN odds m n ≤ 4 ^ n := by
  intro n
  induction n with
  | zero => simp [oN]
  | succ n ih =>
    simp only [oN, Nat.pow_succ]
    exact Nat.mul_le_mul ih (by split <;> omega)
theorem four_le {n : Nat} (h : n ≤ 6) : 4 ^ n ≤ 4096 := by
  have : 4 ^ n ≤ 4 ^ 6 := Nat.pow_le_pow_right (by omega) h
  simpa using this
theorem Rd_RB {J : Nat → Nat → Nat} {m : Nat} : Rd J m = RB J (fun i => m.testBit i) := by funext j; rfl
theorem two_le {n : Nat} (h : n ≤ 6) : 2 ^ n ≤ 64 := by
  have : 2 ^ n ≤ 2 ^ 6 := Nat.pow_le_pow_right (by omega) h
  simpa using this
theorem sumM_bd {F : (Nat → Bool) → Int} {c : Nat} (h : ∀ m : Nat, 0 ≤ F (fun i => m.testBit i) ∧ F (fun i => m.testBit i) ≤ c) : ∀ k : Nat, 0 ≤ sumM F k ∧ sumM F k ≤ c * k := by
  intro k
  induction k with
  | zero => simp [sumM]
  | succ k ih =>
    have := h k
    simp only [sumM]
    rw [Int.natCast_succ, Int.mul_add, Int.mul_one]
    omega
theorem sumM_ext {F G : (Nat → Bool) → Int} (h : ∀ β, F β = G β) (k : Nat) : sumM F k = sumM G k := by rw [show F = G from funext h]
theorem prm_range {n : Nat} {p : List Nat} (hn : n ≤ 6) (hp : p ∈ prm n 6) : p.Perm (downL n) ∧ p.length = n := by
  have h1 := prm_perm hp
  rw [rmB_all hn] at h1
  exact ⟨h1.trans downL_perm.symm, by rw [h1.length_eq, List.length_range]⟩
