/-! 41: numbers told, and fractions -/
theorem toZ (x : Int32) : ∃ a : Int, x = zI a ∧ -2147483648 ≤ a ∧ a ≤ 2147483647 := ⟨x.toInt, (zI_toInt x).symm, Int32.minValue_le_toInt x, by have := Int32.toInt_lt x; omega⟩
/-- within a range: 1, else 0 -/
def wI (a lo hi : Int32) : Int32 := if a < lo then 0 else if hi < a then 0 else 1
theorem within_ev (a lo hi : Int32) (w : AW) : fX11_within a lo hi w = some (wI a lo hi) := by
  unfold fX11_within wI
  split
  · rfl
  · split <;> rfl
theorem wI_01 (a lo hi : Int32) : wI a lo hi = 0 ∨ wI a lo hi = 1 := by
  unfold wI; repeat' split
  all_goals simp
theorem isb_wI (a lo hi : Int32) : isb (wI a lo hi) = true := by rcases wI_01 a lo hi with h | h <;> rw [h] <;> rfl
theorem wI_nat {a : Int32} {lo hi : Nat} (h : wI a (nI lo) (nI hi) = 1) (hl : lo ≤ 2147483647) (hh : hi ≤ 2147483647) : ∃ m, lo ≤ m ∧ m ≤ hi ∧ a = nI m := by
  obtain ⟨z, rfl, h1, h2⟩ := toZ a
  unfold wI at h
  rw [zI_nI, zI_nI] at h
  simp (disch := omega) only [zlt] at h
  by_cases c1 : z < (lo : Int)
  · rw [if_pos c1] at h; exact absurd h (by decide)
  · rw [if_neg c1] at h
    by_cases c2 : (hi : Int) < z
    · rw [if_pos c2] at h; exact absurd h (by decide)
    · refine ⟨z.toNat, by omega, by omega, ?_⟩
      rw [zI_nI, Int.toNat_of_nonneg (by omega)]
theorem wI_of {m lo hi : Nat} (h1 : lo ≤ m) (h2 : m ≤ hi) (h3 : hi ≤ 2147483647) : wI (nI m) (nI lo) (nI hi) = 1 := by
  unfold wI
  rw [if_neg (by rw [nlt (by omega) (by omega)]; omega), if_neg (by rw [nlt (by omega) (by omega)]; omega)]
theorem wI_neg {a : Int32} {n : Nat} (hn : n ≤ 1000) (h : wI a 0 (nI n - 1) = 1) : ∃ m, m < n ∧ a = nI m := by
  obtain ⟨z, rfl, h1, h2⟩ := toZ a
  unfold wI at h
  rw [show (0 : Int32) = zI 0 from rfl, zI_nI, show (1 : Int32) = zI 1 from rfl, zsub] at h
  simp (disch := omega) only [zlt] at h
  by_cases c1 : z < 0
  · rw [if_pos c1] at h; exact absurd h (by decide)
  · rw [if_neg c1] at h
    by_cases c2 : (n : Int) - 1 < z
    · rw [if_pos c2] at h; exact absurd h (by decide)
    · exact ⟨z.toNat, by omega, by rw [zI_nI, Int.toNat_of_nonneg (by omega)]⟩
theorem wI_below {m n : Nat} (hn : n ≤ 1000) (h : m < n) : wI (nI m) 0 (nI n - 1) = 1 := by
  rw [n0, n1, nsub (by omega)]
  exact wI_of (by omega) (by omega) (by omega)
/-- a number of a job, or none -/
theorem has_wI {o n : Nat} {w : AW} (a : Int32) (h0 : w.1 o 0 = nI n) (hn : n ≤ 1000) : fX4_has o a w = some (wI a 0 (nI n - 1)) := by
  obtain ⟨z, rfl, h1, h2⟩ := toZ a
  unfold fX4_has wI
  rw [h0, show (0 : Int32) = zI 0 from rfl, zI_nI, show (1 : Int32) = zI 1 from rfl, zsub]
  simp (disch := omega) only [zlt, zle]
  by_cases c1 : z < 0
  · rw [if_pos c1, if_pos c1]
  · rw [if_neg c1, if_neg c1]
    by_cases c2 : (n : Int) ≤ z
    · rw [if_pos c2, if_pos (by omega)]
    · rw [if_neg c2, if_neg (by omega)]
/-! fractions -/
def rdc : Int → Nat → Int × Nat
  | a, 0 => (a, 0)
  | a, t + 1 => if a.tmod 2 = 0 then rdc (a.tdiv 2) t else (a, t + 1)
theorem tm_even {a : Int} (h : a.tmod 2 = 0) : a = 2 * a.tdiv 2 := by
  have := Int.mul_tdiv_add_tmod a 2
  omega
theorem partOf_loop {c2 : Int32} {w : AW} : ∀ {t : Nat} {a : Int} {N : Nat}, -100000000 ≤ a → a ≤ 100000000 → t ≤ 100 → t < N → wh (lbX11_partOf_5_1 N c2 w) N (nI t, zI a) = some (nI (rdc a t).2, zI (rdc a t).1) := by
  intro t a N
  have gen : ∀ (t : Nat) (a : Int) (M : Nat), -100000000 ≤ a → a ≤ 100000000 → t ≤ 100 → t < M → wh (lbX11_partOf_5_1 N c2 w) M (nI t, zI a) = some (nI (rdc a t).2, zI (rdc a t).1) := by
    intro t
    induction t with
    | zero =>
      intro a M h1 h2 _ hM
      obtain ⟨M, rfl⟩ : ∃ k, M = k + 1 := ⟨M - 1, by omega⟩
      apply wh_out
      simp (disch := omega) only [lbX11_partOf_5_1, n0, nle, Nat.le_refl, if_true, rdc]
    | succ t ih =>
      intro a M h1 h2 ht hM
      obtain ⟨M, rfl⟩ : ∃ k, M = k + 1 := ⟨M - 1, by omega⟩
      have hd := Int.mul_tdiv_add_tmod a 2
      have e : zI a - zI a / 2 * 2 = zI (a.tmod 2) := by
        rw [show (2 : Int32) = zI 2 from rfl, zdiv (by omega) (by omega) (by omega) (by omega), zmul, zsub]; congr 1; omega
      have hm1 := Int.tmod_lt_of_pos a (show (0 : Int) < 2 by omega)
      have hm2 : -2 < a.tmod 2 := Int.lt_tmod_of_pos a (show (0 : Int) < 2 by omega)
      by_cases hc : a.tmod 2 = 0
      · rw [wh_step (s' := (nI t, zI (a.tdiv 2)))]
        · rw [ih (a.tdiv 2) M (by omega) (by omega) (by omega) (by omega), rdc, if_pos hc]
        · rw [lbX11_partOf_5_1]
          simp only [e, hc]
          rw [if_neg (show ¬ nI (t + 1) ≤ 0 by rw [n0, nle (by omega) (by omega)]; omega), if_pos (show zI 0 = 0 from rfl), n1, nsubm (by omega), show (2 : Int32) = zI 2 from rfl, zdiv (by omega) (by omega) (by omega) (by omega), Nat.add_sub_cancel]
      · apply wh_out
        rw [lbX11_partOf_5_1]
        simp only [e]
        rw [if_neg (show ¬ nI (t + 1) ≤ 0 by rw [n0, nle (by omega) (by omega)]; omega), if_neg (show ¬ zI (a.tmod 2) = 0 by rw [show (0 : Int32) = zI 0 from rfl, zeq (by omega) (by omega) (by omega) (by omega)]; exact hc), rdc, if_neg hc]
  exact gen t a N
theorem gcd_rdc : ∀ {t : Nat} {a : Int}, 0 < Nat.gcd a.natAbs (2 ^ t) ∧ a.tdiv (Nat.gcd a.natAbs (2 ^ t) : Nat) = (rdc a t).1 ∧ 2 ^ t / Nat.gcd a.natAbs (2 ^ t) = 2 ^ (rdc a t).2 := by
  intro t
  induction t with
  | zero => intro a; simp [rdc]
  | succ t ih =>
    intro a
    by_cases hc : a.tmod 2 = 0
    · obtain ⟨i1, i2, i3⟩ := ih (a := a.tdiv 2)
      have ha := tm_even hc
      have hn : a.natAbs = 2 * (a.tdiv 2).natAbs := by omega
      have hp : 2 ^ (t + 1) = 2 * 2 ^ t := by rw [Nat.pow_succ, Nat.mul_comm]
      have hg : Nat.gcd a.natAbs (2 ^ (t + 1)) = 2 * Nat.gcd (a.tdiv 2).natAbs (2 ^ t) := by rw [hn, hp, Nat.gcd_mul_left]
      rw [hg, rdc, if_pos hc]
      refine ⟨by omega, ?_, ?_⟩
      · rw [← i2]
        generalize Nat.gcd (a.tdiv 2).natAbs (2 ^ t) = g at *
        have : ((2 * g : Nat) : Int) = 2 * (g : Int) := by omega
        rw [this]
        exact (congrArg (fun q => Int.tdiv q (2 * (g : Int))) ha).trans (Int.mul_tdiv_mul_of_pos _ _ (by omega))
      · rw [hp, Nat.mul_div_mul_left _ _ (by omega)]; exact i3
    · have hodd : a.natAbs % 2 = 1 := by
        have h1 := Int.mul_tdiv_add_tmod a 2
        have h2 := Int.tmod_lt_of_pos a (show (0 : Int) < 2 by omega)
        have h3 : -2 < a.tmod 2 := Int.lt_tmod_of_pos a (show (0 : Int) < 2 by omega)
        omega
      have hg : Nat.gcd a.natAbs (2 ^ (t + 1)) = 1 := by
        have hc2 : Nat.Coprime a.natAbs 2 := by
          have : Nat.gcd 2 a.natAbs = 1 := by rw [Nat.gcd_rec, hodd]; rfl
          rw [Nat.coprime_iff_gcd_eq_one, Nat.gcd_comm]; exact this
        exact Nat.Coprime.pow_right (t + 1) hc2
      rw [hg, rdc, if_neg hc]
      exact ⟨by omega, Int.tdiv_one a, Nat.div_one _⟩
theorem rdc_le : ∀ {t : Nat} {a : Int}, (rdc a t).2 ≤ t := by
  intro t
  induction t with
  | zero => intro a; simp [rdc]
  | succ t ih =>
    intro a
    rw [rdc]
    split
    · exact Nat.le_trans ih (by omega)
    · exact Nat.le_refl _
theorem shl_13 : ∀ j, j < 13 → decide ((1 : Int32) <<< (nI j &&& 31) = nI (2 ^ j)) = true := by decide +kernel
theorem partOf_ev {a : Int} {t N : Nat} {part : Int32} {w : AW} (h1 : -100000000 ≤ a) (h2 : a ≤ 100000000) (ht : t ≤ 12) (hN : 100 < N) : fX11_partOf N (zI a) (nI t) part w = some (if part = 0 then zI (rdc a t).1 else nI (2 ^ (rdc a t).2)) := by
  have hle := rdc_le (t := t) (a := a)
  simp only [fX11_partOf, partOf_loop h1 h2 (show t ≤ 100 by omega) (show t < N by omega), bd_some']
  rw [of_decide_eq_true (shl_13 (rdc a t).2 (by omega))]
  split <;> rfl
