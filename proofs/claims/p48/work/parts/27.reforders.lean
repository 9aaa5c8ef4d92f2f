/-! 27: the reference goes through all orders -/
theorem prm_count : ∀ n, n < 7 → ∀ b, b < 7 → ((prm n b).length ≤ 720) := by decide +kernel
theorem chk_prm1 {n b : Nat} (hn : n ≤ 6) (hb : b ≤ 6) : chk (prm n b) = true ∧ (prm n b).head? = some (rmB n b) := by
  have := chk_prm n (by omega) b (by omega)
  simpa using this
def lf (p : List Nat) (i : Nat) : Nat := p.getD i 0
/-- the first that is more than all ahead of it -/
def bestG (f : List Nat → Int) (b : Int × List Nat) (p : List Nat) : Int × List Nat := if b.1 < f p then (f p, p) else b
theorem lf_inj {p : List Nat} (hn : p.Nodup) : ∀ i k, i < p.length → k < p.length → lf p i = lf p k → i = k := by
  intro i k hi hk h
  have h1 := getD_some hi
  have h2 := getD_some hk
  unfold lf at h
  exact (List.getElem?_inj hi hn).mp (h1.trans ((congrArg some h).trans h2.symm))
theorem Rd_0 {J : Nat → Nat → Nat} : Rd J 0 = J 1 := by funext j; simp [Rd]
/-- cells of the reference that orders write -/
def TO (o k : Nat) : Bool := TW o k || (o == 12) || (o == 15)
theorem TW_TO {o k : Nat} (h : TO o k = false) : TW o k = false := by simp only [TO, Bool.or_eq_false_iff] at h; exact h.1.1
