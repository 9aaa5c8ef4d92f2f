/-! 48: types come; rows; the trace; how many -/
theorem sN_congr {f g : Nat → Nat} : ∀ {n : Nat}, (∀ i, i < n → f i = g i) → sN f n = sN g n := by
  intro n
  induction n with
  | zero => intro _; rfl
  | succ n ih => intro h; simp only [sN, ih (fun i hi => h i (by omega)), h n (by omega)]
