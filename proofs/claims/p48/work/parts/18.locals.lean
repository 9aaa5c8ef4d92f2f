/-! 18: the law's locals, from one half to the next -/
theorem none_at (i : Nat) (v : Value) : ¬ [some (.ref 0), none, none, none, none, none, none, none, none, none, none, none, none, none, none, none, none, none, none, none, none, none, none, none, none, none, none, none, none, none, none, none, none][i + 1]? = some (some v) := by
  intro h
  have h2 : (List.replicate 32 (none : Option Value))[i]? = some (some v) := h
  rw [List.getElem?_replicate] at h2
  split at h2 <;> cases h2
theorem ls_at {ls : List (Option Value)} {Pr : Nat → Value → Prop} (h : ∀ i, i < 33 → ∀ v, ls[i]? = some (some v) → Pr i v) (hl : ls.length = 33) : ∀ (i : Nat) (v : Value), ls[i]? = some (some v) → Pr i v := fun i v hi => h i (by have := (List.getElem?_eq_some_iff.mp hi).1; omega) v hi
theorem ls_first {D : va_G} {cc : C3} {b q : Nat} {u v : List Nat} {ex : (Nat → Nat) × Value} (hx3 : ex.1 3 = b) : ∀ (i : Nat) (v0 : Value), ([some (.retAddr 3), some (.ref 0), some (.ref 76), some (.ref 77), some (.ref 78), some (.ref 79), none, none, none, none, none, none, none, none, none, none, none, none, none, none, none, none, none, none, none, none, none, none, none, none, none, none, none] : List (Option Value))[i]? = some (some v0) → ∃ v9, ([some (.ref b), some (.ref q), some (.ref (v.getD 0 0)), some (.ref (v.getD 1 0)), some (.ref (v.getD 2 0)), some (.ref (v.getD 3 0)), none, none, none, none, none, none, none, none, none, none, none, none, none, none, none, none, none, none, none, none, none, none, none, none, none, none, none] : List (Option Value))[i]? = some (some v9) ∧ cv (V0 D cc) v9 = cv (adC q u v, D, cc, ex) v0 := by
  refine ls_at (fun i hi v0 h => ?_) rfl
  match i, hi with
  | 0, _ => cases h; exact ⟨_, rfl, congrArg Value.ref hx3.symm⟩
  | 1, _ => cases h; exact ⟨_, rfl, rfl⟩
  | 2, _ => cases h; exact ⟨_, rfl, rfl⟩
  | 3, _ => cases h; exact ⟨_, rfl, rfl⟩
  | 4, _ => cases h; exact ⟨_, rfl, rfl⟩
  | 5, _ => cases h; exact ⟨_, rfl, rfl⟩
  | 6, _ => cases h
  | 7, _ => cases h
  | 8, _ => cases h
  | 9, _ => cases h
  | 10, _ => cases h
  | 11, _ => cases h
  | 12, _ => cases h
  | 13, _ => cases h
  | 14, _ => cases h
  | 15, _ => cases h
  | 16, _ => cases h
  | 17, _ => cases h
  | 18, _ => cases h
  | 19, _ => cases h
  | 20, _ => cases h
  | 21, _ => cases h
  | 22, _ => cases h
  | 23, _ => cases h
  | 24, _ => cases h
  | 25, _ => cases h
  | 26, _ => cases h
  | 27, _ => cases h
  | 28, _ => cases h
  | 29, _ => cases h
  | 30, _ => cases h
  | 31, _ => cases h
  | 32, _ => cases h
  | i + 33, h9 => omega
theorem ls_mid {D : va_G} {cc : C3} {b : Nat} {V : EV} {x6 x24 : Int32} (hx3 : V.2.2.2.1 3 = b) : ∀ (i : Nat) (v0 : Value), ([some (.ref b), some (.ref (V.1 0)), none, none, none, some (.ref (V.1 79)), some (.int x6), none, none, none, none, none, none, none, none, none, none, none, none, none, none, none, none, none, some (.int x24), none, none, none, none, none, none, none, none] : List (Option Value))[i]? = some (some v0) → ∃ v9, ([some (.retAddr 3), some (.ref 0), none, none, none, some (.ref 79), some (.int x6), none, none, none, none, none, none, none, none, none, none, none, none, none, none, none, none, none, some (.int x24), none, none, none, none, none, none, none, none] : List (Option Value))[i]? = some (some v9) ∧ cv V v9 = cv (V0 D cc) v0 := by
  refine ls_at (fun i hi v0 h => ?_) rfl
  match i, hi with
  | 0, _ => cases h; exact ⟨_, rfl, congrArg Value.ref hx3⟩
  | 1, _ => cases h; exact ⟨_, rfl, rfl⟩
  | 2, _ => cases h
  | 3, _ => cases h
  | 4, _ => cases h
  | 5, _ => cases h; exact ⟨_, rfl, rfl⟩
  | 6, _ => cases h; exact ⟨_, rfl, rfl⟩
  | 7, _ => cases h
  | 8, _ => cases h
  | 9, _ => cases h
  | 10, _ => cases h
  | 11, _ => cases h
  | 12, _ => cases h
  | 13, _ => cases h
  | 14, _ => cases h
  | 15, _ => cases h
  | 16, _ => cases h
  | 17, _ => cases h
  | 18, _ => cases h
  | 19, _ => cases h
  | 20, _ => cases h
  | 21, _ => cases h
  | 22, _ => cases h
  | 23, _ => cases h
  | 24, _ => cases h; exact ⟨_, rfl, rfl⟩
  | 25, _ => cases h
  | 26, _ => cases h
  | 27, _ => cases h
  | 28, _ => cases h
  | 29, _ => cases h
  | 30, _ => cases h
  | 31, _ => cases h
  | 32, _ => cases h
  | i + 33, h9 => omega
theorem ls_last {D : va_G} {cc : C3} {b q : Nat} {V V' : EV} {x6 x24 : Int32} (hx3 : V'.2.2.2.1 3 = b) (h0 : V'.1 0 = V.1 0) (h79 : V'.1 79 = V.1 79) (h80 : V'.1 80 = q) : ∀ (i : Nat) (v0 : Value), ([some (.retAddr 3), some (.ref 0), none, none, none, some (.ref 79), some (.int x6), none, none, none, none, none, none, none, none, none, none, none, none, none, none, none, none, none, some (.int x24), some (.ref 80), none, none, none, none, none, none, none] : List (Option Value))[i]? = some (some v0) → ∃ v9, ([some (.ref b), some (.ref (V.1 0)), none, none, none, some (.ref (V.1 79)), some (.int x6), none, none, none, none, none, none, none, none, none, none, none, none, none, none, none, none, none, some (.int x24), some (.ref q), none, none, none, none, none, none, none] : List (Option Value))[i]? = some (some v9) ∧ cv (V0 D cc) v9 = cv V' v0 := by
  refine ls_at (fun i hi v0 h => ?_) rfl
  match i, hi with
  | 0, _ => cases h; exact ⟨_, rfl, congrArg Value.ref hx3.symm⟩
  | 1, _ => cases h; exact ⟨_, rfl, congrArg Value.ref h0.symm⟩
  | 2, _ => cases h
  | 3, _ => cases h
  | 4, _ => cases h
  | 5, _ => cases h; exact ⟨_, rfl, congrArg Value.ref h79.symm⟩
  | 6, _ => cases h; exact ⟨_, rfl, rfl⟩
  | 7, _ => cases h
  | 8, _ => cases h
  | 9, _ => cases h
  | 10, _ => cases h
  | 11, _ => cases h
  | 12, _ => cases h
  | 13, _ => cases h
  | 14, _ => cases h
  | 15, _ => cases h
  | 16, _ => cases h
  | 17, _ => cases h
  | 18, _ => cases h
  | 19, _ => cases h
  | 20, _ => cases h
  | 21, _ => cases h
  | 22, _ => cases h
  | 23, _ => cases h
  | 24, _ => cases h; exact ⟨_, rfl, rfl⟩
  | 25, _ => cases h; exact ⟨_, rfl, congrArg Value.ref h80.symm⟩
  | 26, _ => cases h
  | 27, _ => cases h
  | 28, _ => cases h
  | 29, _ => cases h
  | 30, _ => cases h
  | 31, _ => cases h
  | 32, _ => cases h
  | i + 33, h9 => omega
theorem kd_le {c k t : Nat} (h : (kd c)[k]? = some t) : t ≤ 2 := by
  have hm := List.mem_of_getElem? h
  unfold kd at hm
  split at hm <;> simp at hm <;> omega
theorem rf_lt {S : SC} (i k : Nat) : (PC S).2.1 i k < 80 := by
  show rfC i k < 80
  unfold rfC
  have key : ∀ l ∈ rfT, ∀ x ∈ l, x < 80 := by decide
  show ((rfT.getD i []).getD k 0) < 80
  rw [List.getD_eq_getElem?_getD, List.getD_eq_getElem?_getD]
  cases h1 : rfT[i]? with
  | none => simp
  | some l =>
    simp only [Option.getD_some]
    cases h2 : l[k]? with
    | none => simp
    | some x => simp only [Option.getD_some]; exact key l (List.mem_of_getElem? h1) x (List.mem_of_getElem? h2)
