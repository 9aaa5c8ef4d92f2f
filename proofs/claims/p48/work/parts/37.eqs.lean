/-! 37: what both find is the same -/
theorem fewest_eq {c : List Nat → Nat} {L : List (List Nat)} (hne : L ≠ []) (h : ∀ p ∈ L, c p ≤ 6) : (L.foldl (minG c []) (1000000, [])).1 = L.foldl (lowG c) 9 := by
  cases L with
  | nil => exact absurd rfl hne
  | cons p l =>
    have hp := h p List.mem_cons_self
    rw [List.foldl_cons, List.foldl_cons, show minG c [] (1000000, []) p = (c p, p) from if_pos (by show c p < 1000000; omega), show lowG c 9 p = c p from if_pos (by omega)]
    exact foldl_rel (f := minG c []) (g := lowG c) (fun a b => a.1 = b) rfl (fun a b x hx hr => by
      subst hr
      unfold minG lowG
      split <;> rfl)
theorem zero_iff {c : List Nat → Nat} : ∀ {L : List (List Nat)} {b : Nat × List Nat}, (L.foldl (minG c []) b).1 = 0 ↔ (b.1 = 0 ∨ ∃ p ∈ L, c p = 0) := by
  intro L
  induction L with
  | nil => intro b; simp
  | cons p l ih =>
    intro b
    rw [List.foldl_cons, ih]
    unfold minG
    by_cases hc : c p < b.1
    · rw [if_pos hc]
      constructor
      · rintro (h | ⟨q, hq, h⟩)
        · exact Or.inr ⟨p, List.mem_cons_self, h⟩
        · exact Or.inr ⟨q, List.mem_cons_of_mem _ hq, h⟩
      · rintro (h | ⟨q, hq, h⟩)
        · omega
        · rcases List.mem_cons.mp hq with rfl | hq
          · exact Or.inl h
          · exact Or.inr ⟨q, hq, h⟩
    · rw [if_neg hc]
      constructor
      · rintro (h | ⟨q, hq, h⟩)
        · exact Or.inl h
        · exact Or.inr ⟨q, List.mem_cons_of_mem _ hq, h⟩
      · rintro (h | ⟨q, hq, h⟩)
        · exact Or.inl h
        · rcases List.mem_cons.mp hq with rfl | hq
          · left; omega
          · exact Or.inr ⟨q, hq, h⟩
theorem sN_one {f : Nat → Nat} {k0 : Nat} : ∀ {m : Nat}, (∀ k, k < m → k ≠ k0 → f k = 0) → sN f m = if k0 < m then f k0 else 0 := by
  intro m
  induction m with
  | zero => intro _; rfl
  | succ m ih =>
    intro h
    rw [sN, ih (fun k hk hne => h k (by omega) hne)]
    by_cases hk : m = k0
    · subst hk
      rw [if_neg (by omega), if_pos (by omega)]; omega
    · rw [h m (by omega) hk]
      by_cases h2 : k0 < m
      · rw [if_pos h2, if_pos (by omega)]; omega
      · rw [if_neg h2, if_neg (by omega)]
theorem sN_ge {f : Nat → Nat} : ∀ {m k : Nat}, k < m → f k ≤ sN f m := by
  intro m
  induction m with
  | zero => intro k h; omega
  | succ m ih =>
    intro k h
    rw [sN]
    by_cases hk : k = m
    · subst hk; omega
    · have := ih (k := k) (by omega)
      omega
theorem lN_zero {dy : Nat → Nat} {st c0 l0 : Nat} {J : Nat → Nat → Nat} {R : Nat → Nat} {p : Nat → Nat} : ∀ {m : Nat}, ltN dy st c0 l0 J R p m = 0 ↔ ∀ i, i < m → dy (uN st c0 l0 J R p (i + 1)) ≤ J 3 (p i) := by
  intro m
  induction m with
  | zero => simp [ltN]
  | succ m ih =>
    simp only [ltN]
    constructor
    · intro h i hi
      by_cases him : i = m
      · subst him
        by_cases hc : dy (uN st c0 l0 J R p (i + 1)) ≤ J 3 (p i)
        · exact hc
        · rw [if_neg hc] at h; omega
      · exact ih.mp (by omega) i (by omega)
    · intro h
      rw [ih.mpr (fun i hi => h i (by omega)), if_pos (h m (by omega))]
/-- the loss of an order, if the last job's end is asked for -/
theorem cost2 {dy : Nat → Nat} {st c0 l0 fine n : Nat} {J : Nat → Nat → Nat} {p : List Nat} (hp : p ∈ prm (n + 1) 6) (hn : n + 1 ≤ 6) (h60 : J 3 n = 60) :
    (cL dy st c0 l0 J (J 1) (lsA fine J (n + 1) 2) 0 0 p = eJ dy st c0 l0 J n p ∧ (ltN dy st c0 l0 J (J 1) (lf p) p.length = 0 ↔ eJ dy st c0 l0 J n p ≤ 60)) ∨ (1000000 ≤ cL dy st c0 l0 J (J 1) (lsA fine J (n + 1) 2) 0 0 p ∧ ltN dy st c0 l0 J (J 1) (lf p) p.length ≠ 0) := by
  have hmem : n ∈ p := by
    rw [(prm_perm hp).mem_iff (a := n), rmB_mem]; omega
  obtain ⟨hi1, hi2⟩ := lf_idxOf hmem
  have hinj := lf_inj (prm_nodup hp)
  rw [cL_sum]
  by_cases hall : ∀ i, i < p.length → i ≠ p.idxOf n → dy (uN st c0 l0 J (J 1) (lf p) (i + 1)) ≤ J 3 (lf p i)
  · left
    have hother : ∀ k, k < p.length → k ≠ p.idxOf n → lf p k ≠ n := fun k hk hne h => hne (hinj k _ hk hi1 (h.trans hi2.symm))
    constructor
    · rw [sN_one (k0 := p.idxOf n) (fun k hk hne => by
        have h1 := hother k hk hne
        have h2 := hall k hk hne
        simp [lsA, h1, h2]), if_pos hi1]
      simp [lsA, hi2, eJ]
    · rw [lN_zero]
      constructor
      · intro h
        have := h _ hi1
        rw [hi2, h60] at this
        exact this
      · intro h i hi
        by_cases hne : i = p.idxOf n
        · subst hne; rw [hi2, h60]; exact h
        · exact hall i hi hne
  · right
    have : ∃ i, i < p.length ∧ i ≠ p.idxOf n ∧ ¬ dy (uN st c0 l0 J (J 1) (lf p) (i + 1)) ≤ J 3 (lf p i) := by
      apply Classical.byContradiction
      intro hno
      exact hall (fun i h1 h2 => Classical.byContradiction (fun h3 => hno ⟨i, h1, h2, h3⟩))
    obtain ⟨i, h1, h2, h3⟩ := this
    have hne : lf p i ≠ n := fun h => h2 (hinj i _ h1 hi1 (h.trans hi2.symm))
    constructor
    · have := sN_ge (f := fun k => lsA fine J (n + 1) 2 (lf p k) (dy (uN st c0 l0 J (J 1) (lf p) (k + 1)))) h1
      simp [lsA, hne, h3] at this
      simpa [lsA] using this
    · rw [ne_eq, lN_zero]
      exact fun h => h3 (h i h1)
theorem soonest_eq {c l e : List Nat → Nat} {L : List (List Nat)} (h : ∀ p ∈ L, (c p = e p ∧ (l p = 0 ↔ e p ≤ 60)) ∨ (1000000 ≤ c p ∧ l p ≠ 0)) (he : ∀ p ∈ L, e p < 1000000) :
    L.foldl (soonG e l) (-3) = if (L.foldl (minG c []) (1000000, [])).1 ≤ 60 then ((L.foldl (minG c []) (1000000, [])).1 : Int) else -3 := by
  have hR := foldl_rel (f := soonG e l) (g := minG c []) (fun a b => b.1 ≤ 1000000 ∧ a = if b.1 ≤ 60 then (b.1 : Int) else -3) (l := L) (a := -3) (b := (1000000, [])) ⟨by simp, by simp⟩ (fun a b x hx hr => by
    obtain ⟨h1, h2⟩ := hr
    have hex := he x hx
    have sp : ∀ {a : Int}, (l x = 0 ∧ (a < 0 ∨ (e x : Int) < a)) → soonG e l a x = (e x : Int) := fun h => if_pos h
    have sn : ∀ {a : Int}, ¬ (l x = 0 ∧ (a < 0 ∨ (e x : Int) < a)) → soonG e l a x = a := fun h => if_neg h
    have mp : c x < b.1 → minG c [] b x = (c x, [] ++ x) := fun h => if_pos h
    have mn : ¬ c x < b.1 → minG c [] b x = b := fun h => if_neg h
    rcases h x hx with ⟨hc, hl⟩ | ⟨hc, hl⟩
    · by_cases h60 : b.1 ≤ 60
      · rw [if_pos h60] at h2
        subst h2
        by_cases hlt : c x < b.1
        · rw [mp hlt, sp ⟨hl.mpr (by omega), Or.inr (by omega)⟩]
          refine ⟨by simp only []; omega, ?_⟩
          simp only []
          rw [if_pos (by omega), hc]
        · rw [mn hlt, sn (fun q => by omega), if_pos h60]
          exact ⟨h1, rfl⟩
      · rw [if_neg h60] at h2
        subst h2
        by_cases he60 : e x ≤ 60
        · rw [sp ⟨hl.mpr he60, Or.inl (by omega)⟩, mp (by omega)]
          refine ⟨by simp only []; omega, ?_⟩
          simp only []
          rw [if_pos (by omega), hc]
        · rw [sn (fun q => he60 (hl.mp q.1))]
          by_cases hlt : c x < b.1
          · rw [mp hlt]
            refine ⟨by simp only []; omega, ?_⟩
            simp only []
            rw [if_neg (by omega)]
          · rw [mn hlt, if_neg h60]
            exact ⟨h1, rfl⟩
    · rw [sn (fun q => hl q.1), mn (by omega)]
      exact ⟨h1, h2⟩)
  exact hR.2

