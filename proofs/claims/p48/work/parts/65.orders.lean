/-! 65: orders: all on time, worth, one job less -/
section
variable (dy : Nat → Nat) (st c0 l0 fine : Nat) (J : Nat → Nat → Nat)
/-- all are on time, behind some -/
def okL (u was : Nat) : List Nat → Prop
  | [] => True
  | j :: l => dy (uB st c0 l0 J (J 1) u was j) ≤ J 3 j ∧ okL (uB st c0 l0 J (J 1) u was j) (J 2 j) l
/-- worth of the rest of an order -/
def vL (u was : Nat) : List Nat → Int
  | [] => 0
  | j :: l => vOf fine J j (dy (uB st c0 l0 J (J 1) u was j)) + vL (uB st c0 l0 J (J 1) u was j) (J 2 j) l
end
theorem RB_0 {J : Nat → Nat → Nat} : RB J (fun _ => false) = J 1 := by funext j; simp [RB]
section
variable {dy : Nat → Nat} {st c0 l0 fine odds : Nat} {J : Nat → Nat → Nat}
theorem vL_wB : ∀ {l : List Nat} {u was : Nat}, wB dy st c0 l0 fine J u was l (fun _ => false) = vL dy st c0 l0 fine J u was l := by
  intro l
  induction l with
  | nil => intro u was; rfl
  | cons j l ih => intro u was; simp only [wB, vL, RB_0, ih]
theorem vL_wN {l : List Nat} : wN dy st c0 l0 fine J (J 1) (lf l) l.length = vL dy st c0 l0 fine J 0 0 l := by
  rw [← vL_wB, wB_wN, RB_0]
theorem okL_kB : ∀ {l : List Nat} {u was : Nat}, (okL dy st c0 l0 J u was l → kB dy st c0 l0 J u was l (fun _ => false) = 1) ∧ (¬ okL dy st c0 l0 J u was l → kB dy st c0 l0 J u was l (fun _ => false) = 0) := by
  intro l
  induction l with
  | nil => intro u was; exact ⟨fun _ => rfl, fun h => absurd trivial h⟩
  | cons j l ih =>
    intro u was
    simp only [kB, okL, RB_0]
    by_cases h : dy (uB st c0 l0 J (J 1) u was j) ≤ J 3 j
    · rw [if_pos h]
      refine ⟨fun q => ?_, fun q => ?_⟩
      · rw [(ih).1 q.2]; rfl
      · rw [(ih).2 (fun z => q ⟨h, z⟩)]; rfl
    · rw [if_neg h]
      exact ⟨fun q => absurd q.1 h, fun _ => by omega⟩
theorem okL_lN {l : List Nat} : okL dy st c0 l0 J 0 0 l ↔ ltN dy st c0 l0 J (J 1) (lf l) l.length = 0 := by
  have h1 := kB_lN (dy := dy) (st := st) (c0 := c0) (l0 := l0) (J := J) (β := fun _ => false) (l := l)
  rw [RB_0] at h1
  have h2 := okL_kB (dy := dy) (st := st) (c0 := c0) (l0 := l0) (J := J) (l := l) (u := 0) (was := 0)
  by_cases h : okL dy st c0 l0 J 0 0 l
  · have := h2.1 h
    rw [this] at h1
    refine ⟨fun _ => ?_, fun _ => h⟩
    by_cases hz : ltN dy st c0 l0 J (J 1) (lf l) l.length = 0
    · exact hz
    · rw [if_neg hz] at h1; omega
  · have := h2.2 h
    rw [this] at h1
    refine ⟨fun q => absurd q h, fun q => ?_⟩
    rw [if_pos q] at h1; omega
theorem uB_pos {R : Nat → Nat} {u was j : Nat} (h : 1 ≤ R j) : 0 < uB st c0 l0 J R u was j := by unfold uB; omega
theorem uB_mono {R : Nat → Nat} {u u' was j : Nat} (h0 : 0 < u') (h : u' ≤ u) : uB st c0 l0 J R u' was j ≤ uB st c0 l0 J R u was j := by
  unfold uB
  rw [if_neg (show ¬ u' = 0 by omega), if_neg (show ¬ u = 0 by omega)]
  omega
/-- one job less between: no later -/
theorem uB_skip {R : Nat → Nat} {u was x j : Nat} (h0 : l0 ≤ st) (hx : 1 ≤ R x) : uB st c0 l0 J R u was j ≤ uB st c0 l0 J R (uB st c0 l0 J R u was x) (J 2 x) j := by
  have hp : ¬ uB st c0 l0 J R u was x = 0 := by have := uB_pos (st := st) (c0 := c0) (l0 := l0) (J := J) (u := u) (was := was) hx; omega
  rw [show uB st c0 l0 J R (uB st c0 l0 J R u was x) (J 2 x) j = uB st c0 l0 J R u was x + (if J 2 j = J 2 x then 0 else st) + R j by rw [uB, if_neg hp]]
  unfold uB
  by_cases hu : u = 0
  · simp only [hu, if_true]
    by_cases h1 : J 2 j = c0
    · rw [if_pos h1]
      split
      · omega
      · split <;> omega
    · rw [if_neg h1]
      by_cases h2 : J 2 j = J 2 x
      · rw [if_pos h2, if_neg (by omega)]; omega
      · rw [if_neg h2]; omega
  · simp only [hu, if_false]
    by_cases h1 : J 2 j = was
    · rw [if_pos h1]; omega
    · rw [if_neg h1]
      by_cases h2 : J 2 j = J 2 x
      · rw [if_pos h2, if_neg (by omega)]; omega
      · rw [if_neg h2]; omega
theorem vOf_anti {j e e' : Nat} (h : e' ≤ e) : vOf fine J j e ≤ vOf fine J j e' := by
  have hp : ((J 4 j / 2 : Nat) : Int) ≤ (J 4 j : Int) := by omega
  unfold vOf
  by_cases h1 : e ≤ J 3 j
  · rw [if_pos h1, if_pos (by omega)]; exact Int.le_refl _
  · rw [if_neg h1]
    by_cases h2 : e' ≤ J 3 j
    · rw [if_pos h2]
      repeat' split
      all_goals omega
    · rw [if_neg h2]
      by_cases k1 : J 0 j = 1
      · simp only [k1, if_true]; omega
      · by_cases k2 : J 0 j = 2
        · simp only [k2, if_true, if_false, Nat.reduceEqDiff]; omega
        · by_cases k3 : J 0 j = 3
          · simp only [k3, if_true, if_false, Nat.reduceEqDiff]; omega
          · by_cases k4 : J 0 j = 4
            · simp only [k4, if_true, if_false, Nat.reduceEqDiff]
              by_cases k5 : e = J 3 j + 1
              · rw [if_pos k5, if_pos (by omega)]; omega
              · rw [if_neg k5]; split <;> omega
            · simp only [k1, k2, k3, k4, if_false]; omega
/-- the days are told so far, and don't fall -/
def mon (dy : Nat → Nat) (M : Nat) : Prop := ∀ u' u, 1 ≤ u' → u' ≤ u → u ≤ M → dy u' ≤ dy u
theorem uB_le21 {n u was j : Nat} (bj : bJ n J) (hj : j < n) (h2 : st ≤ 3) (h3 : l0 ≤ 3) : uB st c0 l0 J (J 1) u was j ≤ u + 12 := by
  have := (bj j hj).2.2.1
  unfold uB
  repeat' split
  all_goals omega
theorem vL_mono {n M : Nat} (hm : mon dy M) (bj : bJ n J) (h2 : st ≤ 3) (h3 : l0 ≤ 3) : ∀ {l : List Nat} {u u' was : Nat}, (∀ j ∈ l, j < n) → 0 < u' → u' ≤ u → u + 12 * l.length ≤ M → vL dy st c0 l0 fine J u was l ≤ vL dy st c0 l0 fine J u' was l ∧ (okL dy st c0 l0 J u was l → okL dy st c0 l0 J u' was l) := by
  intro l
  induction l with
  | nil => intro u u' was _ _ _ _; exact ⟨Int.le_refl _, id⟩
  | cons j l ih =>
    intro u u' was hl h0 hu hM
    have hj := hl j List.mem_cons_self
    have a := uB_mono (st := st) (c0 := c0) (l0 := l0) (J := J) (R := J 1) (was := was) (j := j) h0 hu
    have b := uB_pos (st := st) (c0 := c0) (l0 := l0) (J := J) (u := u') (was := was) (bj j hj).2.1
    have c := uB_le21 (st := st) (c0 := c0) (l0 := l0) (u := u) (was := was) bj hj h2 h3
    simp only [List.length_cons] at hM
    have hd := hm _ _ b a (by omega)
    obtain ⟨i1, i2⟩ := ih (u := uB st c0 l0 J (J 1) u was j) (u' := uB st c0 l0 J (J 1) u' was j) (was := J 2 j) (fun i hi => hl i (List.mem_cons_of_mem _ hi)) b a (by omega)
    have hv := vOf_anti (fine := fine) (J := J) (j := j) hd
    refine ⟨?_, fun q => ?_⟩
    · simp only [vL]; omega
    · simp only [okL] at q ⊢
      exact ⟨by omega, i2 q.2⟩
/-- one job less: the others are worth no less, and none of them is late that wasn't -/
theorem vL_less {n M : Nat} (hm : mon dy M) (bj : bJ n J) (h2 : st ≤ 3) (h0 : l0 ≤ st) {x : Nat} (hx : x < n) {c : List Nat} : ∀ {a : List Nat} {u was : Nat}, (∀ j ∈ a ++ x :: c, j < n) → u + 12 * (a ++ x :: c).length ≤ M →
    vL dy st c0 l0 fine J u was (a ++ x :: c) ≤ (J 4 x : Int) + vL dy st c0 l0 fine J u was (a ++ c) ∧ (okL dy st c0 l0 J u was (a ++ x :: c) → okL dy st c0 l0 J u was (a ++ c)) := by
  intro a
  induction a with
  | nil =>
    intro u was hl hM
    simp only [List.nil_append] at hl hM ⊢
    have hv := vOf_le (fine := fine) (J := J) (j := x) (e := dy (uB st c0 l0 J (J 1) u was x))
    cases c with
    | nil =>
      simp only [vL, okL]
      exact ⟨by omega, fun _ => trivial⟩
    | cons j c =>
      have hj := hl j (by simp)
      have s := uB_skip (st := st) (c0 := c0) (l0 := l0) (J := J) (R := J 1) (u := u) (was := was) (x := x) (j := j) h0 (bj x hx).2.1
      have b := uB_pos (st := st) (c0 := c0) (l0 := l0) (J := J) (u := u) (was := was) (bj j hj).2.1
      have e1 := uB_le21 (st := st) (c0 := c0) (l0 := l0) (u := u) (was := was) bj hx h2 (by omega)
      have e2 := uB_le21 (st := st) (c0 := c0) (l0 := l0) (u := uB st c0 l0 J (J 1) u was x) (was := J 2 x) bj hj h2 (by omega)
      simp only [List.length_cons] at hM
      have hd := hm _ _ b s (by omega)
      obtain ⟨i1, i2⟩ := vL_mono (fine := fine) (c0 := c0) (l0 := l0) hm bj h2 (by omega) (l := c) (u := uB st c0 l0 J (J 1) (uB st c0 l0 J (J 1) u was x) (J 2 x) j) (u' := uB st c0 l0 J (J 1) u was j) (was := J 2 j) (fun i hi => hl i (by simp [hi])) b s (by omega)
      have hv2 := vOf_anti (fine := fine) (J := J) (j := j) hd
      refine ⟨?_, fun q => ?_⟩
      · simp only [vL]; omega
      · simp only [okL] at q ⊢
        exact ⟨by omega, i2 q.2.2⟩
  | cons k a ih =>
    intro u was hl hM
    have hk := hl k (by simp)
    have e1 := uB_le21 (st := st) (c0 := c0) (l0 := l0) (u := u) (was := was) bj hk h2 (by omega)
    simp only [List.cons_append, List.length_cons] at hM
    obtain ⟨i1, i2⟩ := ih (u := uB st c0 l0 J (J 1) u was k) (was := J 2 k) (fun i hi => hl i (by simp only [List.cons_append]; exact List.mem_cons_of_mem _ hi)) (by omega)
    refine ⟨?_, fun q => ?_⟩
    · simp only [List.cons_append, vL]; omega
    · simp only [List.cons_append, okL] at q ⊢
      exact ⟨q.1, i2 q.2⟩
/-- what the worth of an order depends on -/
theorem uB_cgr {J' : Nat → Nat → Nat} {u was j : Nat} (h1 : J' 1 j = J 1 j) (h2 : J' 2 j = J 2 j) : uB st c0 l0 J' (J' 1) u was j = uB st c0 l0 J (J 1) u was j := by unfold uB; rw [h1, h2]
theorem vL_cgr {J' : Nat → Nat → Nat} : ∀ {l : List Nat} {u was : Nat}, (∀ j ∈ l, ∀ k, k ≤ 4 → J' k j = J k j) → vL dy st c0 l0 fine J' u was l = vL dy st c0 l0 fine J u was l ∧ (okL dy st c0 l0 J' u was l ↔ okL dy st c0 l0 J u was l) := by
  intro l
  induction l with
  | nil => intro u was _; exact ⟨rfl, Iff.rfl⟩
  | cons j l ih =>
    intro u was h
    have hj := h j List.mem_cons_self
    have e := uB_cgr (st := st) (c0 := c0) (l0 := l0) (J := J) (J' := J') (u := u) (was := was) (j := j) (hj 1 (by omega)) (hj 2 (by omega))
    obtain ⟨i1, i2⟩ := ih (u := uB st c0 l0 J (J 1) u was j) (was := J 2 j) (fun i hi => h i (List.mem_cons_of_mem _ hi))
    have hv : ∀ e, vOf fine J' j e = vOf fine J j e := fun e => by unfold vOf; rw [hj 0 (by omega), hj 3 (by omega), hj 4 (by omega)]
    simp only [vL, okL, e, hv, hj 2 (by omega), hj 3 (by omega), i1, i2]
    refine ⟨?_, ?_⟩ <;> first | trivial | rfl | exact Iff.rfl
theorem vL_le : ∀ {l : List Nat} {u was : Nat}, vL dy st c0 l0 fine J u was l ≤ (sL (J 4) l : Int) ∧ (okL dy st c0 l0 J u was l → vL dy st c0 l0 fine J u was l = (sL (J 4) l : Int)) := by
  intro l
  induction l with
  | nil => intro u was; exact ⟨Int.le_refl _, fun _ => rfl⟩
  | cons j l ih =>
    intro u was
    obtain ⟨i1, i2⟩ := ih (u := uB st c0 l0 J (J 1) u was j) (was := J 2 j)
    have hv := vOf_le (fine := fine) (J := J) (j := j) (e := dy (uB st c0 l0 J (J 1) u was j))
    refine ⟨?_, fun q => ?_⟩
    · simp only [vL, sL, Int.natCast_add]; omega
    · simp only [okL] at q
      have := i2 q.2
      have hv2 : vOf fine J j (dy (uB st c0 l0 J (J 1) u was j)) = (J 4 j : Int) := by unfold vOf; rw [if_pos q.1]
      simp only [vL, sL, Int.natCast_add]; omega
end
/-! the best and the least of orders -/
theorem fold_min {c : List Nat → Nat} {pre : List Nat} : ∀ {L : List (List Nat)} {b : Nat × List Nat}, (L.foldl (minG c pre) b).1 ≤ b.1 ∧ (∀ p ∈ L, (L.foldl (minG c pre) b).1 ≤ c p) ∧ ((L.foldl (minG c pre) b).1 = b.1 ∨ ∃ p ∈ L, (L.foldl (minG c pre) b).1 = c p) := by
  intro L
  induction L with
  | nil => intro b; exact ⟨Nat.le_refl _, fun p hp => by simp at hp, Or.inl rfl⟩
  | cons p l ih =>
    intro b
    rw [List.foldl_cons]
    obtain ⟨i1, i2, i3⟩ := ih (b := minG c pre b p)
    have hle : (minG c pre b p).1 ≤ b.1 ∧ (minG c pre b p).1 ≤ c p ∧ ((minG c pre b p).1 = b.1 ∨ (minG c pre b p).1 = c p) := by
      unfold minG
      split
      · next h => exact ⟨by simp only []; omega, Nat.le_refl _, Or.inr rfl⟩
      · next h => exact ⟨Nat.le_refl _, by omega, Or.inl rfl⟩
    refine ⟨by omega, fun q hq => ?_, ?_⟩
    · rcases List.mem_cons.mp hq with rfl | hq
      · omega
      · exact i2 q hq
    · rcases i3 with h | ⟨q, hq, h⟩
      · rcases hle.2.2 with g | g
        · exact Or.inl (h.trans g)
        · exact Or.inr ⟨p, List.mem_cons_self, h.trans g⟩
      · exact Or.inr ⟨q, List.mem_cons_of_mem _ hq, h⟩
section
variable {dy : Nat → Nat} {st c0 l0 fine odds n : Nat} {J : Nat → Nat → Nat}
theorem bst_top (bj : bJ n J) (bf : fine ≤ 99) (hn : n ≤ 6) : (∀ q ∈ prm n 6, vL dy st c0 l0 fine J 0 0 q ≤ (bst dy st c0 l0 fine J n).1) ∧ vL dy st c0 l0 fine J 0 0 (bst dy st c0 l0 fine J n).2 = (bst dy st c0 l0 fine J n).1 ∧ (bst dy st c0 l0 fine J n).2 ∈ prm n 6 ∧ -1200 ≤ (bst dy st c0 l0 fine J n).1 ∧ (bst dy st c0 l0 fine J n).1 ≤ 600 := by
  have hW : ∀ q ∈ prm n 6, -1200 ≤ wN dy st c0 l0 fine J (J 1) (lf q) q.length ∧ wN dy st c0 l0 fine J (J 1) (lf q) q.length ≤ 600 := W_low bj bf hn
  have hin : (bst dy st c0 l0 fine J n).2 ∈ prm n 6 := bestG_in (f := fun p => wN dy st c0 l0 fine J (J 1) (lf p) p.length) hn (by omega) (fun q hq => by have := hW q hq; show (-2147483648 : Int) < wN dy st c0 l0 fine J (J 1) (lf q) q.length; omega)
  have hval : ∀ {L : List (List Nat)} {b : Int × List Nat}, (L.foldl (bestG (fun p => wN dy st c0 l0 fine J (J 1) (lf p) p.length)) b) = b ∨ (L.foldl (bestG (fun p => wN dy st c0 l0 fine J (J 1) (lf p) p.length)) b).1 = wN dy st c0 l0 fine J (J 1) (lf (L.foldl (bestG (fun p => wN dy st c0 l0 fine J (J 1) (lf p) p.length)) b).2) (L.foldl (bestG (fun p => wN dy st c0 l0 fine J (J 1) (lf p) p.length)) b).2.length := by
    intro L
    induction L with
    | nil => intro b; exact Or.inl rfl
    | cons p l ih =>
      intro b
      rw [List.foldl_cons]
      by_cases hc : b.1 < wN dy st c0 l0 fine J (J 1) (lf p) p.length
      · rw [show bestG (fun p => wN dy st c0 l0 fine J (J 1) (lf p) p.length) b p = (wN dy st c0 l0 fine J (J 1) (lf p) p.length, p) from if_pos hc]
        rcases ih (b := (wN dy st c0 l0 fine J (J 1) (lf p) p.length, p)) with h | h
        · right; rw [h]
        · exact Or.inr h
      · rw [show bestG (fun p => wN dy st c0 l0 fine J (J 1) (lf p) p.length) b p = b from if_neg hc]
        exact ih
  obtain ⟨t1, t2, t3⟩ := fold_top (f := fun p => wN dy st c0 l0 fine J (J 1) (lf p) p.length) (L := prm n 6) (b := (-2147483648, []))
  have hv : vL dy st c0 l0 fine J 0 0 (bst dy st c0 l0 fine J n).2 = (bst dy st c0 l0 fine J n).1 := by
    rcases hval (L := prm n 6) (b := (-2147483648, [])) with h | h
    · have h1 : bst dy st c0 l0 fine J n = (-2147483648, []) := h
      have h2 := t2 _ hin
      have h3 := hW _ hin
      have h4 : ((prm n 6).foldl (bestG (fun p => wN dy st c0 l0 fine J (J 1) (lf p) p.length)) (-2147483648, [])).1 = -2147483648 := by
        have := congrArg Prod.fst h1; exact this
      omega
    · rw [← vL_wN]; exact h.symm
  have hb := hW _ hin
  rw [vL_wN, hv] at hb
  refine ⟨fun q hq => ?_, hv, hin, hb.1, hb.2⟩
  rw [← vL_wN]; exact t2 q hq
theorem few_top (hn : n ≤ 6) : (∀ q ∈ prm n 6, few dy st c0 l0 J n ≤ ltN dy st c0 l0 J (J 1) (lf q) q.length) ∧ (few dy st c0 l0 J n = 0 ↔ ∃ q ∈ prm n 6, okL dy st c0 l0 J 0 0 q) := by
  obtain ⟨h1, h2, h3⟩ := fold_min (c := fun p => ltN dy st c0 l0 J (J 1) (lf p) p.length) (pre := []) (L := prm n 6) (b := (1000000, []))
  refine ⟨h2, ⟨fun h => ?_, fun ⟨q, hq, h⟩ => ?_⟩⟩
  · rcases h3 with g | ⟨q, hq, g⟩
    · have : few dy st c0 l0 J n = 1000000 := g
      omega
    · exact ⟨q, hq, okL_lN.mpr (g.symm.trans h)⟩
  · have := h2 q hq
    have h0 := okL_lN.mp h
    have h4 : few dy st c0 l0 J n ≤ ltN dy st c0 l0 J (J 1) (lf q) q.length := this
    omega
theorem prm_of {q : List Nat} (hn : n ≤ 6) (h : q.Perm (List.range n)) : q ∈ prm n 6 := perm_prm hn h
theorem prm_to {q : List Nat} (hn : n ≤ 6) (h : q ∈ prm n 6) : q.Perm (List.range n) := by have := prm_perm h; rwa [rmB_all hn] at this
/-- with none late the best is all prices -/
theorem bst_all (bj : bJ n J) (bf : fine ≤ 99) (hn : n ≤ 6) : (bst dy st c0 l0 fine J n).1 ≤ (sL (J 4) (List.range n) : Int) ∧ (few dy st c0 l0 J n = 0 → (bst dy st c0 l0 fine J n).1 = (sL (J 4) (List.range n) : Int)) := by
  obtain ⟨t1, t2, t3, -⟩ := bst_top (dy := dy) (st := st) (c0 := c0) (l0 := l0) bj bf hn
  have h1 := (vL_le (dy := dy) (st := st) (c0 := c0) (l0 := l0) (fine := fine) (J := J) (l := (bst dy st c0 l0 fine J n).2) (u := 0) (was := 0)).1
  rw [t2, sL_perm (prm_to hn t3)] at h1
  refine ⟨h1, fun h => ?_⟩
  obtain ⟨q, hq, ho⟩ := (few_top hn).2.mp h
  have h2 := (vL_le (dy := dy) (st := st) (c0 := c0) (l0 := l0) (fine := fine) (J := J) (l := q) (u := 0) (was := 0)).2 ho
  rw [sL_perm (prm_to hn hq)] at h2
  have := t1 q hq
  omega
/-- a job taken out of an order -/
theorem split_at {q : List Nat} (hq : q.Perm (List.range (n + 1))) : ∃ a c, q = a ++ n :: c ∧ (a ++ c).Perm (List.range n) := by
  have hm : n ∈ q := hq.mem_iff.mpr (by simp)
  obtain ⟨a, c, rfl⟩ := List.append_of_mem hm
  refine ⟨a, c, rfl, ?_⟩
  rw [List.range_succ] at hq
  have h1 : (n :: (a ++ c)).Perm (a ++ n :: c) := List.perm_middle.symm
  have h2 : (List.range n ++ [n]).Perm (n :: List.range n) := List.perm_append_comm
  exact List.Perm.cons_inv (h1.trans (hq.trans h2))
end
