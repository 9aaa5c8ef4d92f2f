/-! 21: the course of work, in numbers -/
/-- slots of the first k days from d on -/
def cmS (S : Nat → Nat) (d : Nat) : Nat → Nat
  | 0 => 0
  | k + 1 => cmS S d k + S (d + k)
/-- the u-th slot from day d0 on lies on day d -/
def isD (S : Nat → Nat) (d0 u d : Nat) : Prop := d0 ≤ d ∧ cmS S d0 (d - d0) < u ∧ u ≤ cmS S d0 (d - d0 + 1)
theorem cmS_mono {S : Nat → Nat} {d i j : Nat} (h : i ≤ j) : cmS S d i ≤ cmS S d j := by
  induction j with
  | zero => have : i = 0 := by omega
            subst this; exact Nat.le_refl _
  | succ j ih =>
    by_cases hj : i = j + 1
    · subst hj; exact Nat.le_refl _
    · have := ih (by omega)
      simp only [cmS]; omega
theorem isD_uniq {S : Nat → Nat} {d0 u d d' : Nat} (h : isD S d0 u d) (h' : isD S d0 u d') : d = d' := by
  obtain ⟨h1, h2, h3⟩ := h
  obtain ⟨g1, g2, g3⟩ := h'
  by_cases hlt : d < d'
  · have := cmS_mono (S := S) (d := d0) (show d - d0 + 1 ≤ d' - d0 by omega)
    omega
  · by_cases hgt : d' < d
    · have := cmS_mono (S := S) (d := d0) (show d' - d0 + 1 ≤ d - d0 by omega)
      omega
    · omega
theorem isD_mono {S : Nat → Nat} {d0 u u' d d' : Nat} (h : isD S d0 u d) (h' : isD S d0 u' d') (hu : u ≤ u') : d ≤ d' := by
  obtain ⟨h1, h2, h3⟩ := h
  obtain ⟨g1, g2, g3⟩ := h'
  by_cases hgt : d' < d
  · have := cmS_mono (S := S) (d := d0) (show d' - d0 + 1 ≤ d - d0 by omega)
    omega
  · omega
section
variable (dy : Nat → Nat) (st c0 l0 fine : Nat) (J : Nat → Nat → Nat) (R : Nat → Nat)
/-- slots used when a job ends that is next -/
def uB (u was j : Nat) : Nat := u + (if u = 0 then (if J 2 j = c0 then l0 else st) else if J 2 j = was then 0 else st) + R j
/-- worth of a job that ends on a day -/
def vOf (j e : Nat) : Int :=
  if e ≤ J 3 j then (J 4 j : Int)
  else if J 0 j = 1 then -2 * (fine : Int)
  else if J 0 j = 2 then ((J 4 j / 2 : Nat) : Int)
  else if J 0 j = 3 then ((J 4 j / 2 : Nat) : Int) - (fine : Int)
  else if J 0 j = 4 then (if e = J 3 j + 1 then 0 else -2 * (fine : Int))
  else -(fine : Int)
def wasN (p : Nat → Nat) : Nat → Nat
  | 0 => 0
  | i + 1 => J 2 (p i)
/-- slots used behind i jobs of an order -/
def uN (p : Nat → Nat) : Nat → Nat
  | 0 => 0
  | i + 1 => uB st c0 l0 J R (uN p i) (wasN J p i) (p i)
/-- worth of the first i of an order -/
def wN (p : Nat → Nat) : Nat → Int
  | 0 => 0
  | i + 1 => wN p i + vOf fine J (p i) (dy (uN st c0 l0 J R p (i + 1)))
/-- how many of the first i are late -/
def ltN (p : Nat → Nat) : Nat → Nat
  | 0 => 0
  | i + 1 => ltN p i + (if dy (uN st c0 l0 J R p (i + 1)) ≤ J 3 (p i) then 0 else 1)
end
theorem vOf_le {fine : Nat} {J : Nat → Nat → Nat} {j e : Nat} : vOf fine J j e ≤ (J 4 j : Int) := by
  unfold vOf
  have : ((J 4 j / 2 : Nat) : Int) ≤ (J 4 j : Int) := by omega
  repeat' split
  all_goals omega
theorem vOf_ge {fine : Nat} {J : Nat → Nat → Nat} {j e : Nat} : -2 * (fine : Int) ≤ vOf fine J j e := by
  unfold vOf
  repeat' split
  all_goals omega
theorem uB_lt {st c0 l0 : Nat} {J : Nat → Nat → Nat} {R : Nat → Nat} {u was j : Nat} (h1 : 1 ≤ R j) : u < uB st c0 l0 J R u was j := by
  unfold uB; omega
theorem uB_le {st c0 l0 : Nat} {J : Nat → Nat → Nat} {R : Nat → Nat} {u was j : Nat} (h1 : R j ≤ 18) (h2 : st ≤ 3) (h3 : l0 ≤ 3) : uB st c0 l0 J R u was j ≤ u + 21 := by
  unfold uB
  repeat' split
  all_goals omega
/-- the rest of an order: its worth -/
theorem uN_le {st c0 l0 : Nat} {J : Nat → Nat → Nat} {R : Nat → Nat} {p : Nat → Nat} {m : Nat} (h1 : ∀ i, i < m → R (p i) ≤ 18) (h2 : st ≤ 3) (h3 : l0 ≤ 3) : ∀ i, i ≤ m → uN st c0 l0 J R p i ≤ 21 * i := by
  intro i
  induction i with
  | zero => intro _; exact Nat.le_refl _
  | succ i ih =>
    intro hi
    have a := ih (by omega)
    have b := uB_le (st := st) (c0 := c0) (l0 := l0) (J := J) (R := R) (u := uN st c0 l0 J R p i) (was := wasN J p i) (j := p i) (h1 i (by omega)) h2 h3
    simp only [uN]; omega
theorem uN_pos {st c0 l0 : Nat} {J : Nat → Nat → Nat} {R : Nat → Nat} {p : Nat → Nat} {i : Nat} (h1 : 1 ≤ R (p i)) : 1 ≤ uN st c0 l0 J R p (i + 1) := by
  have := uB_lt (st := st) (c0 := c0) (l0 := l0) (J := J) (R := R) (u := uN st c0 l0 J R p i) (was := wasN J p i) h1
  simp only [uN]; omega
/-- what an order depends on -/
theorem uN_congr {st c0 l0 : Nat} {J : Nat → Nat → Nat} {R : Nat → Nat} {p q : Nat → Nat} : ∀ {i : Nat}, (∀ k, k < i → p k = q k) → uN st c0 l0 J R p i = uN st c0 l0 J R q i := by
  intro i
  induction i with
  | zero => intro _; rfl
  | succ i ih =>
    intro h
    have hw : wasN J p i = wasN J q i := by
      cases i with
      | zero => rfl
      | succ i => simp only [wasN, h i (by omega)]
    simp only [uN, ih (fun k hk => h k (by omega)), hw, h i (by omega)]
theorem wN_congr {dy : Nat → Nat} {st c0 l0 fine : Nat} {J : Nat → Nat → Nat} {R : Nat → Nat} {p q : Nat → Nat} : ∀ {i : Nat}, (∀ k, k < i → p k = q k) → wN dy st c0 l0 fine J R p i = wN dy st c0 l0 fine J R q i := by
  intro i
  induction i with
  | zero => intro _; rfl
  | succ i ih =>
    intro h
    simp only [wN, ih (fun k hk => h k (by omega)), uN_congr h, h i (by omega)]
theorem lN_congr {dy : Nat → Nat} {st c0 l0 : Nat} {J : Nat → Nat → Nat} {R : Nat → Nat} {p q : Nat → Nat} : ∀ {i : Nat}, (∀ k, k < i → p k = q k) → ltN dy st c0 l0 J R p i = ltN dy st c0 l0 J R q i := by
  intro i
  induction i with
  | zero => intro _; rfl
  | succ i ih =>
    intro h
    simp only [ltN, ih (fun k hk => h k (by omega)), uN_congr h, h i (by omega)]

