/-! 70: jobs numbered otherwise -/
theorem fold_top {f : List Nat → Int} : ∀ {L : List (List Nat)} {b : Int × List Nat}, b.1 ≤ (L.foldl (bestG f) b).1 ∧ (∀ p ∈ L, f p ≤ (L.foldl (bestG f) b).1) ∧ ((L.foldl (bestG f) b).1 = b.1 ∨ ∃ p ∈ L, (L.foldl (bestG f) b).1 = f p) := by
  intro L
  induction L with
  | nil => intro b; refine ⟨Int.le_refl _, fun p hp => by simp at hp, Or.inl rfl⟩
  | cons p l ih =>
    intro b
    rw [List.foldl_cons]
    obtain ⟨h1, h2, h3⟩ := ih (b := bestG f b p)
    have g : b.1 ≤ (bestG f b p).1 ∧ f p ≤ (bestG f b p).1 ∧ ((bestG f b p).1 = b.1 ∨ (bestG f b p).1 = f p) := by
      unfold bestG
      split
      · exact ⟨by omega, Int.le_refl _, Or.inr rfl⟩
      · exact ⟨Int.le_refl _, by omega, Or.inl rfl⟩
    refine ⟨by omega, fun q hq => ?_, ?_⟩
    · rcases List.mem_cons.mp hq with rfl | hq
      · omega
      · exact h2 q hq
    · rcases h3 with h3 | ⟨q, hq, h3⟩
      · rcases g.2.2 with g | g
        · left; omega
        · right; exact ⟨p, List.mem_cons_self, by omega⟩
      · right; exact ⟨q, List.mem_cons_of_mem _ hq, h3⟩
section
variable {dy : Nat → Nat} {st c0 l0 fine n : Nat} {J J' : Nat → Nat → Nat}
theorem Vb_bd (bj : bJ n J) (bf : fine ≤ 99) (hn : n ≤ 6) : -2000 ≤ Vb dy st c0 l0 fine J n 6 ∧ Vb dy st c0 l0 fine J n 6 ≤ 2000 := by
  have h := fold_top (f := fun p => wN dy st c0 l0 fine J (J 1) (lf p) p.length) (L := prm n 6) (b := (-2147483648, []))
  have w := W_low (dy := dy) (st := st) (c0 := c0) (l0 := l0) (fine := fine) (n := n) (b := 6) bj bf hn
  obtain ⟨p, l, hp⟩ := prm_ne (n := n) (b := 6) hn (by omega)
  have hpm : p ∈ prm n 6 := by rw [hp]; exact List.mem_cons_self
  have w1 := w p hpm
  have h1 := h.2.1 p hpm
  unfold Vb
  rcases h.2.2 with h2 | ⟨q, hq, h2⟩
  · have h2' : _ = (-2147483648 : Int) := h2
    omega
  · have w2 := w q hq
    omega
theorem uN_cgr {p q : Nat → Nat} {m : Nat} (h : ∀ i, i < m → ∀ k, J' k (p i) = J k (q i)) : ∀ i, i ≤ m → uN st c0 l0 J' (J' 1) p i = uN st c0 l0 J (J 1) q i ∧ wasN J' p i = wasN J q i := by
  intro i
  induction i with
  | zero => intro _; exact ⟨rfl, rfl⟩
  | succ i ih =>
    intro hi
    obtain ⟨h1, h2⟩ := ih (by omega)
    have e := h i (by omega)
    refine ⟨?_, e 2⟩
    simp only [uN, uB, h1, h2, e]
theorem wN_cgr {p q : Nat → Nat} {m : Nat} (h : ∀ i, i < m → ∀ k, J' k (p i) = J k (q i)) : ∀ i, i ≤ m → wN dy st c0 l0 fine J' (J' 1) p i = wN dy st c0 l0 fine J (J 1) q i := by
  intro i
  induction i with
  | zero => intro _; rfl
  | succ i ih =>
    intro hi
    have e := h i (by omega)
    simp only [wN, ih (by omega), (uN_cgr (st := st) (c0 := c0) (l0 := l0) h (i + 1) hi).1]
    congr 1
    simp only [vOf, e]
theorem Vb_le {s : Nat → Nat} (hn : n ≤ 6) (hs : ∀ y, y < n → s y < n) (hs2 : ∀ y, y < n → s (s y) = y) (hJ : ∀ y, y < n → ∀ k, J' k y = J k (s y)) : Vb dy st c0 l0 fine J' n 6 ≤ Vb dy st c0 l0 fine J n 6 := by
  have h' := fold_top (f := fun p => wN dy st c0 l0 fine J' (J' 1) (lf p) p.length) (L := prm n 6) (b := (-2147483648, []))
  have h := fold_top (f := fun p => wN dy st c0 l0 fine J (J 1) (lf p) p.length) (L := prm n 6) (b := (-2147483648, []))
  unfold Vb
  rcases h'.2.2 with e | ⟨p, hp, e⟩
  · rw [e]; exact h.1
  · rw [e]
    have hpp := prm_perm hp
    rw [rmB_all hn] at hpp
    have hmap : ((List.range n).map s).Perm (List.range n) := by
      refine (perm_of_sub List.nodup_range (fun x hx => ?_) (by simp)).symm
      have hx' : x < n := by simpa using hx
      rw [List.mem_map]
      exact ⟨s x, by simpa using hs x hx', hs2 x hx'⟩
    have hq : p.map s ∈ prm n 6 := by
      apply pms_mem rfl
      rw [rmB_all hn]
      exact (hpp.map s).trans hmap
    have hv := h.2.1 _ hq
    have hlen : p.length = n := by rw [hpp.length_eq, List.length_range]
    have hlf : ∀ i, i < p.length → lf (p.map s) i = s (lf p i) := fun i hi => by
      unfold lf; simp [List.getD_eq_getElem?_getD, List.getElem?_eq_getElem hi]
    have ew := wN_cgr (dy := dy) (st := st) (c0 := c0) (l0 := l0) (fine := fine) (J := J) (J' := J') (p := lf p) (q := lf (p.map s)) (m := p.length) (fun i hi k => by
      rw [hlf i hi]; exact hJ _ (prm_mem hp _ (getD_mem hi)) k) p.length (Nat.le_refl _)
    have : wN dy st c0 l0 fine J (J 1) (lf (p.map s)) (p.map s).length ≤ _ := hv
    rw [List.length_map] at this
    rw [ew]
    exact this
theorem Vb_renum {s : Nat → Nat} (hn : n ≤ 6) (hs : ∀ y, y < n → s y < n) (hs2 : ∀ y, y < n → s (s y) = y) (hJ : ∀ y, y < n → ∀ k, J' k y = J k (s y)) : Vb dy st c0 l0 fine J' n 6 = Vb dy st c0 l0 fine J n 6 := by
  apply Int.le_antisymm (Vb_le hn hs hs2 hJ)
  refine Vb_le hn hs hs2 (fun y hy k => ?_)
  rw [hJ (s y) (hs y hy) k, hs2 y hy]
end
/-- the board with jobs that came -/
def jX (n : Nat) (J R : Nat → Nat → Nat) (l : List Nat) : Nat → Nat → Nat := fun i y => if y < n then J i y else R i (lf l (y - n))
theorem lf_rev {l : List Nat} {i : Nat} (h : i < l.length) : lf l.reverse i = lf l (l.length - 1 - i) := by
  unfold lf
  rw [List.getD_eq_getElem?_getD, List.getD_eq_getElem?_getD, List.getElem?_reverse h]
theorem VX_rev {dy : Nat → Nat} {st c0 l0 fine n : Nat} {J R : Nat → Nat → Nat} {l : List Nat} (hn : n + l.length ≤ 6) : Vb dy st c0 l0 fine (jX n J R l.reverse) (n + l.length) 6 = Vb dy st c0 l0 fine (jX n J R l) (n + l.length) 6 := by
  refine Vb_renum (s := fun y => if y < n then y else 2 * n + l.length - 1 - y) hn (fun y hy => ?_) (fun y hy => ?_) (fun y hy k => ?_)
  · show (if y < n then y else 2 * n + l.length - 1 - y) < n + l.length
    split <;> omega
  · show (if (if y < n then y else 2 * n + l.length - 1 - y) < n then (if y < n then y else 2 * n + l.length - 1 - y) else 2 * n + l.length - 1 - (if y < n then y else 2 * n + l.length - 1 - y)) = y
    by_cases h : y < n
    · rw [if_pos h, if_pos h]
    · rw [if_neg h, if_neg (by omega)]; omega
  · show jX n J R l.reverse k y = jX n J R l k (if y < n then y else 2 * n + l.length - 1 - y)
    unfold jX
    by_cases h : y < n
    · rw [if_pos h, if_pos h, if_pos h]
    · rw [if_neg h, if_neg h, if_neg (by omega), lf_rev (by omega)]
      congr 2; omega
def zS (f : Nat → Int) : Nat → Int
  | 0 => 0
  | i + 1 => zS f i + f i
/-- worth of what comes, in parts of 4 to the calls -/
def aC (V : List Nat → Int) (od : Nat → Nat) (k : Nat) : Nat → List Nat → Int
  | 0, l => V l
  | c + 1, l => aC V od k c l * ((4 : Int) - (sN od k : Int)) + zS (fun x => (od x : Int) * (if aC V od k c (l ++ [x]) < aC V od k c l then aC V od k c l else aC V od k c (l ++ [x]))) k
theorem zS_cgr {f g : Nat → Int} : ∀ {k : Nat}, (∀ x, x < k → f x = g x) → zS f k = zS g k := by
  intro k
  induction k with
  | zero => intro _; rfl
  | succ k ih => intro h; simp only [zS, ih (fun x hx => h x (by omega)), h k (by omega)]
theorem aC_cgr {V V' : List Nat → Int} {od : Nat → Nat} {k m : Nat} (h : ∀ l, l.length ≤ m → V l = V' l) : ∀ c l, l.length + c ≤ m → aC V od k c l = aC V' od k c l := by
  intro c
  induction c with
  | zero => intro l hl; exact h l (by omega)
  | succ c ih =>
    intro l hl
    simp only [aC]
    rw [ih l (by omega), zS_cgr (g := fun x => (od x : Int) * (if aC V' od k c (l ++ [x]) < aC V' od k c l then aC V' od k c l else aC V' od k c (l ++ [x]))) (fun x _ => by rw [ih (l ++ [x]) (by simp; omega)])]
theorem zS_bd {f : Nat → Int} {od : Nat → Nat} {M : Int} : ∀ {k : Nat}, (∀ x, x < k → -M ≤ f x ∧ f x ≤ M) → -(M * (sN od k : Int)) ≤ zS (fun x => (od x : Int) * f x) k ∧ zS (fun x => (od x : Int) * f x) k ≤ M * (sN od k : Int) := by
  intro k
  induction k with
  | zero => intro _; simp [zS, sN]
  | succ k ih =>
    intro h
    obtain ⟨h1, h2⟩ := ih (fun x hx => h x (by omega))
    obtain ⟨g1, g2⟩ := h k (by omega)
    simp only [zS, sN]
    have e : M * ((sN od k + od k : Nat) : Int) = M * (sN od k : Int) + M * (od k : Int) := by rw [Int.natCast_add, Int.mul_add]
    rw [e]
    have k1 : (od k : Int) * f k ≤ (od k : Int) * M := Int.mul_le_mul_of_nonneg_left g2 (by omega)
    have k2 : (od k : Int) * (-M) ≤ (od k : Int) * f k := Int.mul_le_mul_of_nonneg_left g1 (by omega)
    have k3 : (od k : Int) * M = M * (od k : Int) := Int.mul_comm _ _
    have k4 : (od k : Int) * (-M) = -(M * (od k : Int)) := by rw [Int.mul_neg, k3]
    omega
theorem aC_bd {V : List Nat → Int} {od : Nat → Nat} {k m : Nat} (hod : sN od k ≤ 4) (h : ∀ l, l.length ≤ m → (∀ x ∈ l, x < k) → -2000 ≤ V l ∧ V l ≤ 2000) : ∀ c l, l.length + c ≤ m → (∀ x ∈ l, x < k) → -(2000 * (4 : Int) ^ c) ≤ aC V od k c l ∧ aC V od k c l ≤ 2000 * (4 : Int) ^ c := by
  intro c
  induction c with
  | zero => intro l hl hx; simp only [aC]; have := h l (by omega) hx; simp; omega
  | succ c ih =>
    intro l hl hx
    simp only [aC]
    obtain ⟨a1, a2⟩ := ih l (by omega) hx
    have key := zS_bd (od := od) (M := 2000 * (4 : Int) ^ c) (k := k) (f := fun x => if aC V od k c (l ++ [x]) < aC V od k c l then aC V od k c l else aC V od k c (l ++ [x])) (fun x hxk => by
      obtain ⟨b1, b2⟩ := ih (l ++ [x]) (by simp; omega) (fun y hy => by
        rcases List.mem_append.mp hy with hy | hy
        · exact hx y hy
        · simp at hy; omega)
      show -(2000 * (4 : Int) ^ c) ≤ (if aC V od k c (l ++ [x]) < aC V od k c l then aC V od k c l else aC V od k c (l ++ [x])) ∧ (if aC V od k c (l ++ [x]) < aC V od k c l then aC V od k c l else aC V od k c (l ++ [x])) ≤ 2000 * (4 : Int) ^ c
      split <;> omega)
    rw [Int.pow_succ]
    generalize (4 : Int) ^ c = P at *
    generalize hA : aC V od k c l = A at *
    generalize hZ : zS (fun x => (od x : Int) * (if aC V od k c (l ++ [x]) < A then A else aC V od k c (l ++ [x]))) k = Z at *
    have hs : (sN od k : Int) ≤ 4 := by omega
    have hs0 : (0 : Int) ≤ (sN od k : Int) := by omega
    generalize (sN od k : Int) = s at *
    have k1 : A * (4 - s) ≤ (2000 * P) * (4 - s) := Int.mul_le_mul_of_nonneg_right a2 (by omega)
    have k2 : (-(2000 * P)) * (4 - s) ≤ A * (4 - s) := Int.mul_le_mul_of_nonneg_right a1 (by omega)
    have e1 : (2000 * P) * (4 - s) = (2000 * P) * 4 - (2000 * P) * s := by rw [Int.mul_sub]
    have e2 : (-(2000 * P)) * (4 - s) = -((2000 * P) * (4 - s)) := by rw [Int.neg_mul]
    have e3 : 2000 * (P * 4) = (2000 * P) * 4 := by rw [Int.mul_assoc]
    rw [e3]
    omega

