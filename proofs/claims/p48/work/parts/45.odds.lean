/-! 45: across, nights, sure, mean, safest -/
def Vb (dy : Nat → Nat) (st c0 l0 fine : Nat) (J : Nat → Nat → Nat) (n b : Nat) : Int := ((prm n b).foldl (bestG (fun p => wN dy st c0 l0 fine J (J 1) (lf p) p.length)) (-2147483648, [])).1
def acr (V : Nat → Int) (pr : Nat → Nat) : Nat → Int32 × Int
  | 0 => (-9, V 6)
  | i + 1 => if V i + ((pr i / 2 : Nat) : Int) ≤ (acr V pr i).2 then acr V pr i else (nI i, V i + ((pr i / 2 : Nat) : Int))
theorem acr_bd {V : Nat → Int} {pr : Nat → Nat} {n : Nat} (h6 : -2000 ≤ V 6 ∧ V 6 ≤ 2000) (hV : ∀ i, i < n → -2000 ≤ V i ∧ V i ≤ 2000) (hp : ∀ i, i < n → pr i ≤ 99) : ∀ i, i ≤ n → -3000 ≤ (acr V pr i).2 ∧ (acr V pr i).2 ≤ 3000 := by
  intro i
  induction i with
  | zero => intro _; simp only [acr]; omega
  | succ i ih =>
    intro h
    have h1 := hV i (by omega)
    have h2 := hp i (by omega)
    rw [acr]
    split
    · exact ih (by omega)
    · simp only []; omega
theorem job_iff {n b : Nat} (hb : b < n) (hn : n ≤ 6) : ∀ j, j < n → ((nI j = nI b) ↔ j = b) := fun j hj => by rw [neq (by omega) (by omega)]
theorem mB_TO {o k : Nat} (q : mB o k = true) : TO o k = false := TO_p (by
  simp only [mB, Bool.or_eq_true, Bool.and_eq_true, beq_iff_eq] at q
  simp only [pM, Bool.or_eq_true, Bool.and_eq_true, beq_iff_eq, decide_eq_true_eq]; omega)
def TLo (o k : Nat) : Bool := TO o k || (o == 0 && (k == 32 || k == 33))
theorem TLo_p {o k : Nat} (h : pM o k = true) : TLo o k = false := by
  unfold TLo; rw [TO_p h]
  simp only [pM, Bool.or_eq_true, Bool.and_eq_true, beq_iff_eq, decide_eq_true_eq] at h
  simp; omega
theorem TLo_O {o k : Nat} (h : TLo o k = false) : TO o k = false := by simp only [TLo, Bool.or_eq_false_iff] at h; exact h.1
theorem TLo_l {o k : Nat} (h : TLo o k = false) : (o == 0 && (k == 32 || k == 33)) = false := by simp only [TLo, Bool.or_eq_false_iff] at h; exact h.2
theorem ltlt {n : Nat} (hn : n ≤ 6) : (1 : Int32) <<< ((2 * nI n) &&& 31) = nI (4 ^ n) := by rw [n2, nmul]; exact shl2 (by omega)
theorem oB_comb {odds : Nat} {x y X : Int} (ho : odds ≤ 4) (hx : x ≤ X) (hy : y ≤ X) : oB odds false * x + oB odds true * y ≤ 4 * X := by
  have h1 := Int.mul_le_mul_of_nonneg_left hx (oB_nn ho false)
  have h2 := Int.mul_le_mul_of_nonneg_left hy (oB_nn ho true)
  have e : oB odds false * X + oB odds true * X = 4 * X := by rw [← Int.add_mul]; congr 1; simp [oB]
  omega
theorem oB_comb2 {odds : Nat} {x y X : Int} (ho : odds ≤ 4) (hx : X ≤ x) (hy : X ≤ y) : 4 * X ≤ oB odds false * x + oB odds true * y := by
  have h1 := Int.mul_le_mul_of_nonneg_left hx (oB_nn ho false)
  have h2 := Int.mul_le_mul_of_nonneg_left hy (oB_nn ho true)
  have e : oB odds false * X + oB odds true * X = 4 * X := by rw [← Int.add_mul]; congr 1; simp [oB]
  omega
theorem mvL_bd {dy : Nat → Nat} {st c0 l0 fine odds n : Nat} {J : Nat → Nat → Nat} (bj : bJ n J) (bf : fine ≤ 99) (ho : odds ≤ 4) : ∀ {l : List Nat} {u was : Nat}, (∀ j ∈ l, j < n) → -198 * ((l.length : Int) * 4 ^ l.length) ≤ mvL dy st c0 l0 fine odds J u was l ∧ mvL dy st c0 l0 fine odds J u was l ≤ 198 * ((l.length : Int) * 4 ^ l.length) := by
  intro l
  induction l with
  | nil => intro u was _; simp [mvL]
  | cons j l ih =>
    intro u was h
    have hl : ∀ i ∈ l, i < n := fun i hi => h i (List.mem_cons_of_mem _ hi)
    have b5 := (bj j (h j List.mem_cons_self)).2.2.2.2.2
    have a := ih (u := uB st c0 l0 J (J 1) u was j) (was := J 2 j) hl
    have b := ih (u := uB st c0 l0 J (J 1) u was j + J 1 j) (was := J 2 j) hl
    have vb : ∀ e, -198 ≤ vOf fine J j e ∧ vOf fine J j e ≤ 198 := fun e => by
      have v1 := vOf_le (fine := fine) (J := J) (j := j) (e := e)
      have v2 := vOf_ge (fine := fine) (J := J) (j := j) (e := e)
      omega
    have hp : (0 : Int) ≤ 4 ^ l.length := Int.pow_nonneg (by omega)
    have m1 := fun e => Int.mul_le_mul_of_nonneg_right (vb e).1 hp
    have m2 := fun e => Int.mul_le_mul_of_nonneg_right (vb e).2 hp
    have e4 : ((l.length + 1 : Nat) : Int) * 4 ^ (l.length + 1) = 4 * ((l.length : Int) * 4 ^ l.length + 4 ^ l.length) := by
      rw [Int.pow_succ, Int.natCast_add, Int.add_mul, Int.mul_add, Int.mul_comm (4 ^ l.length) 4, ← Int.mul_assoc, Int.mul_comm (l.length : Int) 4, Int.mul_assoc]
      simp
    rw [List.length_cons, e4, mvL]
    generalize hX : (l.length : Int) * 4 ^ l.length = X at *
    generalize (4 : Int) ^ l.length = P at *
    have c1 := oB_comb (odds := odds) (X := 198 * X + 198 * P) (x := vOf fine J j (dy (uB st c0 l0 J (J 1) u was j)) * P + mvL dy st c0 l0 fine odds J (uB st c0 l0 J (J 1) u was j) (J 2 j) l) (y := vOf fine J j (dy (uB st c0 l0 J (J 1) u was j + J 1 j)) * P + mvL dy st c0 l0 fine odds J (uB st c0 l0 J (J 1) u was j + J 1 j) (J 2 j) l) ho (by have := m2 (dy (uB st c0 l0 J (J 1) u was j)); omega) (by have := m2 (dy (uB st c0 l0 J (J 1) u was j + J 1 j)); omega)
    have c2 := oB_comb2 (odds := odds) (X := -198 * X + -198 * P) (x := vOf fine J j (dy (uB st c0 l0 J (J 1) u was j)) * P + mvL dy st c0 l0 fine odds J (uB st c0 l0 J (J 1) u was j) (J 2 j) l) (y := vOf fine J j (dy (uB st c0 l0 J (J 1) u was j + J 1 j)) * P + mvL dy st c0 l0 fine odds J (uB st c0 l0 J (J 1) u was j + J 1 j) (J 2 j) l) ho (by have := m1 (dy (uB st c0 l0 J (J 1) u was j)); omega) (by have := m1 (dy (uB st c0 l0 J (J 1) u was j + J 1 j)); omega)
    constructor
    · have : -198 * (4 * (X + P)) = 4 * (-198 * X + -198 * P) := by omega
      omega
    · have : 198 * (4 * (X + P)) = 4 * (198 * X + 198 * P) := by omega
      omega
