/-! 20: numbers: nI of naturals, zI of integers -/
def zI (z : Int) : Int32 := Int32.ofInt z
theorem zI_nI (n : Nat) : nI n = zI (n : Int) := (Int32.ofInt_eq_ofNat (n := n)).symm
theorem zI_toInt (x : Int32) : zI x.toInt = x := Int32.ofInt_toInt x
theorem zadd (a b : Int) : zI a + zI b = zI (a + b) := (Int32.ofInt_add a b).symm
theorem zsub (a b : Int) : zI a - zI b = zI (a - b) := (Int32.ofInt_sub a b).symm
theorem zmul (a b : Int) : zI a * zI b = zI (a * b) := (Int32.ofInt_mul a b).symm
theorem zneg (a : Int) : -zI a = zI (-a) := (Int32.ofInt_neg a).symm
theorem ztoInt {a : Int} (h1 : -2147483648 ≤ a) (h2 : a ≤ 2147483647) : (zI a).toInt = a := Int32.toInt_ofInt_of_le (by omega) (by omega)
theorem zlt {a b : Int} (h1 : -2147483648 ≤ a) (h2 : a ≤ 2147483647) (h3 : -2147483648 ≤ b) (h4 : b ≤ 2147483647) : (zI a < zI b) = (a < b) := by
  rw [Int32.lt_iff_toInt_lt, ztoInt h1 h2, ztoInt h3 h4]
theorem zle {a b : Int} (h1 : -2147483648 ≤ a) (h2 : a ≤ 2147483647) (h3 : -2147483648 ≤ b) (h4 : b ≤ 2147483647) : (zI a ≤ zI b) = (a ≤ b) := by
  rw [Int32.le_iff_toInt_le, ztoInt h1 h2, ztoInt h3 h4]
theorem zeq {a b : Int} (h1 : -2147483648 ≤ a) (h2 : a ≤ 2147483647) (h3 : -2147483648 ≤ b) (h4 : b ≤ 2147483647) : (zI a = zI b) = (a = b) := by
  rw [← Int32.toInt_inj, ztoInt h1 h2, ztoInt h3 h4]
theorem zdiv {a b : Int} (h1 : -2147483648 ≤ a) (h2 : a ≤ 2147483647) (h3 : 0 < b) (h4 : b ≤ 2147483647) : zI a / zI b = zI (a.tdiv b) :=
  (Int32.ofInt_tdiv (a := a) (b := b) (by rw [show Int32.minValue.toInt = -2147483648 from rfl]; exact h1) (by rw [show Int32.maxValue.toInt = 2147483647 from rfl]; exact h2) (by rw [show Int32.minValue.toInt = -2147483648 from rfl]; omega) (by rw [show Int32.maxValue.toInt = 2147483647 from rfl]; exact h4)).symm
theorem ztn {a : Int} (h1 : -2147483648 ≤ a) (h2 : a ≤ 2147483647) : (zI a).toNatClampNeg = a.toNat := by
  rw [← Int32.toNat_toInt, ztoInt h1 h2]
theorem nadd (a b : Nat) : nI a + nI b = nI (a + b) := by rw [zI_nI, zI_nI, zI_nI, zadd, Int.natCast_add]
theorem nmul (a b : Nat) : nI a * nI b = nI (a * b) := by rw [zI_nI, zI_nI, zI_nI, zmul, Int.natCast_mul]
theorem nsub {a b : Nat} (h : b ≤ a) : nI a - nI b = nI (a - b) := by rw [zI_nI, zI_nI, zI_nI, zsub, Int.natCast_sub h]
theorem nsubm {a b : Nat} (h : b ≤ a) : nI a + -nI b = nI (a - b) := by rw [zI_nI, zI_nI, zI_nI, zneg, zadd, Int.natCast_sub h, Int.sub_eq_add_neg]
theorem nlt {a b : Nat} (h1 : a ≤ 2147483647) (h2 : b ≤ 2147483647) : (nI a < nI b) = (a < b) := by
  rw [zI_nI, zI_nI, zlt (by omega) (by omega) (by omega) (by omega)]; simp
theorem nle {a b : Nat} (h1 : a ≤ 2147483647) (h2 : b ≤ 2147483647) : (nI a ≤ nI b) = (a ≤ b) := by
  rw [zI_nI, zI_nI, zle (by omega) (by omega) (by omega) (by omega)]; simp
theorem neq {a b : Nat} (h1 : a ≤ 2147483647) (h2 : b ≤ 2147483647) : (nI a = nI b) = (a = b) := by
  rw [zI_nI, zI_nI, zeq (by omega) (by omega) (by omega) (by omega)]; exact propext Int.ofNat_inj
theorem ndiv {a b : Nat} (h1 : a ≤ 2147483647) (h2 : 0 < b) (h3 : b ≤ 2147483647) : nI a / nI b = nI (a / b) := by
  rw [zI_nI, zI_nI, zI_nI, zdiv (by omega) (by omega) (by omega) (by omega)]; congr 1
theorem ntn {a : Nat} (h : a ≤ 2147483647) : (nI a).toNatClampNeg = a := by
  rw [zI_nI, ztn (by omega) (by omega)]; simp
theorem n0 : (0 : Int32) = nI 0 := rfl
theorem n1 : (1 : Int32) = nI 1 := rfl
theorem n2 : (2 : Int32) = nI 2 := rfl
theorem n3 : (3 : Int32) = nI 3 := rfl
theorem n4 : (4 : Int32) = nI 4 := rfl
theorem n5 : (5 : Int32) = nI 5 := rfl
theorem n6 : (6 : Int32) = nI 6 := rfl
theorem n7 : (7 : Int32) = nI 7 := rfl
theorem n8 : (8 : Int32) = nI 8 := rfl
theorem n9 : (9 : Int32) = nI 9 := rfl
theorem n10 : (10 : Int32) = nI 10 := rfl
theorem n13 : (13 : Int32) = nI 13 := rfl
theorem n16 : (16 : Int32) = nI 16 := rfl
theorem n18 : (18 : Int32) = nI 18 := rfl
theorem n20 : (20 : Int32) = nI 20 := rfl
theorem n30 : (30 : Int32) = nI 30 := rfl
theorem n32 : (32 : Int32) = nI 32 := rfl
theorem n40 : (40 : Int32) = nI 40 := rfl
theorem n48 : (48 : Int32) = nI 48 := rfl
theorem n57 : (57 : Int32) = nI 57 := rfl
theorem n59 : (59 : Int32) = nI 59 := rfl
theorem n60 : (60 : Int32) = nI 60 := rfl
theorem n64 : (64 : Int32) = nI 64 := rfl
theorem n97 : (97 : Int32) = nI 97 := rfl
theorem n99 : (99 : Int32) = nI 99 := rfl
theorem n122 : (122 : Int32) = nI 122 := rfl
theorem n126 : (126 : Int32) = nI 126 := rfl
theorem n186 : (186 : Int32) = nI 186 := rfl
theorem n200 : (200 : Int32) = nI 200 := rfl
theorem n1000000 : (1000000 : Int32) = nI 1000000 := rfl
theorem inb_nI {a n : Nat} (h : a < n) (h2 : a ≤ 2147483647) : inb (nI a) n = true := by
  simp only [inb, n0, nlt h2 (show 0 ≤ 2147483647 by omega), ntn h2, Bool.and_eq_true, decide_eq_true_eq]
  omega
theorem gd_n {β : Type} {k : Option β} {a n : Nat} (h : a < n) (h2 : a ≤ 2147483647) : gd (inb (nI a) n) k = k := by rw [inb_nI h h2]; rfl
theorem gd_true {β : Type} {k : Option β} : gd true k = k := rfl
theorem bd_some' {α β : Type} {a : α} {k : α → Option β} : bd (some a) k = k a := rfl
theorem bd2_some' {α γ β : Type} {a : α} {c : γ} {k : α → γ → Option β} : bd2 (some (a, c)) k = k a c := rfl
theorem lw_eq {α β : Type} {a : α} {k : α → β} : lw a k = k a := rfl
theorem setI1 {w : AW} {o k : Nat} {v : Int32} {a j : Nat} : (setI w o k v).1 a j = if a = o ∧ j = k then v else w.1 a j := rfl
theorem setI2 {w : AW} {o k : Nat} {v : Int32} : (setI w o k v).2 = w.2 := rfl
theorem setL1 {w : AW} {o k : Nat} {v : Int64} : (setL w o k v).1 = w.1 := rfl
theorem setL2 {w : AW} {o k : Nat} {v : Int64} {a j : Nat} : (setL w o k v).2 a j = if a = o ∧ j = k then v else w.2 a j := rfl
theorem cpyI1 {w : AW} {a sp b dp n o j : Nat} : (cpyI w a sp b dp n).1 o j = if o = b then (if dp ≤ j ∧ j < dp + n then w.1 a (sp + (j - dp)) else w.1 b j) else w.1 o j := rfl
theorem cpyI2 {w : AW} {a sp b dp n : Nat} : (cpyI w a sp b dp n).2 = w.2 := rfl
/-! loops -/
theorem wh_step {σ ε : Type} {body : σ → Option (σ ⊕ ε)} {n : Nat} {s s' : σ} (h : body s = some (.inl s')) : wh body (n + 1) s = wh body n s' := by
  simp [wh, h]
theorem wh_out {σ ε : Type} {body : σ → Option (σ ⊕ ε)} {n : Nat} {s : σ} {e : ε} (h : body s = some (.inr e)) : wh body (n + 1) s = some e := by
  simp [wh, h]
/-- a loop with a measure and an invariant -/
theorem wh_inv {σ ε : Type} {body : σ → Option (σ ⊕ ε)} (I : σ → Prop) (Q : ε → Prop) (m : σ → Nat)
    (h : ∀ s, I s → (∃ s', body s = some (.inl s') ∧ I s' ∧ m s' < m s) ∨ (∃ e, body s = some (.inr e) ∧ Q e))
    {N : Nat} : ∀ {s : σ}, I s → m s < N → ∃ e, wh body N s = some e ∧ Q e := by
  induction N with
  | zero => intro s _ hm; omega
  | succ N ih =>
    intro s hI hm
    rcases h s hI with ⟨s', h1, h2, h3⟩ | ⟨e, h1, h2⟩
    · rw [wh_step h1]
      exact ih h2 (by omega)
    · exact ⟨e, wh_out h1, h2⟩
/-- a counted loop: states by their numbers -/
theorem wh_for {σ ε : Type} {body : σ → Option (σ ⊕ ε)} (f : Nat → σ) {n : Nat} {e : ε}
    (h : ∀ i, i < n → body (f i) = some (.inl (f (i + 1)))) (he : body (f n) = some (.inr e)) :
    ∀ {N i : Nat}, i ≤ n → n - i < N → wh body N (f i) = some e := by
  intro N
  induction N with
  | zero => intro i _ hm; omega
  | succ N ih =>
    intro i hi hm
    by_cases hin : i = n
    · subst hin; exact wh_out he
    · rw [wh_step (h i (by omega))]
      exact ih (by omega) (by omega)
/-- a counted loop with an invariant for each number -/
theorem wh_cnt {σ ε : Type} {body : σ → Option (σ ⊕ ε)} (I : Nat → σ → Prop) (Q : ε → Prop) {n : Nat}
    (h : ∀ i s, i < n → I i s → ∃ s', body s = some (.inl s') ∧ I (i + 1) s') (he : ∀ s, I n s → ∃ e, body s = some (.inr e) ∧ Q e) :
    ∀ {N i : Nat} {s : σ}, I i s → i ≤ n → n - i < N → ∃ e, wh body N s = some e ∧ Q e := by
  intro N
  induction N with
  | zero => intro i s _ _ hm; omega
  | succ N ih =>
    intro i s hI hi hm
    by_cases hin : i = n
    · subst hin
      obtain ⟨e, h1, h2⟩ := he s hI
      exact ⟨e, wh_out h1, h2⟩
    · obtain ⟨s', h1, h2⟩ := h i s (by omega) hI
      rw [wh_step h1]
      exact ih h2 (by omega) (by omega)

