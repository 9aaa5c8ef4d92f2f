/-! 30: sums over who turns out twice as long -/
def setB (β : Nat → Bool) (j : Nat) (b : Bool) : Nat → Bool := fun i => if i = j then b else β i
def sumB : List Nat → ((Nat → Bool) → Int) → Int
  | [], F => F (fun _ => false)
  | j :: l, F => sumB l (fun β => F (setB β j false)) + sumB l (fun β => F (setB β j true))
theorem setB_comm {β : Nat → Bool} {i j : Nat} {a b : Bool} (h : i ≠ j) : setB (setB β i a) j b = setB (setB β j b) i a := by
  funext k
  unfold setB
  by_cases h1 : k = j <;> by_cases h2 : k = i <;> simp [h1, h2]
  · exact absurd (h2.symm.trans h1) h
  · intro q; exact absurd q.symm h
  · intro q; exact absurd q h
theorem sumB_congr {l : List Nat} {F G : (Nat → Bool) → Int} (h : ∀ β, F β = G β) : sumB l F = sumB l G := by
  rw [show F = G from funext h]
theorem sumB_add {l : List Nat} : ∀ {F G : (Nat → Bool) → Int}, sumB l (fun β => F β + G β) = sumB l F + sumB l G := by
  induction l with
  | nil => intro F G; rfl
  | cons j l ih =>
    intro F G
    simp only [sumB]
    rw [ih (F := fun β => F (setB β j false)) (G := fun β => G (setB β j false)), ih (F := fun β => F (setB β j true)) (G := fun β => G (setB β j true))]
    omega
theorem sumB_mul {l : List Nat} {c : Int} : ∀ {F : (Nat → Bool) → Int}, sumB l (fun β => c * F β) = c * sumB l F := by
  induction l with
  | nil => intro F; rfl
  | cons j l ih =>
    intro F
    simp only [sumB]
    rw [ih (F := fun β => F (setB β j false)), ih (F := fun β => F (setB β j true)), Int.mul_add]
theorem sumB_perm {l l' : List Nat} (h : l.Perm l') : ∀ F, sumB l F = sumB l' F := by
  induction h with
  | nil => intro F; rfl
  | cons x _ ih => intro F; simp only [sumB, ih]
  | swap x y l =>
    intro F
    by_cases hxy : x = y
    · subst hxy; rfl
    · simp only [sumB]
      have e : ∀ a b, sumB l (fun β => F (setB (setB β x a) y b)) = sumB l (fun β => F (setB (setB β y b) x a)) := fun a b => sumB_congr (fun β => by rw [setB_comm hxy])
      rw [e false false, e false true, e true false, e true true]
      omega
  | trans _ _ a b => intro F; rw [a, b]
/-- sums over masks -/
def sumM (F : (Nat → Bool) → Int) : Nat → Int
  | 0 => 0
  | m + 1 => sumM F m + F (fun i => m.testBit i)
theorem sumM_split {F : (Nat → Bool) → Int} {k n : Nat} (hk : k ≤ 2 ^ n) : sumM F (2 ^ n + k) = sumM F (2 ^ n) + sumM (fun β => F (setB β n true)) k := by
  induction k with
  | zero => simp [sumM]
  | succ k ih =>
    rw [← Nat.add_assoc, sumM, ih (by omega), sumM, Int.add_assoc]
    congr 2
    congr 1
    funext i
    unfold setB
    by_cases hi : i = n
    · subst hi
      rw [if_pos rfl, Nat.testBit_two_pow_add_eq, Nat.testBit_lt_two_pow (by omega)]; rfl
    · rw [if_neg hi]
      rcases Nat.lt_or_gt_of_ne hi with h | h
      · rw [Nat.testBit_two_pow_add_gt h]
      · have h2 : 2 ^ (n + 1) ≤ 2 ^ i := Nat.pow_le_pow_right (by omega) (by omega)
        rw [Nat.pow_succ] at h2
        show (2 ^ n + k).testBit i = k.testBit i
        rw [Nat.testBit_lt_two_pow (by omega), Nat.testBit_lt_two_pow (by omega)]
theorem sumM_low {F : (Nat → Bool) → Int} {n : Nat} : ∀ {k : Nat}, k ≤ 2 ^ n → sumM F k = sumM (fun β => F (setB β n false)) k := by
  intro k
  induction k with
  | zero => intro _; rfl
  | succ k ih =>
    intro h
    rw [sumM, sumM, ih (by omega)]
    congr 2
    funext i
    unfold setB
    by_cases hi : i = n
    · subst hi; rw [if_pos rfl, Nat.testBit_lt_two_pow (by omega)]
    · rw [if_neg hi]
def downL : Nat → List Nat
  | 0 => []
  | n + 1 => n :: downL n
theorem sumM_B {n : Nat} : ∀ {F : (Nat → Bool) → Int}, sumM F (2 ^ n) = sumB (downL n) F := by
  induction n with
  | zero =>
    intro F
    simp only [Nat.pow_zero, sumM, downL, sumB, Int.zero_add]
    congr 1
    funext i
    exact Nat.zero_testBit i
  | succ n ih =>
    intro F
    rw [show 2 ^ (n + 1) = 2 ^ n + 2 ^ n by rw [Nat.pow_succ]; omega, sumM_split (Nat.le_refl _), sumM_low (Nat.le_refl _), ih, ih]
    rfl
theorem downL_perm {n : Nat} : (downL n).Perm (List.range n) := by
  induction n with
  | zero => exact List.Perm.refl _
  | succ n ih =>
    rw [List.range_succ]
    exact (List.Perm.cons n ih).trans (List.perm_append_comm (l₁ := [n]))
section
variable (dy : Nat → Nat) (st c0 l0 fine odds : Nat) (J : Nat → Nat → Nat)
/-- the odds that a job takes so long -/
def oB (b : Bool) : Int := if b then (odds : Int) else 4 - (odds : Int)
def RB (β : Nat → Bool) (j : Nat) : Nat := if β j then 2 * J 1 j else J 1 j
/-- odds of these, by their order -/
def pB : List Nat → (Nat → Bool) → Int
  | [], _ => 1
  | j :: l, β => oB odds (β j) * pB l β
/-- 1 if none is late -/
def kB (u was : Nat) : List Nat → (Nat → Bool) → Int
  | [], _ => 1
  | j :: l, β => (if dy (uB st c0 l0 J (RB J β) u was j) ≤ J 3 j then 1 else 0) * kB (uB st c0 l0 J (RB J β) u was j) (J 2 j) l β
/-- worth of an order, if these take so long -/
def wB (u was : Nat) : List Nat → (Nat → Bool) → Int
  | [], _ => 0
  | j :: l, β => vOf fine J j (dy (uB st c0 l0 J (RB J β) u was j)) + wB (uB st c0 l0 J (RB J β) u was j) (J 2 j) l β
/-- with what odds none is late, behind some -/
def svL (u was : Nat) : List Nat → Int
  | [] => 1
  | j :: l =>
    (if dy (uB st c0 l0 J (J 1) u was j) ≤ J 3 j then oB odds false * svL (uB st c0 l0 J (J 1) u was j) (J 2 j) l else 0)
      + (if dy (uB st c0 l0 J (J 1) u was j + J 1 j) ≤ J 3 j then oB odds true * svL (uB st c0 l0 J (J 1) u was j + J 1 j) (J 2 j) l else 0)
def mvL (u was : Nat) : List Nat → Int
  | [] => 0
  | j :: l =>
    oB odds false * (vOf fine J j (dy (uB st c0 l0 J (J 1) u was j)) * 4 ^ l.length + mvL (uB st c0 l0 J (J 1) u was j) (J 2 j) l)
      + oB odds true * (vOf fine J j (dy (uB st c0 l0 J (J 1) u was j + J 1 j)) * 4 ^ l.length + mvL (uB st c0 l0 J (J 1) u was j + J 1 j) (J 2 j) l)
end
theorem RB_f {J : Nat → Nat → Nat} {β : Nat → Bool} {j : Nat} {st c0 l0 u was : Nat} : uB st c0 l0 J (RB J (setB β j false)) u was j = uB st c0 l0 J (J 1) u was j := by
  unfold uB RB setB; simp
theorem RB_t {J : Nat → Nat → Nat} {β : Nat → Bool} {j : Nat} {st c0 l0 u was : Nat} : uB st c0 l0 J (RB J (setB β j true)) u was j = uB st c0 l0 J (J 1) u was j + J 1 j := by
  unfold uB RB setB; simp; omega
theorem pB_congr {odds : Nat} : ∀ {l : List Nat} {β γ : Nat → Bool}, (∀ j ∈ l, β j = γ j) → pB odds l β = pB odds l γ := by
  intro l
  induction l with
  | nil => intro β γ _; rfl
  | cons j l ih => intro β γ h; simp only [pB, h j List.mem_cons_self, ih (fun i hi => h i (List.mem_cons_of_mem _ hi))]
theorem uB_RB {st c0 l0 u was j : Nat} {J : Nat → Nat → Nat} {β γ : Nat → Bool} (h : β j = γ j) : uB st c0 l0 J (RB J β) u was j = uB st c0 l0 J (RB J γ) u was j := by
  unfold uB RB; rw [h]
theorem kB_congr {dy : Nat → Nat} {st c0 l0 : Nat} {J : Nat → Nat → Nat} : ∀ {l : List Nat} {u was : Nat} {β γ : Nat → Bool}, (∀ j ∈ l, β j = γ j) → kB dy st c0 l0 J u was l β = kB dy st c0 l0 J u was l γ := by
  intro l
  induction l with
  | nil => intro u was β γ _; rfl
  | cons j l ih => intro u was β γ h; simp only [kB, uB_RB (h j List.mem_cons_self), ih (fun i hi => h i (List.mem_cons_of_mem _ hi))]
theorem wB_congr {dy : Nat → Nat} {st c0 l0 fine : Nat} {J : Nat → Nat → Nat} : ∀ {l : List Nat} {u was : Nat} {β γ : Nat → Bool}, (∀ j ∈ l, β j = γ j) → wB dy st c0 l0 fine J u was l β = wB dy st c0 l0 fine J u was l γ := by
  intro l
  induction l with
  | nil => intro u was β γ _; rfl
  | cons j l ih => intro u was β γ h; simp only [wB, uB_RB (h j List.mem_cons_self), ih (fun i hi => h i (List.mem_cons_of_mem _ hi))]
theorem setB_off {l : List Nat} {β : Nat → Bool} {j : Nat} {b : Bool} (h : j ∉ l) : ∀ i ∈ l, setB β j b i = β i := fun i hi => by
  have hne : i ≠ j := fun q => h (by rw [← q]; exact hi)
  simp [setB, hne]
theorem setB_on {β : Nat → Bool} {j : Nat} {b : Bool} : setB β j b j = b := by simp [setB]
theorem sum_pB {odds : Nat} : ∀ {l : List Nat}, l.Nodup → sumB l (pB odds l) = 4 ^ l.length := by
  intro l
  induction l with
  | nil => intro _; rfl
  | cons j l ih =>
    intro h
    obtain ⟨h1, h2⟩ := List.nodup_cons.mp h
    have e : ∀ b, sumB l (fun β => pB odds (j :: l) (setB β j b)) = oB odds b * 4 ^ l.length := fun b => by
      rw [← ih h2, ← sumB_mul]
      refine sumB_congr (fun β => ?_)
      simp only [pB, setB_on, pB_congr (setB_off h1)]
    simp only [sumB, e, List.length_cons, Int.pow_succ]
    rw [← Int.add_mul]
    simp [oB]
    rw [Int.mul_comm]
theorem sum_sure {dy : Nat → Nat} {st c0 l0 odds : Nat} {J : Nat → Nat → Nat} : ∀ {l : List Nat} {u was : Nat}, l.Nodup → sumB l (fun β => pB odds l β * kB dy st c0 l0 J u was l β) = svL dy st c0 l0 odds J u was l := by
  intro l
  induction l with
  | nil => intro u was _; rfl
  | cons j l ih =>
    intro u was h
    obtain ⟨h1, h2⟩ := List.nodup_cons.mp h
    have e : ∀ b u', (∀ β, uB st c0 l0 J (RB J (setB β j b)) u was j = u') → sumB l (fun β => pB odds (j :: l) (setB β j b) * kB dy st c0 l0 J u was (j :: l) (setB β j b)) = (if dy u' ≤ J 3 j then oB odds b * svL dy st c0 l0 odds J u' (J 2 j) l else 0) := fun b u' hu => by
      rw [← ih (u := u') (was := J 2 j) h2]
      by_cases hc : dy u' ≤ J 3 j
      · rw [if_pos hc, ← sumB_mul]
        refine sumB_congr (fun β => ?_)
        simp only [pB, kB, setB_on, hu, hc, if_true, pB_congr (setB_off h1), kB_congr (setB_off h1)]
        rw [Int.one_mul, Int.mul_assoc]
      · rw [if_neg hc]
        rw [sumB_congr (G := fun β => 0 * (fun _ => (0 : Int)) β) (fun β => by simp only [kB, hu, hc, if_false]; simp), sumB_mul, Int.zero_mul]
    simp only [sumB, svL]
    rw [e false _ (fun β => RB_f), e true _ (fun β => RB_t)]
theorem sum_mean {dy : Nat → Nat} {st c0 l0 fine odds : Nat} {J : Nat → Nat → Nat} : ∀ {l : List Nat} {u was : Nat}, l.Nodup → sumB l (fun β => pB odds l β * wB dy st c0 l0 fine J u was l β) = mvL dy st c0 l0 fine odds J u was l := by
  intro l
  induction l with
  | nil => intro u was _; rfl
  | cons j l ih =>
    intro u was h
    obtain ⟨h1, h2⟩ := List.nodup_cons.mp h
    have e : ∀ b u', (∀ β, uB st c0 l0 J (RB J (setB β j b)) u was j = u') → sumB l (fun β => pB odds (j :: l) (setB β j b) * wB dy st c0 l0 fine J u was (j :: l) (setB β j b)) = oB odds b * (vOf fine J j (dy u') * 4 ^ l.length + mvL dy st c0 l0 fine odds J u' (J 2 j) l) := fun b u' hu => by
      rw [← ih (u := u') (was := J 2 j) h2, ← sum_pB (odds := odds) h2, ← sumB_mul, ← sumB_add, ← sumB_mul]
      refine sumB_congr (fun β => ?_)
      simp only [pB, wB, setB_on, hu, pB_congr (setB_off h1), wB_congr (setB_off h1)]
      rw [Int.mul_add, Int.mul_add, Int.mul_assoc, Int.mul_assoc, Int.mul_comm (pB odds l β) (vOf fine J j (dy u'))]
    simp only [sumB, mvL]
    rw [e false _ (fun β => RB_f), e true _ (fun β => RB_t)]
theorem pB_perm {odds : Nat} {l l' : List Nat} (h : l.Perm l') (β : Nat → Bool) : pB odds l β = pB odds l' β := by
  induction h with
  | nil => rfl
  | cons x _ ih => simp only [pB, ih]
  | swap x y l => simp only [pB]; rw [← Int.mul_assoc, ← Int.mul_assoc, Int.mul_comm (oB odds (β y))]
  | trans _ _ a b => exact a.trans b
theorem oB_nn {odds : Nat} (h : odds ≤ 4) (b : Bool) : 0 ≤ oB odds b := by cases b <;> simp [oB]; omega
theorem svL_bd {dy : Nat → Nat} {st c0 l0 odds : Nat} {J : Nat → Nat → Nat} (ho : odds ≤ 4) : ∀ {l : List Nat} {u was : Nat}, 0 ≤ svL dy st c0 l0 odds J u was l ∧ svL dy st c0 l0 odds J u was l ≤ 4 ^ l.length := by
  intro l
  induction l with
  | nil => intro u was; simp [svL]
  | cons j l ih =>
    intro u was
    have a := ih (u := uB st c0 l0 J (J 1) u was j) (was := J 2 j)
    have b := ih (u := uB st c0 l0 J (J 1) u was j + J 1 j) (was := J 2 j)
    have h0 := oB_nn ho false
    have h1 := oB_nn ho true
    have a1 := Int.mul_nonneg h0 a.1
    have b1 := Int.mul_nonneg h1 b.1
    have a2 := Int.mul_le_mul_of_nonneg_left a.2 h0
    have b2 := Int.mul_le_mul_of_nonneg_left b.2 h1
    have e : oB odds false * 4 ^ l.length + oB odds true * 4 ^ l.length = 4 ^ (l.length + 1) := by
      rw [← Int.add_mul, Int.pow_succ, Int.mul_comm]; congr 1; simp [oB]
    have c1 : 0 ≤ oB odds false * 4 ^ l.length := Int.le_trans a1 a2
    have c2 : 0 ≤ oB odds true * 4 ^ l.length := Int.le_trans b1 b2
    simp only [svL, List.length_cons]
    constructor
    · split <;> split <;> omega
    · split <;> split <;> omega

