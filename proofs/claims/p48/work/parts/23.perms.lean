/-! 23: the orders, one behind the other -/
def pms : Nat → List Nat → List (List Nat)
  | 0, _ => [[]]
  | k + 1, rem => rem.flatMap (fun j => (pms k (rem.erase j)).map (fun p => j :: p))
/-- jobs below n but b -/
def rmB (n b : Nat) : List Nat := (List.range n).filter (fun j => !(j == b))
def prm (n b : Nat) : List (List Nat) := pms (rmB n b).length (rmB n b)
def nxI (p : List Nat) : Nat → Option Nat
  | 0 => none
  | i + 1 => if p.getD i 0 ≤ p.getD (i + 1) 0 then some i else nxI p i
def nxJ (p : List Nat) (i : Nat) : Nat → Nat
  | 0 => 0
  | j + 1 => if p.getD i 0 ≤ p.getD (j + 1) 0 then j + 1 else nxJ p i j
def swL (p : List Nat) (a b : Nat) : List Nat := (p.set a (p.getD b 0)).set b (p.getD a 0)
def nxR : Nat → Nat → Nat → List Nat → List Nat
  | 0, _, _, p => p
  | f + 1, a, b, p => if b ≤ a + 1 then p else nxR f (a + 1) (b - 1) (swL p (a + 1) b)
def nx (p : List Nat) : Option (List Nat) :=
  match nxI p (p.length - 1) with
  | none => none
  | some i => some (nxR 8 i (p.length - 1) (swL p i (nxJ p i (p.length - 1))))
def chk : List (List Nat) → Bool
  | [] => false
  | [p] => (nx p).isNone
  | p :: q :: r => (nx p == some q) && chk (q :: r)
theorem chk_prm : ∀ n, n < 7 → ∀ b, b < 7 → (chk (prm n b) && ((prm n b).head? == some (rmB n b))) = true := by decide +kernel
theorem pms_perm : ∀ {k : Nat} {rem p : List Nat}, rem.length = k → p ∈ pms k rem → p.Perm rem := by
  intro k
  induction k with
  | zero =>
    intro rem p h hp
    have : rem = [] := List.length_eq_zero_iff.mp h
    subst this
    simp only [pms, List.mem_singleton] at hp
    subst hp; exact List.Perm.refl _
  | succ k ih =>
    intro rem p h hp
    simp only [pms, List.mem_flatMap, List.mem_map] at hp
    obtain ⟨j, hj, q, hq, rfl⟩ := hp
    have hl : (rem.erase j).length = k := by rw [List.length_erase_of_mem hj]; omega
    exact (List.Perm.cons j (ih hl hq)).trans (List.perm_cons_erase hj).symm
theorem pms_mem : ∀ {k : Nat} {rem p : List Nat}, rem.length = k → p.Perm rem → p ∈ pms k rem := by
  intro k
  induction k with
  | zero =>
    intro rem p h hp
    have : rem = [] := List.length_eq_zero_iff.mp h
    subst this
    have := hp.eq_nil
    subst this
    simp [pms]
  | succ k ih =>
    intro rem p h hp
    cases p with
    | nil => have := hp.length_eq; simp at this; omega
    | cons j q =>
      have hj : j ∈ rem := hp.mem_iff.mp List.mem_cons_self
      have hl : (rem.erase j).length = k := by rw [List.length_erase_of_mem hj]; omega
      have hq : q.Perm (rem.erase j) := by
        have := hp.erase j
        simpa using this
      simp only [pms, List.mem_flatMap, List.mem_map]
      exact ⟨j, hj, q, ih hl hq, rfl⟩
theorem prm_perm {n b : Nat} {p : List Nat} (h : p ∈ prm n b) : p.Perm (rmB n b) := pms_perm rfl h
theorem rmB_nodup (n b : Nat) : (rmB n b).Nodup := List.nodup_range.filter _
theorem rmB_mem {n b j : Nat} : j ∈ rmB n b ↔ j < n ∧ j ≠ b := by simp [rmB]
theorem rmB_len (n b : Nat) : (rmB n b).length ≤ n := by
  have := List.length_filter_le (fun j => !(j == b)) (List.range n)
  simpa [rmB] using this
theorem rmB_all {n b : Nat} (h : n ≤ b) : rmB n b = List.range n := by
  unfold rmB
  apply List.filter_eq_self.mpr
  intro a ha
  simp at ha ⊢
  omega
theorem rmB_succ (n b : Nat) : rmB (n + 1) b = rmB n b ++ (if n = b then [] else [n]) := by
  unfold rmB
  rw [List.range_succ, List.filter_append]
  congr 1
  by_cases h : n = b <;> simp [h]
theorem prm_mem {n b : Nat} {p : List Nat} (h : p ∈ prm n b) : ∀ j ∈ p, j < n := fun j hj => (rmB_mem.mp ((prm_perm h).mem_iff.mp hj)).1
theorem prm_nodup {n b : Nat} {p : List Nat} (h : p ∈ prm n b) : p.Nodup := (prm_perm h).nodup_iff.mpr (rmB_nodup n b)
theorem prm_len {n b : Nat} {p : List Nat} (h : p ∈ prm n b) : p.length = (rmB n b).length := (prm_perm h).length_eq
/-- a row of the heap holds a list -/
def rowL (r : Nat → Int32) (l : List Nat) : Prop := ∀ i v, l[i]? = some v → r i = nI v
theorem getD_some {l : List Nat} {i : Nat} (h : i < l.length) : l[i]? = some (l.getD i 0) := by
  rw [List.getD_eq_getElem?_getD, List.getElem?_eq_getElem h]; rfl
theorem rowL.get {r : Nat → Int32} {l : List Nat} (h : rowL r l) {i : Nat} (hi : i < l.length) : r i = nI (l.getD i 0) := h i _ (getD_some hi)
theorem getD_mem {l : List Nat} {i : Nat} (h : i < l.length) : l.getD i 0 ∈ l := List.mem_of_getElem? (getD_some h)
theorem swL_len (p : List Nat) (a b : Nat) : (swL p a b).length = p.length := by simp [swL]
theorem swL_mem {p : List Nat} {a b : Nat} (ha : a < p.length) (hb : b < p.length) {x : Nat} (h : x ∈ swL p a b) : x ∈ p := by
  unfold swL at h
  rcases List.mem_or_eq_of_mem_set h with h | h
  · rcases List.mem_or_eq_of_mem_set h with h | h
    · exact h
    · rw [h]; exact getD_mem hb
  · rw [h]; exact getD_mem ha
/-! what nextOrder() does -/
theorem nxI_spec {p : List Nat} : ∀ {i j : Nat}, nxI p i = some j → j < i ∧ p.getD j 0 ≤ p.getD (j + 1) 0 := by
  intro i
  induction i with
  | zero => intro j h; cases h
  | succ i ih =>
    intro j h
    unfold nxI at h
    split at h
    · next hc => injection h with h; subst h; exact ⟨by omega, hc⟩
    · obtain ⟨a, b⟩ := ih h; exact ⟨by omega, b⟩
