/-! 23: the orders, one behind the other -/
def pms : Nat → List Nat → List (List Nat)
  | 0, _ => [[]]
  | k + 1, rem => rem.flatMap (fun j => (pms k (rem.erase j)).map (fun p => j :: p))
/-- jobs below n but b -/
def rmB (n b : Nat) : List Nat := (List.range n).filter (fun j => !(j == b))
def prm (n b : Nat) : List (List Nat) := pms (rmB n b).length (rmB n b)
def nxI (p : List Nat) : Nat → Option Nat
  | 0 => none
  | i + 1 => if p.getD i 0 ≤ p.getD (i + 1) 0 then some i else nxI p i
def nxJ (p : List Nat) (i : Nat) : Nat → Nat
  | 0 => 0
  | j + 1 => if p.getD i 0 ≤ p.getD (j + 1) 0 then j + 1 else nxJ p i j
def swL (p : List Nat) (a b : Nat) : List Nat := (p.set a (p.getD b 0)).set b (p.getD a 0)
def nxR : Nat → Nat → Nat → List Nat → List Nat
  | 0, _, _, p => p
  | f + 1, a, b, p => if b ≤ a + 1 then p else nxR f (a + 1) (b - 1) (swL p (a + 1) b)
def nx (p : List Nat) : Option (List Nat) :=
  match nxI p (p.length - 1) with
  | none => none
  | some i => some (nxR 8 i (p.length - 1) (swL p i (nxJ p i (p.length - 1))))
def chk : List (List Nat) → Bool
  | [] => false
  | [p] => (nx p).isNone
  | p :: q :: r => (nx p == some q) && chk (q :: r)
theorem chk_prm : ∀ n, n < 7 → ∀ b, b < 7 → (chk (prm n b) && ((prm n b).head? == some (rmB n b))) = true := by decide +kernel
theorem pms_perm : ∀ {k : Nat} {rem p : List Nat}, rem.length = k → p ∈ pms k rem → p.Perm rem := by
  intro k
  induction k with
  | zero =>
    intro rem p h hp
    have : rem = [] := List.length_eq_zero_iff.mp h
    subst this
    simp only [pms, List.mem_singleton] at hp
    subst hp; exact List.Perm.refl _
  | succ k ih =>
    intro rem p h hp
    simp only [pms, List.mem_flatMap, List.mem_map] at hp
    obtain ⟨j, hj, q, hq, rfl⟩ := hp
    have hl : (rem.erase j).length = k := by rw [List.length_erase_of_mem hj]; omega
    exact (List.Perm.cons j (ih hl hq)).trans (List.perm_cons_erase hj).symm
theorem pms_mem : ∀ {k : Nat} {rem p : List Nat}, rem.length = k → p.Perm rem → p ∈ pms k rem := by
  intro k
  induction k with
  | zero =>
    intro rem p h hp
    have : rem = [] := List.length_eq_zero_iff.mp h
    subst this
    have := hp.eq_nil
    subst this
    simp [pms]
  | succ k ih =>
    intro rem p h hp
    cases p with
    | nil => have := hp.length_eq; simp at this; omega
    | cons j q =>
      have hj : j ∈ rem := hp.mem_iff.mp List.mem_cons_self
      have hl : (rem.erase j).length = k := by rw [List.length_erase_of_mem hj]; omega
      have hq : q.Perm (rem.erase j) := by
        have := hp.erase j
        simpa using this
      simp only [pms, List.mem_flatMap, List.mem_map]
      exact ⟨j, hj, q, ih hl hq, rfl⟩
theorem prm_perm {n b : Nat} {p : List Nat} (h : p ∈ prm n b) : p.Perm (rmB n b) := pms_perm rfl h
theorem rmB_nodup (n b : Nat) : (rmB n b).Nodup := List.nodup_range.filter _
theorem rmB_mem {n b j : Nat} : j ∈ rmB n b ↔ j < n ∧ j ≠ b := by simp [rmB]
theorem rmB_len (n b : Nat) : (rmB n b).length ≤ n := by
  have := List.length_filter_le (fun j => !(j == b)) (List.range n)
  simpa [rmB] using this
theorem rmB_all {n b : Nat} (h : n ≤ b) : rmB n b = List.range n := by
  unfold rmB
  apply List.filter_eq_self.mpr
  intro a ha
  simp at ha ⊢
  omega
theorem rmB_succ (n b : Nat) : rmB (n + 1) b = rmB n b ++ (if n = b then [] else [n]) := by
  unfold rmB
  rw [List.range_succ, List.filter_append]
  congr 1
  by_cases h : n = b <;> simp [h]
theorem prm_mem {n b : Nat} {p : List Nat} (h : p ∈ prm n b) : ∀ j ∈ p, j < n := fun j hj => (rmB_mem.mp ((prm_perm h).mem_iff.mp hj)).1
theorem prm_nodup {n b : Nat} {p : List Nat} (h : p ∈ prm n b) : p.Nodup := (prm_perm h).nodup_iff.mpr (rmB_nodup n b)
theorem prm_len {n b : Nat} {p : List Nat} (h : p ∈ prm n b) : p.length = (rmB n b).length := (prm_perm h).length_eq
/-- a row of the heap holds a list -/
def rowL (r : Nat → Int32) (l : List Nat) : Prop := ∀ i v, l[i]? = some v → r i = nI v
theorem getD_some {l : List Nat} {i : Nat} (h : i < l.length) : l[i]? = some (l.getD i 0) := by
  rw [List.getD_eq_getElem?_getD, List.getElem?_eq_getElem h]; rfl
theorem rowL.get {r : Nat → Int32} {l : List Nat} (h : rowL r l) {i : Nat} (hi : i < l.length) : r i = nI (l.getD i 0) := h i _ (getD_some hi)
theorem getD_mem {l : List Nat} {i : Nat} (h : i < l.length) : l.getD i 0 ∈ l := List.mem_of_getElem? (getD_some h)
theorem swL_len (p : List Nat) (a b : Nat) : (swL p a b).length = p.length := by simp [swL]
theorem swL_mem {p : List Nat} {a b : Nat} (ha : a < p.length) (hb : b < p.length) {x : Nat} (h : x ∈ swL p a b) : x ∈ p := by
  unfold swL at h
  rcases List.mem_or_eq_of_mem_set h with h | h
  · rcases List.mem_or_eq_of_mem_set h with h | h
    · exact h
    · rw [h]; exact getD_mem hb
  · rw [h]; exact getD_mem ha
/-! what nextOrder() does -/
theorem swaps_ev {w : AW} {p : List Nat} {a b : Nat} (h : rowL (w.1 12) p) (ha : a < p.length) (hb : b < p.length) (hl : p.length ≤ 8) : ∃ w', fX12_swaps (nI a) (nI b) w = some w' ∧ Fr (fun o _ => o == 12) w w' ∧ rowL (w'.1 12) (swL p a b) := by
  refine ⟨setI (setI w 12 a (w.1 12 b)) 12 b (w.1 12 a), ?_, (Fr.set rfl).tr (Fr.set rfl), ?_⟩
  · simp (disch := omega) only [fX12_swaps, n0, n1, n2, n3, n4, n5, n6, n7, n8, n9, n10, n13, n16, n18, n20, n30, n32, n40, n48, n57, n59, n60, n64, n97, n99, n122, n126, n186, n200, n1000000, nadd, nmul, nlt, nle, neq, ntn, gd_n, lw_eq, bd_some', bd2_some', gd_true]
  · intro i v hv
    simp only [swL, List.getElem?_set] at hv
    simp only [setI1, true_and]
    by_cases h1 : b = i
    · subst h1
      simp only [if_true] at hv ⊢
      rw [if_pos (by simpa using hb)] at hv
      rw [← Option.some.inj hv]; exact h.get ha
    · rw [if_neg h1] at hv
      rw [if_neg (fun q => h1 q.symm)]
      by_cases h2 : a = i
      · subst h2
        simp only [if_true] at hv ⊢
        rw [if_pos ha] at hv
        rw [← Option.some.inj hv]; exact h.get hb
      · rw [if_neg h2] at hv
        rw [if_neg (fun q => h2 q.symm)]
        exact h i v hv
theorem nx1_ev {w : AW} {p : List Nat} {c : Int32} (h : rowL (w.1 12) p) (hm : ∀ x ∈ p, x < 8) (hl : p.length ≤ 8) : ∀ {i N : Nat}, i < p.length → i < N →
    wh (lbX12_nextOrder_4_1 N c w) N (nI i - 1) = some (match nxI p i with | none => -1 | some j => nI j) := by
  intro i N hi hN
  have gen : ∀ (i M : Nat), i < p.length → i < M → wh (lbX12_nextOrder_4_1 N c w) M (nI i - 1) = some (match nxI p i with | none => -1 | some j => nI j) := by
    intro i
    induction i with
    | zero =>
      intro M _ hM
      obtain ⟨M, rfl⟩ : ∃ k, M = k + 1 := ⟨M - 1, by omega⟩
      apply wh_out
      rfl
    | succ i ih =>
      intro M hi hM
      obtain ⟨M, rfl⟩ : ∃ k, M = k + 1 := ⟨M - 1, by omega⟩
      have g1 := h.get (i := i) (by omega)
      have g2 := h.get (i := i + 1) (by omega)
      have m1 := hm _ (getD_mem (l := p) (i := i) (by omega))
      have m2 := hm _ (getD_mem (l := p) (i := i + 1) (by omega))
      have e : nI (i + 1) - 1 = nI i := by rw [n1, nsub (by omega)]; rfl
      rw [e]
      by_cases hc : p.getD i 0 ≤ p.getD (i + 1) 0
      · apply wh_out
        simp (disch := omega) only [lbX12_nextOrder_4_1, n0, n1, n2, n3, n4, n5, n6, n7, n8, n9, n10, n13, n16, n18, n20, n30, n32, n40, n48, n57, n59, n60, n64, n97, n99, n122, n126, n186, n200, n1000000, nadd, nmul, nlt, nle, neq, ntn, gd_n, g1, g2, hc, if_true, if_neg (show ¬ i < 0 by omega), nxI]
      · rw [wh_step (s' := nI i - 1)]
        · rw [ih M (by omega) (by omega)]
          simp only [nxI, hc, if_false]
        · simp (disch := omega) only [lbX12_nextOrder_4_1, n0, n1, n2, n3, n4, n5, n6, n7, n8, n9, n10, n13, n16, n18, n20, n30, n32, n40, n48, n57, n59, n60, n64, n97, n99, n122, n126, n186, n200, n1000000, nadd, nmul, nlt, nle, neq, ntn, gd_n, g1, g2, hc, if_false, if_neg (show ¬ i < 0 by omega)]
          rw [Int32.sub_eq_add_neg]
  exact gen i N hi hN
theorem nxI_spec {p : List Nat} : ∀ {i j : Nat}, nxI p i = some j → j < i ∧ p.getD j 0 ≤ p.getD (j + 1) 0 := by
  intro i
  induction i with
  | zero => intro j h; cases h
  | succ i ih =>
    intro j h
    unfold nxI at h
    split at h
    · next hc => injection h with h; subst h; exact ⟨by omega, hc⟩
    · obtain ⟨a, b⟩ := ih h; exact ⟨by omega, b⟩
theorem nx2_ev {w : AW} {p : List Nat} {c : Int32} {i0 : Nat} (h : rowL (w.1 12) p) (hm : ∀ x ∈ p, x < 8) (hl : p.length ≤ 8) (hi0 : i0 + 1 < p.length) (hc0 : p.getD i0 0 ≤ p.getD (i0 + 1) 0) : ∀ {j N : Nat}, i0 + 1 ≤ j → j < p.length → j < N →
    wh (lbX12_nextOrder_41_2 N c (nI i0) w) N (nI j) = some (nI (nxJ p i0 j)) ∧ nxJ p i0 j ≤ j := by
  intro j N hj1 hj2 hN
  have gen : ∀ (j M : Nat), i0 + 1 ≤ j → j < p.length → j < M → wh (lbX12_nextOrder_41_2 N c (nI i0) w) M (nI j) = some (nI (nxJ p i0 j)) ∧ nxJ p i0 j ≤ j := by
    intro j
    induction j with
    | zero => intro M hj; omega
    | succ j ih =>
      intro M hj1 hj2 hM
      obtain ⟨M, rfl⟩ : ∃ k, M = k + 1 := ⟨M - 1, by omega⟩
      have g1 := h.get (i := i0) (by omega)
      have g2 := h.get (i := j + 1) (by omega)
      have m1 := hm _ (getD_mem (l := p) (i := i0) (by omega))
      have m2 := hm _ (getD_mem (l := p) (i := j + 1) (by omega))
      by_cases hc : p.getD i0 0 ≤ p.getD (j + 1) 0
      · refine ⟨?_, by simp only [nxJ, hc, if_true]; omega⟩
        apply wh_out
        simp (disch := omega) only [lbX12_nextOrder_41_2, n0, n1, n2, n3, n4, n5, n6, n7, n8, n9, n10, n13, n16, n18, n20, n30, n32, n40, n48, n57, n59, n60, n64, n97, n99, n122, n126, n186, n200, n1000000, nadd, nmul, nlt, nle, neq, ntn, gd_n, g1, g2, hc, if_true, nxJ]
      · have hj : i0 + 1 ≤ j := by
          by_cases hq : j = i0
          · subst hq; exact absurd hc0 hc
          · omega
        obtain ⟨a, b⟩ := ih M hj (by omega) (by omega)
        refine ⟨?_, by simp only [nxJ, hc, if_false]; omega⟩
        rw [wh_step (s' := nI j)]
        · rw [a]; simp only [nxJ, hc, if_false]
        · simp (disch := omega) only [lbX12_nextOrder_41_2, n0, n1, n2, n3, n4, n5, n6, n7, n8, n9, n10, n13, n16, n18, n20, n30, n32, n40, n48, n57, n59, n60, n64, n97, n99, n122, n126, n186, n200, n1000000, nadd, nmul, nlt, nle, neq, ntn, gd_n, g1, g2, hc, if_false]
          rw [nsubm (by omega)]; rfl
  exact gen j N hj1 hj2 hN
theorem nx3_ev {N : Nat} : ∀ {f : Nat} {w : AW} {p : List Nat} {a b M : Nat}, rowL (w.1 12) p → p.length ≤ 8 → a < p.length → b < p.length → b ≤ a + f → f < M →
    ∃ w', wh (lbX12_nextOrder_73_3 N) M (nI a, nI b, w) = some w' ∧ Fr (fun o _ => o == 12) w w' ∧ rowL (w'.1 12) (nxR f a b p) := by
  intro f
  induction f with
  | zero =>
    intro w p a b M h hl ha hb hf hM
    obtain ⟨M, rfl⟩ : ∃ k, M = k + 1 := ⟨M - 1, by omega⟩
    refine ⟨w, ?_, Fr.rf, h⟩
    apply wh_out
    simp (disch := omega) only [lbX12_nextOrder_73_3, n0, n1, n2, n3, n4, n5, n6, n7, n8, n9, n10, n13, n16, n18, n20, n30, n32, n40, n48, n57, n59, n60, n64, n97, n99, n122, n126, n186, n200, n1000000, nadd, nmul, nlt, nle, neq, ntn, gd_n, if_pos (show b ≤ a + 1 by omega)]
  | succ f ih =>
    intro w p a b M h hl ha hb hf hM
    obtain ⟨M, rfl⟩ : ∃ k, M = k + 1 := ⟨M - 1, by omega⟩
    by_cases hc : b ≤ a + 1
    · refine ⟨w, ?_, Fr.rf, by simpa only [nxR, hc, if_true] using h⟩
      apply wh_out
      simp (disch := omega) only [lbX12_nextOrder_73_3, n0, n1, n2, n3, n4, n5, n6, n7, n8, n9, n10, n13, n16, n18, n20, n30, n32, n40, n48, n57, n59, n60, n64, n97, n99, n122, n126, n186, n200, n1000000, nadd, nmul, nlt, nle, neq, ntn, gd_n, hc, if_true]
    · obtain ⟨w1, h1, h2, h3⟩ := swaps_ev (a := a + 1) (b := b) h (by omega) hb hl
      obtain ⟨w2, g1, g2, g3⟩ := ih (w := w1) (a := a + 1) (b := b - 1) (M := M) h3 (by rw [swL_len]; exact hl) (by rw [swL_len]; omega) (by rw [swL_len]; omega) (by omega) (by omega)
      refine ⟨w2, ?_, h2.tr g2, by simpa only [nxR, hc, if_false] using g3⟩
      rw [wh_step (s' := (nI (a + 1), nI (b - 1), w1))]
      · exact g1
      · simp (disch := omega) only [lbX12_nextOrder_73_3, n0, n1, n2, n3, n4, n5, n6, n7, n8, n9, n10, n13, n16, n18, n20, n30, n32, n40, n48, n57, n59, n60, n64, n97, n99, n122, n126, n186, n200, n1000000, nadd, nmul, nlt, nle, neq, ntn, gd_n, lw_eq, bd_some', bd2_some', gd_true, hc, if_false, h1, nsubm (show 1 ≤ b by omega)]
theorem nextOrder_ev {w : AW} {p : List Nat} {N : Nat} (h : rowL (w.1 12) p) (hm : ∀ x ∈ p, x < 8) (hl : p.length ≤ 6) (hN : 20 < N) :
    (∀ q, nx p = some q → ∃ w', fX12_nextOrder N (nI p.length) w = some (1, w') ∧ Fr (fun o _ => o == 12) w w' ∧ rowL (w'.1 12) q) ∧ (nx p = none → fX12_nextOrder N (nI p.length) w = some (0, w)) := by
  by_cases h0 : p.length = 0
  · have : p = [] := List.length_eq_zero_iff.mp h0
    subst this
    refine ⟨fun q hq => by simp [nx, nxI] at hq, fun _ => ?_⟩
    obtain ⟨N, rfl⟩ : ∃ k, N = k + 1 := ⟨N - 1, by omega⟩
    have e1 : wh (lbX12_nextOrder_4_1 (N + 1) (nI 0) w) (N + 1) (-2) = some (-2) := wh_out rfl
    have e2 : nI 0 - 2 = -2 := rfl
    simp only [fX12_nextOrder, List.length_nil, e2, e1, bd_some']
    rfl
  · have e0 : nI p.length - 2 = nI (p.length - 1) - 1 := by
      rw [zI_nI, zI_nI, show (2 : Int32) = zI 2 from rfl, show (1 : Int32) = zI 1 from rfl, zsub, zsub]; congr 1; omega
    have e1 := nx1_ev (c := nI p.length) h hm (by omega) (i := p.length - 1) (N := N) (by omega) (by omega)
    have e3 : nI p.length - 1 = nI (p.length - 1) := by rw [n1, nsub (by omega)]
    constructor
    · intro q hq
      unfold nx at hq
      cases hi : nxI p (p.length - 1) with
      | none => rw [hi] at hq; cases hq
      | some i =>
        rw [hi] at hq e1
        simp only [Option.some.injEq] at hq e1
        obtain ⟨a1, a2⟩ := nxI_spec hi
        obtain ⟨b1, b2⟩ := nx2_ev (c := nI p.length) (i0 := i) h hm (by omega) (by omega) a2 (j := p.length - 1) (N := N) (by omega) (by omega) (by omega)
        obtain ⟨w1, c1, c2, c3⟩ := swaps_ev (a := i) (b := nxJ p i (p.length - 1)) h (by omega) (by omega) (by omega)
        obtain ⟨w2, d1, d2, d3⟩ := nx3_ev (N := N) (f := 8) (w := w1) (a := i) (b := p.length - 1) (M := N) c3 (by rw [swL_len]; omega) (by rw [swL_len]; omega) (by rw [swL_len]; omega) (by omega) (by omega)
        refine ⟨w2, ?_, c2.tr d2, hq ▸ d3⟩
        simp (disch := omega) only [fX12_nextOrder, e0, e3, e1, b1, c1, d1, bd_some', n0, nle, Nat.zero_le, if_true]
    · intro hq
      unfold nx at hq
      cases hi : nxI p (p.length - 1) with
      | some i => rw [hi] at hq; cases hq
      | none =>
        rw [hi] at e1
        simp only [fX12_nextOrder, e0, e1, bd_some']
        rfl
