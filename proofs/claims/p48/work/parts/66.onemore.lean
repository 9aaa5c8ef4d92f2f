/-! 66: one job more, one job less, the soonest day -/
section
variable {dy : Nat → Nat} {st c0 l0 fine odds n M : Nat} {J : Nat → Nat → Nat}
theorem upJ_cgr {k s c b p b' p' : Nat} : upJ J n (jR k s c b p) 1 = upJ J n (jR k s c b' p') 1 ∧ upJ J n (jR k s c b p) 2 = upJ J n (jR k s c b' p') 2 ∧ upJ J n (jR k s c b p) 0 = upJ J n (jR k s c b' p') 0 := by
  refine ⟨?_, ?_, ?_⟩ <;> funext j <;> simp only [upJ, jR] <;> split <;> rfl
theorem uN_12 {J' : Nat → Nat → Nat} (h1 : J' 1 = J 1) (h2 : J' 2 = J 2) {p : Nat → Nat} : ∀ {i : Nat}, uN st c0 l0 J' (J' 1) p i = uN st c0 l0 J (J 1) p i ∧ wasN J' p i = wasN J p i := by
  intro i
  induction i with
  | zero => exact ⟨rfl, rfl⟩
  | succ i ih =>
    obtain ⟨i1, i2⟩ := ih
    refine ⟨?_, by simp only [wasN, h2]⟩
    show uB st c0 l0 J' (J' 1) (uN st c0 l0 J' (J' 1) p i) (wasN J' p i) (p i) = uB st c0 l0 J (J 1) (uN st c0 l0 J (J 1) p i) (wasN J p i) (p i)
    rw [i1, i2]
    unfold uB
    rw [h1, h2]
theorem eJ_12 {J' : Nat → Nat → Nat} (h1 : J' 1 = J 1) (h2 : J' 2 = J 2) {j : Nat} {q : List Nat} : eJ dy st c0 l0 J' j q = eJ dy st c0 l0 J j q := by
  unfold eJ; rw [(uN_12 (st := st) (c0 := c0) (l0 := l0) h1 h2).1]
/-- all on time, job by job -/
theorem okL_eJ {q : List Nat} (hq : q.Nodup) : okL dy st c0 l0 J 0 0 q ↔ ∀ j ∈ q, eJ dy st c0 l0 J j q ≤ J 3 j := by
  rw [okL_lN, lN_zero]
  refine ⟨fun h j hj => ?_, fun h i hi => ?_⟩
  · obtain ⟨k1, k2⟩ := lf_idxOf hj
    have := h _ k1
    rw [k2] at this
    exact this
  · have := h (lf q i) (getD_mem hi)
    rw [eJ_at hq hi] at this
    exact this
/-- with one job less: the same board -/
theorem less_prm (hm : mon dy M) (bj : bJ (n + 1) J) (h2 : st ≤ 3) (h0 : l0 ≤ st) (hM : 12 * (n + 1) ≤ M) (hn : n + 1 ≤ 6) {q : List Nat} (hq : q ∈ prm (n + 1) 6) :
    ∃ q' ∈ prm n 6, vL dy st c0 l0 fine J 0 0 q ≤ (J 4 n : Int) + vL dy st c0 l0 fine J 0 0 q' ∧ (okL dy st c0 l0 J 0 0 q → okL dy st c0 l0 J 0 0 q') := by
  have hqp := prm_to hn hq
  obtain ⟨a, c, rfl, h⟩ := split_at hqp
  have hl : (a ++ n :: c).length = n + 1 := by rw [hqp.length_eq, List.length_range]
  obtain ⟨i1, i2⟩ := vL_less (dy := dy) (st := st) (c0 := c0) (l0 := l0) (fine := fine) hm bj h2 h0 (x := n) (by omega) (c := c) (a := a) (u := 0) (was := 0) (fun j hj => by have := hqp.mem_iff.mp hj; simpa using this) (by rw [hl]; omega)
  exact ⟨a ++ c, prm_of (by omega) h, i1, i2⟩
theorem okL_up {q : List Nat} {r : Nat → Nat} (hq : q ∈ prm n 6) : okL dy st c0 l0 (upJ J n r) 0 0 q ↔ okL dy st c0 l0 J 0 0 q :=
  (vL_cgr (dy := dy) (st := st) (c0 := c0) (l0 := l0) (fine := 0) (J' := upJ J n r) (J := J) (l := q) (u := 0) (was := 0) (fun j hj k _ => upJ_lt (prm_mem hq j hj))).2
theorem vL_up {q : List Nat} {r : Nat → Nat} (hq : q ∈ prm n 6) : vL dy st c0 l0 fine (upJ J n r) 0 0 q = vL dy st c0 l0 fine J 0 0 q :=
  (vL_cgr (dy := dy) (st := st) (c0 := c0) (l0 := l0) (fine := fine) (J' := upJ J n r) (J := J) (l := q) (u := 0) (was := 0) (fun j hj k _ => upJ_lt (prm_mem hq j hj))).1
/-- GAIN is at most the price -/
theorem gain_le (hm : mon dy M) (bj : bJ n J) (bf : fine ≤ 99) (h2 : st ≤ 3) (h0 : l0 ≤ st) (hM : 12 * (n + 1) ≤ M) (hn : n + 1 ≤ 6) {k s c b p : Nat} (bj' : bJ (n + 1) (upJ J n (jR k s c b p))) :
    (bst dy st c0 l0 fine (upJ J n (jR k s c b p)) (n + 1)).1 ≤ (p : Int) + (bst dy st c0 l0 fine J n).1 := by
  obtain ⟨t1, t2, t3, -⟩ := bst_top (dy := dy) (st := st) (c0 := c0) (l0 := l0) bj' bf hn
  obtain ⟨q', hq', i1, -⟩ := less_prm (fine := fine) hm bj' h2 h0 hM hn t3
  obtain ⟨s1, -⟩ := bst_top (dy := dy) (st := st) (c0 := c0) (l0 := l0) bj bf (by omega)
  have := s1 q' hq'
  rw [vL_up hq'] at i1
  rw [t2] at i1
  have hp : upJ J n (jR k s c b p) 4 n = p := by simp [upJ, jR]
  rw [hp] at i1
  omega
/-- the soonest day: what it tells of orders -/
theorem soo_facts (bj : bJ n J) (hm : mon dy M) (h2 : st ≤ 3) (h0 : l0 ≤ st) (hM : 12 * (n + 1) ≤ M) (hn : n + 1 ≤ 6) (hd : ∀ u, 1 ≤ u → u ≤ M → dy u ≤ 1000) {k s c : Nat} (bj' : bJ (n + 1) (upJ J n (jR k s c 60 0))) (hs : soo dy st c0 l0 fine (upJ J n (jR k s c 60 0)) (n + 1) ≤ 60) :
    few dy st c0 l0 J n = 0 ∧ (∀ p, few dy st c0 l0 (upJ J n (jR k s c (soo dy st c0 l0 fine (upJ J n (jR k s c 60 0)) (n + 1)) p)) (n + 1) = 0) ∧
      (∀ p b, b + 1 = soo dy st c0 l0 fine (upJ J n (jR k s c 60 0)) (n + 1) → ¬ few dy st c0 l0 (upJ J n (jR k s c b p)) (n + 1) = 0) := by
  obtain ⟨f1, f2, f3⟩ := fold_min (c := cL dy st c0 l0 (upJ J n (jR k s c 60 0)) (upJ J n (jR k s c 60 0) 1) (lsA fine (upJ J n (jR k s c 60 0)) (n + 1) 2) 0 0) (pre := []) (L := prm (n + 1) 6) (b := (1000000, []))
  have hs0 : soo dy st c0 l0 fine (upJ J n (jR k s c 60 0)) (n + 1) = ((prm (n + 1) 6).foldl (minG (cL dy st c0 l0 (upJ J n (jR k s c 60 0)) (upJ J n (jR k s c 60 0) 1) (lsA fine (upJ J n (jR k s c 60 0)) (n + 1) 2) 0 0) []) (1000000, [])).1 := rfl
  rw [← hs0] at f1 f2 f3
  have h60 : upJ J n (jR k s c 60 0) 3 n = 60 := by simp [upJ, jR]
  have cst : ∀ q ∈ prm (n + 1) 6, _ := fun q hq => cost2 (dy := dy) (st := st) (c0 := c0) (l0 := l0) (fine := fine) hq hn h60
  have e12 : ∀ b p b' p', upJ J n (jR k s c b p) 1 = upJ J n (jR k s c b' p') 1 ∧ upJ J n (jR k s c b p) 2 = upJ J n (jR k s c b' p') 2 := fun b p b' p' => ⟨upJ_cgr.1, upJ_cgr.2.1⟩
  have hnd : ∀ q ∈ prm (n + 1) 6, q.Nodup := fun q hq => prm_nodup hq
  have hlt : ∀ q ∈ prm (n + 1) 6, ∀ j ∈ q, j ≠ n → j < n := fun q hq j hj hne => by have := prm_mem hq j hj; omega
  have h3 : ∀ b p j, j < n → upJ J n (jR k s c b p) 3 j = J 3 j := fun b p j hj => upJ_lt hj
  have h3n : ∀ b p, upJ J n (jR k s c b p) 3 n = b := fun b p => by simp [upJ, jR]
  obtain ⟨q, hq, hcq⟩ : ∃ q ∈ prm (n + 1) 6, soo dy st c0 l0 fine (upJ J n (jR k s c 60 0)) (n + 1) = cL dy st c0 l0 (upJ J n (jR k s c 60 0)) (upJ J n (jR k s c 60 0) 1) (lsA fine (upJ J n (jR k s c 60 0)) (n + 1) 2) 0 0 q := by
    rcases f3 with h | h
    · simp only at h; omega
    · exact h
  obtain ⟨ce, cl⟩ : cL dy st c0 l0 (upJ J n (jR k s c 60 0)) (upJ J n (jR k s c 60 0) 1) (lsA fine (upJ J n (jR k s c 60 0)) (n + 1) 2) 0 0 q = eJ dy st c0 l0 (upJ J n (jR k s c 60 0)) n q ∧ ltN dy st c0 l0 (upJ J n (jR k s c 60 0)) (upJ J n (jR k s c 60 0) 1) (lf q) q.length = 0 := by
    rcases cst q hq with ⟨h1, h2⟩ | ⟨h1, -⟩
    · exact ⟨h1, h2.mpr (by omega)⟩
    · omega
  have hok := okL_lN.mpr cl
  have hokj := (okL_eJ (hnd q hq)).mp hok
  refine ⟨?_, fun p => ?_, fun p b hb hf => ?_⟩
  · obtain ⟨q', hq', -, i2⟩ := less_prm (fine := fine) hm bj' h2 h0 hM hn hq
    exact (few_top (by omega)).2.mpr ⟨q', hq', (okL_up hq').mp (i2 hok)⟩
  · refine (few_top hn).2.mpr ⟨q, hq, (okL_eJ (hnd q hq)).mpr (fun j hj => ?_)⟩
    rw [eJ_12 (J := upJ J n (jR k s c 60 0)) (e12 _ _ _ _).1 (e12 _ _ _ _).2]
    by_cases hjn : j = n
    · subst hjn; rw [h3n]; omega
    · have hjl := hlt q hq j hj hjn
      have := hokj j hj
      rw [h3 _ _ j hjl] at this ⊢
      exact this
  · obtain ⟨q2, hq2, ho2⟩ := (few_top hn).2.mp hf
    have ho2j := (okL_eJ (hnd q2 hq2)).mp ho2
    have hall : ∀ j ∈ q2, eJ dy st c0 l0 (upJ J n (jR k s c 60 0)) j q2 ≤ upJ J n (jR k s c 60 0) 3 j := fun j hj => by
      have := ho2j j hj
      rw [eJ_12 (J := upJ J n (jR k s c 60 0)) (e12 _ _ _ _).1 (e12 _ _ _ _).2] at this
      by_cases hjn : j = n
      · subst hjn; rw [h3n] at this ⊢; omega
      · have hjl := hlt q2 hq2 j hj hjn
        rw [h3 _ _ j hjl] at this ⊢
        exact this
    have hl2 := okL_lN.mp ((okL_eJ (hnd q2 hq2)).mpr hall)
    have hn2 : n ∈ q2 := (prm_to hn hq2).mem_iff.mpr (by simp)
    have he : eJ dy st c0 l0 (upJ J n (jR k s c 60 0)) n q2 ≤ b := by
      have := ho2j n hn2
      rw [eJ_12 (J := upJ J n (jR k s c 60 0)) (e12 _ _ _ _).1 (e12 _ _ _ _).2, h3n] at this
      exact this
    have hf2 := f2 q2 hq2
    rcases cst q2 hq2 with ⟨h1, -⟩ | ⟨-, h2⟩
    · omega
    · exact h2 hl2
end
/-! one job sent across the road -/
def inc (k x : Nat) : Nat := if x < k then x else x + 1
theorem inc_inj {k x y : Nat} (h : inc k x = inc k y) : x = y := by unfold inc at h; split at h <;> split at h <;> omega
theorem inc_dcr {k x : Nat} (h : x ≠ k) : inc k (dcr k x) = x := by unfold inc dcr; split <;> split <;> omega
theorem inc_ne {k x : Nat} : inc k x ≠ k := by unfold inc; split <;> omega
theorem lf_map {f : Nat → Nat} {l : List Nat} {i : Nat} (h : i < l.length) : lf (l.map f) i = f (lf l i) := by
  unfold lf
  rw [List.getD_eq_getElem?_getD, List.getD_eq_getElem?_getD, List.getElem?_map, List.getElem?_eq_getElem h]; rfl
section
variable {dy : Nat → Nat} {st c0 l0 fine n k : Nat} {J : Nat → Nat → Nat}
theorem map_inc (hk : k < n) {q : List Nat} (h : q.Perm (List.range (n - 1))) : (q.map (inc k)).Perm (rmB n k) := by
  refine (perm_of_sub (l1 := rmB n k) (l2 := q.map (inc k)) (rmB_nodup n k) (fun x hx => ?_) ?_).symm
  · obtain ⟨h1, h2⟩ := rmB_mem.mp hx
    refine List.mem_map.mpr ⟨dcr k x, h.mem_iff.mpr ?_, inc_dcr h2⟩
    simp only [List.mem_range]
    unfold dcr; split <;> omega
  · rw [List.length_map, h.length_eq, List.length_range]
    have hmem : k ∈ List.range n := by simpa using hk
    have : rmB n k = (List.range n).erase k := by
      rw [List.Nodup.erase_eq_filter List.nodup_range]
      unfold rmB
      apply List.filter_congr
      intro a _
      cases hab : (a == k) <;> simp [bne, hab]
    rw [this, List.length_erase_of_mem hmem, List.length_range]
theorem map_dcr (hk : k < n) {q : List Nat} (h : q.Perm (rmB n k)) : (q.map (dcr k)).Perm (List.range (n - 1)) := by
  have hnd : q.Nodup := h.nodup_iff.mpr (rmB_nodup n k)
  have hne : ∀ x ∈ q, x ≠ k := fun x hx => (rmB_mem.mp (h.mem_iff.mp hx)).2
  have hlt : ∀ x ∈ q, x < n := fun x hx => (rmB_mem.mp (h.mem_iff.mp hx)).1
  refine (perm_of_sub (l1 := List.range (n - 1)) (l2 := q.map (dcr k)) List.nodup_range (fun x hx => ?_) ?_).symm
  · have hx' : x < n - 1 := by simpa using hx
    refine List.mem_map.mpr ⟨inc k x, h.mem_iff.mpr (rmB_mem.mpr ⟨by unfold inc; split <;> omega, inc_ne⟩), ?_⟩
    unfold dcr inc
    split <;> split <;> omega
  · have hmem : k ∈ List.range n := by simpa using hk
    have : rmB n k = (List.range n).erase k := by
      rw [List.Nodup.erase_eq_filter List.nodup_range]
      unfold rmB
      apply List.filter_congr
      intro a _
      cases hab : (a == k) <;> simp [bne, hab]
    rw [List.length_map, h.length_eq, this, List.length_erase_of_mem hmem, List.length_range, List.length_range]
/-- the most of the others, by their new numbers -/
theorem Vb_rm (bj : bJ n J) (bf : fine ≤ 99) (hn : n ≤ 6) (hk : k < n) : (bst dy st c0 l0 fine (rmJ k J) (n - 1)).1 = Vb dy st c0 l0 fine J n k := by
  have hW := W_low (dy := dy) (st := st) (c0 := c0) (l0 := l0) (fine := fine) (n := n - 1) (b := 6) (bJ_rm (j := k) bj) bf (by omega)
  have hW2 := W_low (dy := dy) (st := st) (c0 := c0) (l0 := l0) (fine := fine) (n := n) (b := k) bj bf hn
  obtain ⟨a1, a2, a3⟩ := fold_top (f := fun p => wN dy st c0 l0 fine (rmJ k J) (rmJ k J 1) (lf p) p.length) (L := prm (n - 1) 6) (b := (-2147483648, []))
  obtain ⟨b1, b2, b3⟩ := fold_top (f := fun p => wN dy st c0 l0 fine J (J 1) (lf p) p.length) (L := prm n k) (b := (-2147483648, []))
  have ea : ((prm (n - 1) 6).foldl (bestG (fun p => wN dy st c0 l0 fine (rmJ k J) (rmJ k J 1) (lf p) p.length)) (-2147483648, [])).1 = (bst dy st c0 l0 fine (rmJ k J) (n - 1)).1 := rfl
  have eb : ((prm n k).foldl (bestG (fun p => wN dy st c0 l0 fine J (J 1) (lf p) p.length)) (-2147483648, [])).1 = Vb dy st c0 l0 fine J n k := rfl
  rw [ea] at a1 a2 a3
  rw [eb] at b1 b2 b3
  have hmap : ∀ q : List Nat, (∀ x ∈ q, x < n - 1) → wN dy st c0 l0 fine (rmJ k J) (rmJ k J 1) (lf q) q.length = wN dy st c0 l0 fine J (J 1) (lf (q.map (inc k))) (q.map (inc k)).length := by
    intro q hq
    rw [List.length_map]
    refine wN_cgr (m := q.length) (fun i hi y => ?_) q.length (Nat.le_refl _)
    rw [lf_map hi]
    simp only [rmJ, inc]
    split <;> rfl
  refine Int.le_antisymm ?_ ?_
  · rcases a3 with h | ⟨q, hq, h⟩
    · simp only at h
      simp only at b1
      omega
    · have hqp := prm_to (by omega) hq
      have hm := b2 (q.map (inc k)) (pms_mem rfl (map_inc hk hqp))
      rw [h]
      rw [hmap q (fun x hx => by have := hqp.mem_iff.mp hx; simpa using this)]
      exact hm
  · rcases b3 with h | ⟨q, hq, h⟩
    · simp only at h
      simp only at a1
      omega
    · have hqp := prm_perm hq
      have hdp := map_dcr hk hqp
      have hm := a2 (q.map (dcr k)) (prm_of (by omega) hdp)
      rw [hmap _ (fun x hx => by have := hdp.mem_iff.mp hx; simpa using this)] at hm
      have e : (q.map (dcr k)).map (inc k) = q := by
        rw [List.map_map]
        have : ∀ x ∈ q, (inc k ∘ dcr k) x = x := fun x hx => inc_dcr (rmB_mem.mp (hqp.mem_iff.mp hx)).2
        rw [List.map_congr_left this, List.map_id'']
        intro x; rfl
      rw [e] at hm
      rw [h]
      exact hm
theorem acr_facts {V : Nat → Int} {pr : Nat → Nat} : ∀ i, V 6 ≤ (acr V pr i).2 ∧ (((acr V pr i).1 = -9 ∧ (acr V pr i).2 = V 6) ∨ ∃ k, k < i ∧ (acr V pr i).1 = nI k ∧ (acr V pr i).2 = V k + ((pr k / 2 : Nat) : Int) ∧ V 6 < (acr V pr i).2) := by
  intro i
  induction i with
  | zero => exact ⟨Int.le_refl _, Or.inl ⟨rfl, rfl⟩⟩
  | succ i ih =>
    rw [acr]
    split
    · refine ⟨ih.1, ?_⟩
      rcases ih.2 with h | ⟨k, h1, h2⟩
      · exact Or.inl h
      · exact Or.inr ⟨k, by omega, h2⟩
    · next h => exact ⟨by simp only []; omega, Or.inr ⟨i, by omega, rfl, rfl, by simp only []; omega⟩⟩
end
