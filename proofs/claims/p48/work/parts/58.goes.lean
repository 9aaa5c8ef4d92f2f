/-! 58: a day that goes -/
def idE (p : List Nat) (e : Nat) : List Nat := (List.range p.length).filter (fun x => decide (e ≤ p.idxOf x))
section
variable {n : Nat} {p : List Nat}
theorem idx_lt (hn : p.Nodup) {i : Nat} (hi : i < p.length) : p.idxOf (lf p i) = i := by
  obtain ⟨a, b⟩ := lf_idxOf (getD_mem (l := p) hi)
  exact lf_inj hn _ _ a hi b
theorem drop_filter (hn : p.Nodup) (e : Nat) : p.filter (fun x => decide (e ≤ p.idxOf x)) = p.drop e := by
  have h : p.take e ++ p.drop e = p := List.take_append_drop e p
  have h1 : (p.take e).filter (fun x => decide (e ≤ p.idxOf x)) = [] := by
    rw [List.filter_eq_nil_iff]
    intro x hx
    obtain ⟨i, hi, rfl⟩ := List.getElem_of_mem hx
    rw [List.length_take] at hi
    have : (p.take e)[i] = lf p i := by
      rw [List.getElem_take]; unfold lf; rw [List.getD_eq_getElem?_getD, List.getElem?_eq_getElem (by omega)]; rfl
    rw [this, idx_lt hn (by omega)]
    simp; omega
  have h2 : (p.drop e).filter (fun x => decide (e ≤ p.idxOf x)) = p.drop e := by
    rw [List.filter_eq_self]
    intro x hx
    obtain ⟨i, hi, rfl⟩ := List.getElem_of_mem hx
    rw [List.length_drop] at hi
    have : (p.drop e)[i] = lf p (e + i) := by
      rw [List.getElem_drop]; unfold lf; rw [List.getD_eq_getElem?_getD, List.getElem?_eq_getElem (by omega)]; rfl
    rw [this, idx_lt hn (by omega)]
    simp
  calc p.filter _ = (p.take e ++ p.drop e).filter (fun x => decide (e ≤ p.idxOf x)) := by rw [h]
    _ = _ := by rw [List.filter_append, h1, h2]; rfl
theorem idE_mem {e x : Nat} : x ∈ idE p e ↔ x < p.length ∧ e ≤ p.idxOf x := by
  unfold idE; simp
theorem idE_nodup {e : Nat} : (idE p e).Nodup := List.nodup_range.filter _
theorem idE_perm (hp : p.Perm (List.range p.length)) (e : Nat) : (p.drop e).Perm (idE p e) := by
  rw [← drop_filter (perm_facts hp).2.2.1]
  exact hp.filter _
theorem idE_len (hp : p.Perm (List.range p.length)) (e : Nat) : (idE p e).length = p.length - e := by
  rw [← (idE_perm hp e).length_eq, List.length_drop]
theorem idE_up (hp : p.Perm (List.range p.length)) {e : Nat} (he : e < p.length) : idE p (e + 1) = (idE p e).erase (lf p e) := by
  have hn := (perm_facts hp).2.2.1
  have hall := (perm_facts hp).2.2.2
  rw [List.Nodup.erase_eq_filter idE_nodup]
  unfold idE
  rw [List.filter_filter]
  apply List.filter_congr
  intro x hx
  have hxp := hall x (by simpa using hx)
  obtain ⟨a, b⟩ := lf_idxOf hxp
  by_cases h : x = lf p e
  · subst h
    rw [idx_lt hn he]; simp
  · have : p.idxOf x ≠ e := fun q => h (by rw [← b, q])
    simp only [bne, beq_false_of_ne h, Bool.not_false, Bool.true_and]
    congr 1
    apply propext
    omega
end
theorem CBd.cgr {b n : Nat} {J J' : Nat → Nat → Nat} {L lost nig : Nat → Nat} {day col left : Nat} {till : Int32} {p : List Nat} {w : AW} (h : CBd b n J L lost nig day col left till p w) (e : ∀ y, y < n → ∀ k, J k y = J' k y) : CBd b n J' L lost nig day col left till p w := by
  refine ⟨⟨h.1.1, fun y hy => ?_⟩, h.2⟩
  have := h.1.2 y hy
  simp only [e y hy] at this
  exact this
/-- a day under way, on both sides -/
def DayI (n : Nat) (J : Nat → Nat → Nat) (L lost nig : Nat → Nat) (day : Nat) (p : List Nat) (wC wM : AW) (e : Nat) (wC' wM' : AW) : Prop :=
  ∃ (rs : Nat → Nat) (pc ps : Nat) (till : Int32), e ≤ n ∧ pc ≤ 1 ∧ ps ≤ 3 ∧ (∀ x, x < n → rs x ≤ 9 ∧ (rs x = 0 ↔ p.idxOf x < e)) ∧ CBd 1 (n - e) (repJ (idE p e) rs J) L lost nig day pc ps till ((p.drop e).map (fun w => (idE p e).idxOf w)) wC' ∧ Fr TG wC wC' ∧
    MP pc ps wM' ∧ (∀ x, x < n → wM'.1 13 x = nI (rs x)) ∧ wM'.1 0 8 = till ∧ Fr (fun o k => o == 13 || o == 14 || (o == 0 && (k == 8 || k == 29 || k == 30))) wM wM'
section
variable {n : Nat} {J : Nat → Nat → Nat} {L lost nig : Nat → Nat} {day col left : Nat} {till : Int32} {p : List Nat} {wC wM : AW}
theorem bJ_rep {e : Nat} {rs : Nat → Nat} (hp : p.Perm (List.range n)) (bj : bJ n J) (hr : ∀ x, x < n → rs x ≤ 9 ∧ (rs x = 0 ↔ p.idxOf x < e)) : bJ (n - e) (repJ (idE p e) rs J) := by
  have hl : p.length = n := (perm_facts hp).1
  subst hl
  intro z hz
  have hz' : z < (idE p e).length := by rw [idE_len hp]; exact hz
  have hm := getD_mem (l := idE p e) hz'
  obtain ⟨m1, m2⟩ := idE_mem.mp hm
  have m1' : lf (idE p e) z < p.length := m1
  have m2' : e ≤ p.idxOf (lf (idE p e) z) := m2
  obtain ⟨b0, b1, b2, b3, b4, b5⟩ := bj _ m1'
  obtain ⟨r1, r2⟩ := hr _ m1'
  have : rs (lf (idE p e) z) ≠ 0 := fun q => by have := r2.mp q; omega
  simp only [repJ, Nat.reduceEqDiff, if_false, if_true]
  refine ⟨b0, by omega, r1, b3, b4, b5⟩
theorem pl_facts {e : Nat} (hp : p.Perm (List.range n)) : ((p.drop e).map (fun w => (idE p e).idxOf w)).Perm (List.range (n - e)) := by
  have hl : p.length = n := (perm_facts hp).1
  subst hl
  refine (perm_of_sub List.nodup_range (fun z hz => ?_) ?_).symm
  · have hz' : z < (idE p e).length := by rw [idE_len hp]; simpa using hz
    rw [List.mem_map]
    exact ⟨lf (idE p e) z, (idE_perm hp e).mem_iff.mpr (getD_mem hz'), idx_lt idE_nodup hz'⟩
  · rw [List.length_map, List.length_drop, List.length_range]
end

