/-! 44: best, fewest, soonest, gain, across, nights -/
def dg (ch : List Nat) : Nat → Int32
  | 0 => 0
  | i + 1 => dg ch i ||| (nI (lf ch i) <<< ((nI (3 * i)) &&& 31))
theorem digitsC_ev {ch : List Nat} {r n N : Nat} {w : AW} (h : rowL (w.1 r) ch) (hl : ch.length = n) (hn : n ≤ 6) (hN : 20 < N) : fX11_digitsOf N r (nI n) w = some (dg ch n) := by
  have key := wh_for (body := lbX11_digitsOf_4_1 N r (nI n) w) (fun i => (dg ch i, nI i)) (n := n) (e := dg ch n) ?_ ?_ (N := N) (i := 0) (Nat.zero_le _) (by omega)
  · have key' : wh (lbX11_digitsOf_4_1 N r (nI n) w) N (0, 0) = some (dg ch n) := key
    simp only [fX11_digitsOf, key', lw_eq, bd_some', bd2_some', gd_true]
  · intro i hi
    have := h.get (i := i) (by omega)
    have h3 : (3 : Int32) * nI i = nI (3 * i) := by rw [n3, nmul]
    simp only [lbX11_digitsOf_4_1]
    rw [if_neg (by rw [nle (by omega) (by omega)]; omega), if_neg (by rw [n6, nle (by omega) (by omega)]; omega), gd_n (by omega) (by omega), lw_eq, ntn (by omega), this, h3]
    rw [show nI i + 1 = nI (i + 1) by rw [n1, nadd]]
    rfl
  · simp only [lbX11_digitsOf_4_1, Int32.le_refl, if_true]
theorem bestG_mem {f : List Nat → Int} : ∀ {L : List (List Nat)} {b : Int × List Nat}, (L.foldl (bestG f) b) = b ∧ (∀ p ∈ L, f p ≤ b.1) ∨ (L.foldl (bestG f) b).2 ∈ L := by
  intro L
  induction L with
  | nil => intro b; left; simp
  | cons p l ih =>
    intro b
    rw [List.foldl_cons]
    by_cases hc : b.1 < f p
    · right
      rw [show bestG f b p = (f p, p) from if_pos hc]
      rcases ih (b := (f p, p)) with ⟨h1, -⟩ | h
      · rw [h1]; exact List.mem_cons_self
      · exact List.mem_cons_of_mem _ h
    · rw [show bestG f b p = b from if_neg hc]
      rcases ih (b := b) with ⟨h1, h2⟩ | h
      · left
        refine ⟨h1, fun q hq => ?_⟩
        rcases List.mem_cons.mp hq with rfl | hq
        · omega
        · exact h2 q hq
      · right; exact List.mem_cons_of_mem _ h
theorem bestG_in {f : List Nat → Int} {n b : Nat} {b0 : Int} (hn : n ≤ 6) (hb : b ≤ 6) (h : ∀ p ∈ prm n b, b0 < f p) : ((prm n b).foldl (bestG f) (b0, [])).2 ∈ prm n b := by
  rcases bestG_mem (f := f) (L := prm n b) (b := (b0, [])) with ⟨-, h2⟩ | h2
  · obtain ⟨p, l, hp⟩ := prm_ne hn hb
    have := h p (by rw [hp]; exact List.mem_cons_self)
    have := h2 p (by rw [hp]; exact List.mem_cons_self)
    omega
  · exact h2
theorem W_low {dy : Nat → Nat} {st c0 l0 fine n b : Nat} {J : Nat → Nat → Nat} (bj : bJ n J) (bf : fine ≤ 99) (hn : n ≤ 6) : ∀ p ∈ prm n b, -1200 ≤ wN dy st c0 l0 fine J (J 1) (lf p) p.length ∧ wN dy st c0 l0 fine J (J 1) (lf p) p.length ≤ 600 := by
  intro p hp
  have hpl : p.length ≤ n := by rw [prm_len hp]; exact rmB_len n b
  have := wN_bd (dy := dy) (st := st) (c0 := c0) (l0 := l0) (fine := fine) (J := J) (R := J 1) (p := lf p) (all := n) (m := p.length) bj bf (fun i hi => prm_mem hp _ (getD_mem hi)) p.length (Nat.le_refl _)
  omega
def TB (o k : Nat) : Bool := (o == 46) || (o == 47) || (o == 48) || (o == 49) || (o == 50) || (o == 51) || (o == 52) || (o == 53) || (o == 54) || (o == 55) || (o == 56) || (o == 57) || (decide (61 ≤ o) && decide (o ≤ 66))
theorem TB_p {o k : Nat} (h : pC o k = true) : TB o k = false := by
  simp only [pC, Bool.or_eq_true, Bool.and_eq_true, beq_iff_eq, decide_eq_true_eq] at h
  simp [TB]; omega
theorem TB_M4 {o k : Nat} (h : TB o k = false) : TM4 o k = false := by
  simp only [TB, TM4, Bool.or_eq_false_iff] at h ⊢; exact ⟨by simp_all, by simp_all⟩
theorem TB_L {o k : Nat} (h : TB o k = false) : TL o k = false := by
  simp only [TB, TL, Bool.or_eq_false_iff] at h ⊢; simp_all
theorem TB_D {o k : Nat} (h : TB o k = false) : TD o k = false := by
  simp only [TB, TD, Bool.or_eq_false_iff] at h ⊢; simp_all
theorem TB_C {o k : Nat} (h : TB o k = false) : TC o k = false := by
  simp only [TB, TC, Bool.or_eq_false_iff] at h ⊢; simp_all
theorem TB_T {o k : Nat} (h : TB o k = false) : (decide (61 ≤ o) && decide (o ≤ 61 + 5)) = false := by
  simp only [TB, Bool.or_eq_false_iff] at h; exact h.2
/-- what is set aside, and the board as it stands -/
theorem CBd.tb {b n : Nat} {J : Nat → Nat → Nat} {L lost nig : Nat → Nat} {day col left : Nat} {till : Int32} {p : List Nat} {w w' : AW} {T : Nat → Nat → Bool} (h : CBd 1 n J L lost nig day col left till p w) (f : Fr T w w') (ht : ∀ o k, TB o k = false → T o k = false) : CBd 1 n J L lost nig day col left till p w' := h.fr f (fun i hi k => ht _ _ (TB_p (by simp [pC]; omega)))
theorem neg1_iff {n : Nat} (hn : n ≤ 6) : ∀ j, j < n → ((nI j = (-1 : Int32)) ↔ j = 6) := by
  intro j hj
  rw [zI_nI, show (-1 : Int32) = zI (-1) from rfl, zeq (by omega) (by omega) (by omega) (by omega)]; omega
theorem fewC_ev {n : Nat} {J : Nat → Nat → Nat} {L lost nig : Nat → Nat} {day col left lg N : Nat} {till : Int32} {p : List Nat} {w : AW} (ok : okB n J L lost nig day col left p) (hc : CBd 1 n J L lost nig day col left till p w) (hlg : lg ≤ 9) (hN : 800 < N) :
    ∃ w1 w2 le ch, fX3_measure N 1 (nI lg) w = some w1 ∧ fX5_fewestLate N 2 w1 = some (nI le, w2) ∧ Fr TB w w2 ∧ CBd 1 n J L lost nig day col left till p w2 ∧ le ≤ 10000000 ∧ (le, ch) = (prm n 6).foldl (minG (fun p => ltN (dyS (sLg (sOf L lost nig) day lg) day) (L 1) col left J (J 1) (lf p) p.length) []) (1000000, []) := by
  obtain ⟨w1, m1, m2, m3, m4, m5⟩ := meas_ev (lg := lg) (N := N) ok hc hlg (by omega)
  obtain ⟨hn, bj, b, hp⟩ := ok
  obtain ⟨w2, le, ch, g1, g2, g3, g4, g5⟩ := leastLost_ev (aim := 1) (o := 2) (N := N) (b := 6) (bI := -9) m5 bj hn (Or.inl rfl) (by omega) (by omega) (Or.inl ⟨rfl, rfl⟩) m3 m4.1
  rw [show nI 1 = 1 from rfl] at g1
  refine ⟨w1, w2, le, ch, m1, by simp only [fX5_fewestLate, g1, lw_eq, bd_some', bd2_some', gd_true], (m2.wd (fun o k q => TB_M4 q)).tr (g2.wd (fun o k q => TB_L q)), m4.tb (b := 1) g2 (fun o k q => TB_L q), g4, ?_⟩
  rw [g5]
  congr 2
  funext p
  exact cost1
/-- job numbers told -/
def lkW (a0 a1 a2 : Int32) : Int32 := if wI a0 0 5 = 0 then 0 else if wI a1 1 9 = 0 then 0 else if wI a2 0 1 = 0 then 0 else 1
def pmW (a3 a4 : Int32) : Int32 := if wI a3 0 60 = 0 then 0 else if wI a4 0 99 = 0 then 0 else 1
theorem isJobC_ev (a0 a1 a2 a3 a4 : Int32) (w : AW) : fX11_isJob a0 a1 a2 a3 a4 w = some (if lkW a0 a1 a2 = 0 then 0 else pmW a3 a4) := by
  simp only [fX11_isJob, within_ev, bd_some', lkW, pmW]
  by_cases h0 : wI a0 0 5 = 0
  · simp only [h0, if_true]
  · by_cases h1 : wI a1 1 9 = 0
    · simp only [h0, h1, if_true, if_false]
    · by_cases h2 : wI a2 0 1 = 0
      · simp only [h0, h1, h2, if_true, if_false]
      · simp only [h0, h1, h2, if_false, show ¬ ((1 : Int32) = 0) by decide]
        by_cases h3 : wI a3 0 60 = 0
        · simp only [h3, if_true]
        · by_cases h4 : wI a4 0 99 = 0 <;> simp only [h3, h4, if_true, if_false]
theorem lkW_nat {a0 a1 a2 : Int32} (h : lkW a0 a1 a2 ≠ 0) : ∃ k s c, k ≤ 5 ∧ 1 ≤ s ∧ s ≤ 9 ∧ c ≤ 1 ∧ a0 = nI k ∧ a1 = nI s ∧ a2 = nI c := by
  unfold lkW at h
  have e : ∀ a lo hi, wI a lo hi ≠ 0 → wI a lo hi = 1 := fun a lo hi hh => (wI_01 a lo hi).resolve_left hh
  by_cases h0 : wI a0 0 5 = 0
  · rw [if_pos h0] at h; exact absurd rfl h
  · rw [if_neg h0] at h
    by_cases h1 : wI a1 1 9 = 0
    · rw [if_pos h1] at h; exact absurd rfl h
    · rw [if_neg h1] at h
      by_cases h2 : wI a2 0 1 = 0
      · rw [if_pos h2] at h; exact absurd rfl h
      · obtain ⟨k, -, k2, k3⟩ := wI_nat (lo := 0) (hi := 5) (e _ _ _ h0) (by omega) (by omega)
        obtain ⟨s, s1, s2, s3⟩ := wI_nat (lo := 1) (hi := 9) (e _ _ _ h1) (by omega) (by omega)
        obtain ⟨c, -, c2, c3⟩ := wI_nat (lo := 0) (hi := 1) (e _ _ _ h2) (by omega) (by omega)
        exact ⟨k, s, c, k2, s1, s2, c2, k3, s3, c3⟩
theorem pmW_nat {a3 a4 : Int32} (h : pmW a3 a4 ≠ 0) : ∃ b p, b ≤ 60 ∧ p ≤ 99 ∧ a3 = nI b ∧ a4 = nI p := by
  unfold pmW at h
  have e : ∀ a lo hi, wI a lo hi ≠ 0 → wI a lo hi = 1 := fun a lo hi hh => (wI_01 a lo hi).resolve_left hh
  by_cases h0 : wI a3 0 60 = 0
  · rw [if_pos h0] at h; exact absurd rfl h
  · rw [if_neg h0] at h
    by_cases h1 : wI a4 0 99 = 0
    · rw [if_pos h1] at h; exact absurd rfl h
    · obtain ⟨k, -, k2, k3⟩ := wI_nat (lo := 0) (hi := 60) (e _ _ _ h0) (by omega) (by omega)
      obtain ⟨s, -, s2, s3⟩ := wI_nat (lo := 0) (hi := 99) (e _ _ _ h1) (by omega) (by omega)
      exact ⟨k, s, k2, s2, k3, s3⟩
/-- cells of the reference, with a job thought of -/
def TOl (n o k : Nat) : Bool := TO o k || (o == 1 && decide (5 * n ≤ k))
theorem TOl_O {n o k : Nat} (h : TOl n o k = false) : TO o k = false := by simp only [TOl, Bool.or_eq_false_iff] at h; exact h.1
theorem TOl_p {n o k : Nat} (h : pM o k = true) (h1 : o ≠ 1) : TOl n o k = false := by
  unfold TOl; rw [TO_p h]; simp [h1]
theorem MBd.frl {n : Nat} {J : Nat → Nat → Nat} {L lost nig : Nat → Nat} {day col left : Nat} {till : Int32} {p : List Nat} {w w' : AW} (h : MBd n J L lost nig day col left till p w) (f : Fr (TOl n) w w') : MBd n J L lost nig day col left till p w' := by
  obtain ⟨h1, h2, h3, h4, h5⟩ := h
  refine ⟨fun j hj i hi => ?_, h2.fr f (fun k => rfl) (fun k => rfl) (fun k => rfl) rfl rfl rfl, fun i v hv => ?_, ?_, ?_⟩
  · rw [f.at' _ (by simp [TOl, TO, TW]; omega)]; exact h1 j hj i hi
  · rw [f.at' _ rfl]; exact h3 i v hv
  · rw [f.at' _ rfl]; exact h4
  · rw [f.at' _ rfl]; exact h5
