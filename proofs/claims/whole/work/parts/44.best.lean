/-! 44: best, fewest, soonest, gain, across, nights -/
def dg (ch : List Nat) : Nat → Int32
  | 0 => 0
  | i + 1 => dg ch i ||| (nI (lf ch i) <<< ((nI (3 * i)) &&& 31))
theorem digitsC_ev {ch : List Nat} {r n N : Nat} {w : AW} (h : rowL (w.1 r) ch) (hl : ch.length = n) (hn : n ≤ 6) (hN : 20 < N) : fX11_digitsOf N r (nI n) w = some (dg ch n) := by
  have key := wh_for (body := lbX11_digitsOf_4_1 N r (nI n) w) (fun i => (dg ch i, nI i)) (n := n) (e := dg ch n) ?_ ?_ (N := N) (i := 0) (Nat.zero_le _) (by omega)
  · have key' : wh (lbX11_digitsOf_4_1 N r (nI n) w) N (0, 0) = some (dg ch n) := key
    simp only [fX11_digitsOf, key', lw_eq, bd_some', bd2_some', gd_true]
  · intro i hi
    have := h.get (i := i) (by omega)
    have h3 : (3 : Int32) * nI i = nI (3 * i) := by rw [n3, nmul]
    simp only [lbX11_digitsOf_4_1]
    rw [if_neg (by rw [nle (by omega) (by omega)]; omega), if_neg (by rw [n6, nle (by omega) (by omega)]; omega), gd_n (by omega) (by omega), lw_eq, ntn (by omega), this, h3]
    rw [show nI i + 1 = nI (i + 1) by rw [n1, nadd]]
    rfl
  · simp only [lbX11_digitsOf_4_1, Int32.le_refl, if_true]
theorem digitsM_ev {ch : List Nat} {n N : Nat} {w : AW} (h : rowL (w.1 15) ch) (hl : ch.length = n) (hn : n ≤ 6) (hN : 20 < N) : fX12_digitsOf N (nI n) w = some (dg ch n) := by
  have key := wh_for (body := lbX12_digitsOf_4_1 N (nI n) w) (fun i => (dg ch i, nI i)) (n := n) (e := dg ch n) ?_ ?_ (N := N) (i := 0) (Nat.zero_le _) (by omega)
  · have key' : wh (lbX12_digitsOf_4_1 N (nI n) w) N (0, 0) = some (dg ch n) := key
    simp only [fX12_digitsOf, key', lw_eq, bd_some', bd2_some', gd_true]
  · intro i hi
    have := h.get (i := i) (by omega)
    have h3 : (3 : Int32) * nI i = nI (3 * i) := by rw [n3, nmul]
    simp only [lbX12_digitsOf_4_1]
    rw [if_neg (by rw [nle (by omega) (by omega)]; omega), gd_n (by omega) (by omega), lw_eq, ntn (by omega), this, h3]
    rw [show nI i + 1 = nI (i + 1) by rw [n1, nadd]]
    rfl
  · simp only [lbX12_digitsOf_4_1, Int32.le_refl, if_true]
theorem bestG_mem {f : List Nat → Int} : ∀ {L : List (List Nat)} {b : Int × List Nat}, (L.foldl (bestG f) b) = b ∧ (∀ p ∈ L, f p ≤ b.1) ∨ (L.foldl (bestG f) b).2 ∈ L := by
  intro L
  induction L with
  | nil => intro b; left; simp
  | cons p l ih =>
    intro b
    rw [List.foldl_cons]
    by_cases hc : b.1 < f p
    · right
      rw [show bestG f b p = (f p, p) from if_pos hc]
      rcases ih (b := (f p, p)) with ⟨h1, -⟩ | h
      · rw [h1]; exact List.mem_cons_self
      · exact List.mem_cons_of_mem _ h
    · rw [show bestG f b p = b from if_neg hc]
      rcases ih (b := b) with ⟨h1, h2⟩ | h
      · left
        refine ⟨h1, fun q hq => ?_⟩
        rcases List.mem_cons.mp hq with rfl | hq
        · omega
        · exact h2 q hq
      · right; exact List.mem_cons_of_mem _ h
theorem bestG_in {f : List Nat → Int} {n b : Nat} {b0 : Int} (hn : n ≤ 6) (hb : b ≤ 6) (h : ∀ p ∈ prm n b, b0 < f p) : ((prm n b).foldl (bestG f) (b0, [])).2 ∈ prm n b := by
  rcases bestG_mem (f := f) (L := prm n b) (b := (b0, [])) with ⟨-, h2⟩ | h2
  · obtain ⟨p, l, hp⟩ := prm_ne hn hb
    have := h p (by rw [hp]; exact List.mem_cons_self)
    have := h2 p (by rw [hp]; exact List.mem_cons_self)
    omega
  · exact h2
theorem W_low {dy : Nat → Nat} {st c0 l0 fine n b : Nat} {J : Nat → Nat → Nat} (bj : bJ n J) (bf : fine ≤ 99) (hn : n ≤ 6) : ∀ p ∈ prm n b, -1200 ≤ wN dy st c0 l0 fine J (J 1) (lf p) p.length ∧ wN dy st c0 l0 fine J (J 1) (lf p) p.length ≤ 600 := by
  intro p hp
  have hpl : p.length ≤ n := by rw [prm_len hp]; exact rmB_len n b
  have := wN_bd (dy := dy) (st := st) (c0 := c0) (l0 := l0) (fine := fine) (J := J) (R := J 1) (p := lf p) (all := n) (m := p.length) bj bf (fun i hi => prm_mem hp _ (getD_mem hi)) p.length (Nat.le_refl _)
  omega
def TB (o k : Nat) : Bool := (o == 46) || (o == 47) || (o == 48) || (o == 49) || (o == 50) || (o == 51) || (o == 52) || (o == 53) || (o == 54) || (o == 55) || (o == 56) || (o == 57) || (decide (61 ≤ o) && decide (o ≤ 66))
theorem TB_p {o k : Nat} (h : pC o k = true) : TB o k = false := by
  simp only [pC, Bool.or_eq_true, Bool.and_eq_true, beq_iff_eq, decide_eq_true_eq] at h
  simp [TB]; omega
theorem TB_M4 {o k : Nat} (h : TB o k = false) : TM4 o k = false := by
  simp only [TB, TM4, Bool.or_eq_false_iff] at h ⊢; exact ⟨by simp_all, by simp_all⟩
theorem TB_L {o k : Nat} (h : TB o k = false) : TL o k = false := by
  simp only [TB, TL, Bool.or_eq_false_iff] at h ⊢; simp_all
theorem TB_D {o k : Nat} (h : TB o k = false) : TD o k = false := by
  simp only [TB, TD, Bool.or_eq_false_iff] at h ⊢; simp_all
theorem TB_C {o k : Nat} (h : TB o k = false) : TC o k = false := by
  simp only [TB, TC, Bool.or_eq_false_iff] at h ⊢; simp_all
theorem TB_T {o k : Nat} (h : TB o k = false) : (decide (61 ≤ o) && decide (o ≤ 61 + 5)) = false := by
  simp only [TB, Bool.or_eq_false_iff] at h; exact h.2
/-- what is set aside, and the board as it stands -/
theorem CBd.tb {b n : Nat} {J : Nat → Nat → Nat} {L lost nig : Nat → Nat} {day col left : Nat} {till : Int32} {p : List Nat} {w w' : AW} {T : Nat → Nat → Bool} (h : CBd 1 n J L lost nig day col left till p w) (f : Fr T w w') (ht : ∀ o k, TB o k = false → T o k = false) : CBd 1 n J L lost nig day col left till p w' := h.fr f (fun i hi k => ht _ _ (TB_p (by simp [pC]; omega)))
theorem neg1_iff {n : Nat} (hn : n ≤ 6) : ∀ j, j < n → ((nI j = (-1 : Int32)) ↔ j = 6) := by
  intro j hj
  rw [zI_nI, show (-1 : Int32) = zI (-1) from rfl, zeq (by omega) (by omega) (by omega) (by omega)]; omega
theorem st_best {wC wM : AW} (h : Rel wC wM) (a0 : Int32) : ∃ r wC' wM', fX11_best N0 a0 wC = some (r, wC') ∧ fX12_best N0 a0 wM = some (r, wM') ∧ Rel wC' wM' := by
  obtain ⟨n, J, L, lost, nig, day, col, left, till, p, ok, hc, hm⟩ := h.1
  rcases wI_01 a0 0 1 with hr | hr
  · exact ⟨-2147483648, wC, wM, by simp only [fX11_best, within_ev, hr, bd_some', if_true], by simp only [fX12_best, isSide_ev, hr, bd_some', if_true], h⟩
  · have hN := N0_big
    obtain ⟨w1, m1, m2, m3, m4, m5⟩ := meas_ev (lg := 0) (N := N0) ok hc (by omega) (by omega)
    rw [sLg0] at m3 m5
    rw [show nI 0 = 0 from rfl] at m1
    obtain ⟨hn, bj, b, hp⟩ := ok
    obtain ⟨w2, mo, ch, g1, g2, g3, -, -, g4⟩ := mostWorth_ev (o := 2) (N := N0) (b := 6) (bI := -9) m5 bj hn (Or.inl rfl) (by omega) (Or.inl ⟨rfl, rfl⟩) m3 m4.1
    obtain ⟨w3, mo', ch', k1, k2, k3, k4⟩ := mostOfAll_ev (bb := 6) (bI := -1) (N := N0) hm.1 hm.2.1 b bj hn (by omega) (neg1_iff hn) (by omega)
    obtain ⟨rfl, rfl⟩ : mo = mo' ∧ ch = ch' := by have := g4.trans k4.symm; exact ⟨congrArg Prod.fst this, congrArg Prod.snd this⟩
    have hch : ch ∈ prm n 6 := by
      have := bestG_in (n := n) (b := 6) (b0 := -2147483648) (f := fun p => wN (dyS (sOf L lost nig) day) (L 1) col left (L 2) J (J 1) (lf p) p.length) hn (by omega) (fun p hp => by have := W_low (dy := dyS (sOf L lost nig) day) (st := L 1) (c0 := col) (l0 := left) (fine := L 2) bj b.2.2.2.1 hn p hp; show (-2147483648 : Int) < wN (dyS (sOf L lost nig) day) (L 1) col left (L 2) J (J 1) (lf p) p.length; omega)
      rw [← g4] at this; exact this
    have hcl := (prm_range hn hch).2
    have c2 : CBd 1 n J L lost nig day col left till p w2 := m4.tb (b := 1) g2 (fun o k q => TB_L q)
    have cnt : w2.1 2 0 = nI n := c2.1.1
    have M2 : MBd n J L lost nig day col left till p w3 := hm.fr k2 (fun o k q => TO_p (by
      simp only [mB, Bool.or_eq_true, Bool.and_eq_true, beq_iff_eq] at q
      simp only [pM, Bool.or_eq_true, Bool.and_eq_true, beq_iff_eq, decide_eq_true_eq]; omega))
    have d1 := digitsC_ev (N := N0) g3 hcl hn (by omega)
    have d2 := digitsM_ev (N := N0) k3 hcl hn (by omega)
    refine ⟨if a0 = 0 then zI mo else dg ch n, w2, w3, ?_, ?_, h.scr ((m2.wd (fun o k q => TB_M4 q)).tr (g2.wd (fun o k q => TB_L q))) k2 (fun o k q => TB_p q) (fun o k q => TO_p q)⟩
    · simp only [fX11_best, within_ev, hr, bd_some', m1, g1, bd2_some', cnt, d1]
      rw [if_neg (by decide)]
      split <;> rfl
    · simp only [fX12_best, isSide_ev, hr, bd_some', hm.2.2.2.1, k1, bd2_some', M2.2.2.2.1, d2]
      rw [if_neg (by decide)]
      split <;> rfl
theorem fewC_ev {n : Nat} {J : Nat → Nat → Nat} {L lost nig : Nat → Nat} {day col left lg N : Nat} {till : Int32} {p : List Nat} {w : AW} (ok : okB n J L lost nig day col left p) (hc : CBd 1 n J L lost nig day col left till p w) (hlg : lg ≤ 9) (hN : 800 < N) :
    ∃ w1 w2 le ch, fX3_measure N 1 (nI lg) w = some w1 ∧ fX5_fewestLate N 2 w1 = some (nI le, w2) ∧ Fr TB w w2 ∧ CBd 1 n J L lost nig day col left till p w2 ∧ le ≤ 10000000 ∧ (le, ch) = (prm n 6).foldl (minG (fun p => ltN (dyS (sLg (sOf L lost nig) day lg) day) (L 1) col left J (J 1) (lf p) p.length) []) (1000000, []) := by
  obtain ⟨w1, m1, m2, m3, m4, m5⟩ := meas_ev (lg := lg) (N := N) ok hc hlg (by omega)
  obtain ⟨hn, bj, b, hp⟩ := ok
  obtain ⟨w2, le, ch, g1, g2, g3, g4, g5⟩ := leastLost_ev (aim := 1) (o := 2) (N := N) (b := 6) (bI := -9) m5 bj hn (Or.inl rfl) (by omega) (by omega) (Or.inl ⟨rfl, rfl⟩) m3 m4.1
  rw [show nI 1 = 1 from rfl] at g1
  refine ⟨w1, w2, le, ch, m1, by simp only [fX5_fewestLate, g1, lw_eq, bd_some', bd2_some', gd_true], (m2.wd (fun o k q => TB_M4 q)).tr (g2.wd (fun o k q => TB_L q)), m4.tb (b := 1) g2 (fun o k q => TB_L q), g4, ?_⟩
  rw [g5]
  congr 2
  funext p
  exact cost1
theorem st_fewest {wC wM : AW} (h : Rel wC wM) : ∃ r wC' wM', fX11_fewest N0 wC = some (r, wC') ∧ fX12_fewest N0 wM = some (r, wM') ∧ Rel wC' wM' := by
  obtain ⟨n, J, L, lost, nig, day, col, left, till, p, ok, hc, hm⟩ := h.1
  have hN := N0_big
  obtain ⟨w1, w2, le, ch, m1, g1, g2, -, -, g4⟩ := fewC_ev (lg := 0) (N := N0) ok hc (by omega) (by omega)
  obtain ⟨hn, bj, b, hp⟩ := ok
  rw [sLg0] at g4
  rw [show nI 0 = 0 from rfl] at m1
  obtain ⟨w3, e1, e2, e3⟩ := firstOrder_ev (N := N0) (w := wM) (b := 6) (bI := -1) hn (neg1_iff hn) (by omega)
  have M3 : MBd n J L lost nig day col left till p w3 := hm.fr e2 (fun o k q => by
      simp only [mB, Bool.or_eq_true, Bool.and_eq_true, beq_iff_eq] at q
      simp; omega)
  obtain ⟨w4, mo, k1, k2, k3⟩ := refFewest_ev (N := N0) M3.1 M3.2.1 b bj hn (by omega) e3
  obtain ⟨p0, l0, hne⟩ := prm_ne (n := n) (b := 6) hn (by omega)
  have he := fewest_eq (c := fun p => ltN (dyS (sOf L lost nig) day) (L 1) col left J (J 1) (lf p) p.length) (L := prm n 6) (by rw [hne]; simp) (fun p hp => by
    have h1 := lN_bd (dy := dyS (sOf L lost nig) day) (st := L 1) (c0 := col) (l0 := left) (J := J) (R := J 1) (p := lf p) p.length
    have h2 := (prm_range hn hp).2
    show ltN (dyS (sOf L lost nig) day) (L 1) col left J (J 1) (lf p) p.length ≤ 6
    omega)
  rw [← g4, ← k3] at he
  simp only at he
  subst he
  refine ⟨nI le, w2, w4, ?_, ?_, h.scr g2 ((e2.wd (fun o k q => ?_)).tr k2) (fun o k q => TB_p q) (fun o k q => TO_p q)⟩
  · simp only [fX11_fewest, m1, g1, lw_eq, bd_some', bd2_some', gd_true]
  · simp only [fX12_fewest, hm.2.2.2.1, e1, k1, lw_eq, bd_some', bd2_some', gd_true]
  · simp only [TO, Bool.or_eq_false_iff] at q; exact q.1.2
/-- job numbers told -/
def lkW (a0 a1 a2 : Int32) : Int32 := if wI a0 0 5 = 0 then 0 else if wI a1 1 9 = 0 then 0 else if wI a2 0 1 = 0 then 0 else 1
def pmW (a3 a4 : Int32) : Int32 := if wI a3 0 60 = 0 then 0 else if wI a4 0 99 = 0 then 0 else 1
theorem isJobC_ev (a0 a1 a2 a3 a4 : Int32) (w : AW) : fX11_isJob a0 a1 a2 a3 a4 w = some (if lkW a0 a1 a2 = 0 then 0 else pmW a3 a4) := by
  simp only [fX11_isJob, within_ev, bd_some', lkW, pmW]
  by_cases h0 : wI a0 0 5 = 0
  · simp only [h0, if_true]
  · by_cases h1 : wI a1 1 9 = 0
    · simp only [h0, h1, if_true, if_false]
    · by_cases h2 : wI a2 0 1 = 0
      · simp only [h0, h1, h2, if_true, if_false]
      · simp only [h0, h1, h2, if_false, show ¬ ((1 : Int32) = 0) by decide]
        by_cases h3 : wI a3 0 60 = 0
        · simp only [h3, if_true]
        · by_cases h4 : wI a4 0 99 = 0 <;> simp only [h3, h4, if_true, if_false]
theorem isLike_ev (a0 a1 a2 : Int32) (w : AW) : fX12_isLike a0 a1 a2 w = some (lkW a0 a1 a2) := by
  simp only [fX12_isLike, in_ev, isSide_ev, bd_some', lkW]
  by_cases h0 : wI a0 0 5 = 0
  · simp only [h0, if_true]
  · by_cases h1 : wI a1 1 9 = 0
    · simp only [h0, h1, if_true, if_false]
    · by_cases h2 : wI a2 0 1 = 0 <;> simp only [h0, h1, h2, if_true, if_false]
theorem isPromised_ev (a3 a4 : Int32) (w : AW) : fX12_isPromised a3 a4 w = some (pmW a3 a4) := by
  simp only [fX12_isPromised, in_ev, bd_some', pmW]
  by_cases h0 : wI a3 0 60 = 0
  · simp only [h0, if_true]
  · by_cases h1 : wI a4 0 99 = 0 <;> simp only [h0, h1, if_true, if_false]
theorem lkW_nat {a0 a1 a2 : Int32} (h : lkW a0 a1 a2 ≠ 0) : ∃ k s c, k ≤ 5 ∧ 1 ≤ s ∧ s ≤ 9 ∧ c ≤ 1 ∧ a0 = nI k ∧ a1 = nI s ∧ a2 = nI c := by
  unfold lkW at h
  have e : ∀ a lo hi, wI a lo hi ≠ 0 → wI a lo hi = 1 := fun a lo hi hh => (wI_01 a lo hi).resolve_left hh
  by_cases h0 : wI a0 0 5 = 0
  · rw [if_pos h0] at h; exact absurd rfl h
  · rw [if_neg h0] at h
    by_cases h1 : wI a1 1 9 = 0
    · rw [if_pos h1] at h; exact absurd rfl h
    · rw [if_neg h1] at h
      by_cases h2 : wI a2 0 1 = 0
      · rw [if_pos h2] at h; exact absurd rfl h
      · obtain ⟨k, -, k2, k3⟩ := wI_nat (lo := 0) (hi := 5) (e _ _ _ h0) (by omega) (by omega)
        obtain ⟨s, s1, s2, s3⟩ := wI_nat (lo := 1) (hi := 9) (e _ _ _ h1) (by omega) (by omega)
        obtain ⟨c, -, c2, c3⟩ := wI_nat (lo := 0) (hi := 1) (e _ _ _ h2) (by omega) (by omega)
        exact ⟨k, s, c, k2, s1, s2, c2, k3, s3, c3⟩
theorem pmW_nat {a3 a4 : Int32} (h : pmW a3 a4 ≠ 0) : ∃ b p, b ≤ 60 ∧ p ≤ 99 ∧ a3 = nI b ∧ a4 = nI p := by
  unfold pmW at h
  have e : ∀ a lo hi, wI a lo hi ≠ 0 → wI a lo hi = 1 := fun a lo hi hh => (wI_01 a lo hi).resolve_left hh
  by_cases h0 : wI a3 0 60 = 0
  · rw [if_pos h0] at h; exact absurd rfl h
  · rw [if_neg h0] at h
    by_cases h1 : wI a4 0 99 = 0
    · rw [if_pos h1] at h; exact absurd rfl h
    · obtain ⟨k, -, k2, k3⟩ := wI_nat (lo := 0) (hi := 60) (e _ _ _ h0) (by omega) (by omega)
      obtain ⟨s, -, s2, s3⟩ := wI_nat (lo := 0) (hi := 99) (e _ _ _ h1) (by omega) (by omega)
      exact ⟨k, s, k2, s2, k3, s3⟩
theorem Rel.scr2 {wC wM wC' wM' : AW} {T T' : Nat → Nat → Bool} (h : Rel wC wM) (f : Fr T wC wC') (f' : Fr T' wM wM') (hC : ∀ o k, pC o k = true → T o k = false) (hM : ∀ o k, pM o k = true → o ≠ 1 → T' o k = false) (hb : RBd wC' wM') : Rel wC' wM' := by
  obtain ⟨h1, h2, h3, h4, h5, h6, h7, h8⟩ := h
  have r : ∀ o k, 1 ≤ o → o ≤ 36 → T o k = false := fun o k a b => hC o k (by simp [pC, a, b])
  have rm : ∀ o k, 2 ≤ o → o ≤ 9 → T' o k = false := fun o k a b => hM o k (by simp [pM]; omega) (by omega)
  have rm2 : ∀ o k, 18 ≤ o → o ≤ 26 → T' o k = false := fun o k a b => hM o k (by simp [pM, a, b]) (by omega)
  exact ⟨hb, h2.fr f f' (fun o k a b => r o k (by omega) (by omega)) (fun k => rm 8 k (by omega) (by omega)) (hM 0 12 rfl (by omega)) (hM 0 14 rfl (by omega)), h3.fr f f' (hC 0 4 rfl) (fun o k a b => r o k (by omega) (by omega)) (fun o k a b => r o k (by omega) (by omega)) (hM 0 50 rfl (by omega)) (fun k => rm2 26 k (by omega) (by omega)),
    h4.fr f f' (hC 37 1 rfl) (fun k => hC 38 k rfl) (hM 0 16 rfl (by omega)) (fun k => rm 9 k (by omega) (by omega)), h5.fr f f' (hC 59 2 rfl) (fun k => hC 60 k rfl) (hM 0 37 rfl (by omega)) (fun k => rm2 18 k (by omega) (by omega)), h6.fr f f' (fun o k a b => hC o k (by simp [pC, a, b])) (fun o k a b => rm2 o k (by omega) (by omega)), h7.fr f f' (hC 74 5 rfl) (fun k => hC 75 k rfl) (hM 0 48 rfl (by omega)) (fun k => rm2 25 k (by omega) (by omega)), h8.fr f' (fun k => rm 3 k (by omega) (by omega)) (fun k => rm 4 k (by omega) (by omega))⟩
/-- cells of the reference, with a job thought of -/
def TOl (n o k : Nat) : Bool := TO o k || (o == 1 && decide (5 * n ≤ k))
theorem TOl_O {n o k : Nat} (h : TOl n o k = false) : TO o k = false := by simp only [TOl, Bool.or_eq_false_iff] at h; exact h.1
theorem TOl_p {n o k : Nat} (h : pM o k = true) (h1 : o ≠ 1) : TOl n o k = false := by
  unfold TOl; rw [TO_p h]; simp [h1]
theorem MBd.frl {n : Nat} {J : Nat → Nat → Nat} {L lost nig : Nat → Nat} {day col left : Nat} {till : Int32} {p : List Nat} {w w' : AW} (h : MBd n J L lost nig day col left till p w) (f : Fr (TOl n) w w') : MBd n J L lost nig day col left till p w' := by
  obtain ⟨h1, h2, h3, h4, h5⟩ := h
  refine ⟨fun j hj i hi => ?_, h2.fr f (fun k => rfl) (fun k => rfl) (fun k => rfl) rfl rfl rfl, fun i v hv => ?_, ?_, ?_⟩
  · rw [f.at' _ (by simp [TOl, TO, TW]; omega)]; exact h1 j hj i hi
  · rw [f.at' _ rfl]; exact h3 i v hv
  · rw [f.at' _ rfl]; exact h4
  · rw [f.at' _ rfl]; exact h5
theorem st_gain {wC wM : AW} (h : Rel wC wM) (a0 a1 a2 a3 a4 : Int32) : ∃ r wC' wM', fX11_gain N0 a0 a1 a2 a3 a4 wC = some (r, wC') ∧ fX12_gain N0 a0 a1 a2 a3 a4 wM = some (r, wM') ∧ Rel wC' wM' := by
  obtain ⟨n, J, L, lost, nig, day, col, left, till, p, ok, hc, hm⟩ := h.1
  have hN := N0_big
  have hcn : wC.1 2 0 = nI n := hc.1.1
  by_cases h1 : lkW a0 a1 a2 = 0
  · exact ⟨-2147483648, wC, wM, by simp only [fX11_gain, isJobC_ev, h1, bd_some', if_true], by simp only [fX12_gain, isLike_ev, h1, bd_some', if_true], h⟩
  · by_cases h2 : pmW a3 a4 = 0
    · exact ⟨-2147483648, wC, wM, by simp only [fX11_gain, isJobC_ev, h1, h2, bd_some', if_true, if_false], by simp only [fX12_gain, isLike_ev, isPromised_ev, h1, h2, bd_some', if_true, if_false], h⟩
    · by_cases h6 : n = 6
      · exact ⟨-2147483648, wC, wM, by
          simp only [fX11_gain, isJobC_ev, h1, h2, bd_some', if_false, hcn]
          rw [if_neg (by rw [n6, nlt (by omega) (by omega)]; omega)], by
          simp only [fX12_gain, isLike_ev, isPromised_ev, h1, h2, bd_some', if_false, hm.2.2.2.1]
          rw [if_pos (by rw [h6]; rfl)], h⟩
      · obtain ⟨k, s, c, hk, hs1, hs, hcc, rfl, rfl, rfl⟩ := lkW_nat h1
        obtain ⟨by', pr, hby, hpr, rfl, rfl⟩ := pmW_nat h2
        obtain ⟨w1, m1, m2, m3, m4, m5⟩ := meas_ev (lg := 0) (N := N0) ok hc (by omega) (by omega)
        have ok' := ok
        rw [sLg0] at m3 m5
        rw [show nI 0 = 0 from rfl] at m1
        obtain ⟨hn, bj, b, hp⟩ := ok
        obtain ⟨w2, mo, ch, g1, g2, -, -, -, g4⟩ := mostWorth_ev (o := 2) (N := N0) (b := 6) (bI := -9) m5 bj hn (Or.inl rfl) (by omega) (Or.inl ⟨rfl, rfl⟩) m3 m4.1
        have c2 : CBd 1 n J L lost nig day col left till p w2 := m4.tb (b := 1) g2 (fun o k q => TB_L q)
        obtain ⟨w3, p1, p2, p3⟩ := copy_ev (o := 61) (o0 := 2) (N := N0) c2.1 (by omega) hn (by omega)
        obtain ⟨w4, q1, q2, q3⟩ := add_ev (k := k) (s := s) (c := c) (b := by') (p := pr) p3 (by omega) hk hs
        have bj' := bJ_up (k := k) (s := s) (c := c) (b := by') (p := pr) bj hk hs1 hs hcc (by omega) hpr
        have m3' : CCo (dyS (sOf L lost nig) day) (L 1) col left (L 2) (L 3) w4 := ((m3.fr g2 (fun k => rfl) (fun k => rfl)).fr p2 (fun k => rfl) (fun k => rfl)).fr q2 (fun k => rfl) (fun k => rfl)
        obtain ⟨w5, mo2, ch2, r1, r2, -, -, -, r4⟩ := mostWorth_ev (o := 61) (N := N0) (b := 6) (bI := -9) m5 bj' (by omega) (Or.inr rfl) (by omega) (Or.inl ⟨rfl, rfl⟩) m3' q3
        obtain ⟨v1, mo', ch', k1, k2, -, k4⟩ := mostOfAll_ev (bb := 6) (bI := -1) (N := N0) hm.1 hm.2.1 b bj hn (by omega) (neg1_iff hn) (by omega)
        have M1 : MBd n J L lost nig day col left till p v1 := hm.frl (k2.wd (fun o k q => TOl_O q))
        obtain ⟨v2, l1, l2, l3⟩ := lay_ev (k := k) (s := s) (c := c) (b := by') (p := pr) M1.1 (by omega) hk hs
        have l2' : Fr (TOl n) v1 v2 := l2.wd (fun o k q => by
          simp only [TOl, Bool.or_eq_false_iff, Bool.and_eq_false_iff, decide_eq_false_iff_not] at q ⊢
          rcases q.2 with h | h
          · exact Or.inl h
          · exact Or.inr (Or.inl h))
        have M2 : MBd n J L lost nig day col left till p v2 := M1.frl l2'
        obtain ⟨v3, mo2', ch2', s1, s2, -, s4⟩ := mostOfAll_ev (bb := 6) (bI := -1) (N := N0) l3 M2.2.1 b bj' (by omega) (by omega) (neg1_iff (by omega)) (by omega)
        have M3 : MBd n J L lost nig day col left till p v3 := M2.frl (s2.wd (fun o k q => TOl_O q))
        have e1 : mo = mo' := congrArg Prod.fst (g4.trans k4.symm)
        have e2 : mo2 = mo2' := congrArg Prod.fst (r4.trans s4.symm)
        subst e1; subst e2
        have hFC : Fr TB wC w5 := (m2.wd (fun o k q => TB_M4 q)).tr ((g2.wd (fun o k q => TB_L q)).tr ((p2.wd (fun o k q => TB_T q)).tr ((q2.wd (fun o k q => TB_T q)).tr (r2.wd (fun o k q => TB_L q)))))
        have hFM : Fr (TOl n) wM v3 := (k2.wd (fun o k q => TOl_O q)).tr (l2'.tr (s2.wd (fun o k q => TOl_O q)))
        refine ⟨zI mo2 - zI mo, w5, v3, ?_, ?_, h.scr2 hFC hFM (fun o k q => TB_p q) (fun o k q q1 => TOl_p q q1) ⟨n, J, L, lost, nig, day, col, left, till, p, ok', hc.tb (b := 1) hFC (fun o k q => q), M3⟩⟩
        · simp only [fX11_gain, isJobC_ev, h1, h2, bd_some', if_false, hcn, m1, g1, bd2_some', p1, q1, r1]
          rw [if_pos (by rw [n6, nlt (by omega) (by omega)]; omega)]
        · have hcn2 : nI n + 1 = nI (n + 1) := by rw [n1, nadd]
          simp only [fX12_gain, isLike_ev, isPromised_ev, h1, h2, bd_some', if_false, hm.2.2.2.1, k1, bd2_some', M1.2.2.2.1, l1, M2.2.2.2.1, hcn2, s1]
          rw [if_neg (by rw [n6, neq (by omega) (by omega)]; exact h6)]
theorem st_soonest {wC wM : AW} (h : Rel wC wM) (a0 a1 a2 : Int32) : ∃ r wC' wM', fX11_soonest N0 a0 a1 a2 wC = some (r, wC') ∧ fX12_soonest N0 a0 a1 a2 wM = some (r, wM') ∧ Rel wC' wM' := by
  obtain ⟨n, J, L, lost, nig, day, col, left, till, p, ok, hc, hm⟩ := h.1
  have hN := N0_big
  have hcn : wC.1 2 0 = nI n := hc.1.1
  have h2 : ¬ pmW 0 0 = 0 := by decide
  by_cases h1 : lkW a0 a1 a2 = 0
  · exact ⟨-1, wC, wM, by simp only [fX11_soonest, isJobC_ev, h1, bd_some', if_true], by simp only [fX12_soonest, isLike_ev, h1, bd_some', if_true], h⟩
  · by_cases h6 : n = 6
    · exact ⟨-2, wC, wM, by
        simp only [fX11_soonest, isJobC_ev, h1, h2, bd_some', if_false, hcn]
        rw [if_neg (by rw [n6, nlt (by omega) (by omega)]; omega)], by
        simp only [fX12_soonest, isLike_ev, h1, bd_some', if_false, hm.2.2.2.1]
        rw [if_pos (by rw [h6]; rfl)], h⟩
    · obtain ⟨k, s, c, hk, hs1, hs, hcc, rfl, rfl, rfl⟩ := lkW_nat h1
      obtain ⟨w1, m1, m2, m3, m4, m5⟩ := meas_ev (lg := 0) (N := N0) ok hc (by omega) (by omega)
      have ok' := ok
      rw [sLg0] at m3 m5
      rw [show nI 0 = 0 from rfl] at m1
      obtain ⟨hn, bj, b, hp⟩ := ok
      obtain ⟨w3, p1, p2, p3⟩ := copy_ev (o := 61) (o0 := 2) (N := N0) m4.1 (by omega) hn (by omega)
      obtain ⟨w4, q1, q2, q3⟩ := add_ev (k := k) (s := s) (c := c) (b := 60) (p := 0) p3 (by omega) hk hs
      have bj' := bJ_up (k := k) (s := s) (c := c) (b := 60) (p := 0) bj hk hs1 hs hcc (by omega) (by omega)
      have m3' : CCo (dyS (sOf L lost nig) day) (L 1) col left (L 2) (L 3) w4 := (m3.fr p2 (fun k => rfl) (fun k => rfl)).fr q2 (fun k => rfl) (fun k => rfl)
      obtain ⟨w5, le, ch2, r1, r2, -, r3, r4⟩ := leastLost_ev (aim := 2) (o := 61) (N := N0) (b := 6) (bI := -9) m5 bj' (by omega) (Or.inr rfl) (by omega) (by omega) (Or.inl ⟨rfl, rfl⟩) m3' q3
      obtain ⟨v2, l1, l2, l3⟩ := lay_ev (k := k) (s := s) (c := c) (b := 60) (p := 0) hm.1 (by omega) hk hs
      have l2' : Fr (TOl n) wM v2 := l2.wd (fun o k q => by
        simp only [TOl, Bool.or_eq_false_iff, Bool.and_eq_false_iff, decide_eq_false_iff_not] at q ⊢
        rcases q.2 with h | h
        · exact Or.inl h
        · exact Or.inr (Or.inl h))
      have M2 : MBd n J L lost nig day col left till p v2 := hm.frl l2'
      obtain ⟨v3, e1, e2, e3⟩ := firstOrder_ev (n := n + 1) (N := N0) (w := v2) (b := 6) (bI := -1) (by omega) (neg1_iff (by omega)) (by omega)
      have e2' : Fr TO v2 v3 := e2.wd (fun o k q => by simp only [TO, Bool.or_eq_false_iff] at q; exact q.1.2)
      have M3 : MBd n J L lost nig day col left till p v3 := M2.frl (e2'.wd (fun o k q => TOl_O q))
      obtain ⟨v4, mo, t1, t2, t3⟩ := refSoonest_ev (n := n) (N := N0) (l3.fr e2 (fun k => rfl)) M3.2.1 b bj' (by omega) M3.2.2.2.1 (by omega) e3
      have M4 : MBd n J L lost nig day col left till p v4 := M3.frl (t2.wd (fun o k q => TOl_O q))
      have hse := soonest_eq (L := prm (n + 1) 6) (c := cL (dyS (sOf L lost nig) day) (L 1) col left (upJ J n (jR k s c 60 0)) (upJ J n (jR k s c 60 0) 1) (lsA (L 2) (upJ J n (jR k s c 60 0)) (n + 1) 2) 0 0)
        (l := fun p => ltN (dyS (sOf L lost nig) day) (L 1) col left (upJ J n (jR k s c 60 0)) (upJ J n (jR k s c 60 0) 1) (lf p) p.length) (e := eJ (dyS (sOf L lost nig) day) (L 1) col left (upJ J n (jR k s c 60 0)) n)
        (fun p hp => cost2 hp (by omega) (by simp [upJ, jR])) (fun p hp => by
          have hpm : n ∈ p := by rw [(prm_perm hp).mem_iff (a := n), rmB_mem]; omega
          have := dy_le (L := L) (lost := lost) (nig := nig) (day := day) (col := col) (left := left) (J := upJ J n (jR k s c 60 0)) (p := p) (i := p.idxOf n) (n := n + 1) b bj' (by omega) (by have := prm_range (show n + 1 ≤ 6 by omega) hp; omega) (prm_mem hp) (lf_idxOf hpm).1
          unfold eJ; omega)
      rw [← r4, ← t3] at hse
      simp only at hse
      have hFC : Fr TB wC w5 := (m2.wd (fun o k q => TB_M4 q)).tr ((p2.wd (fun o k q => TB_T q)).tr ((q2.wd (fun o k q => TB_T q)).tr (r2.wd (fun o k q => TB_L q))))
      have hFM : Fr (TOl n) wM v4 := l2'.tr ((e2'.wd (fun o k q => TOl_O q)).tr (t2.wd (fun o k q => TOl_O q)))
      rw [show nI 2 = 2 from rfl] at r1
      refine ⟨if 60 < nI le then -3 else nI le, w5, v4, ?_, ?_, h.scr2 hFC hFM (fun o k q => TB_p q) (fun o k q q1 => TOl_p q q1) ⟨n, J, L, lost, nig, day, col, left, till, p, ok', hc.tb (b := 1) hFC (fun o k q => q), M4⟩⟩
      · rw [show nI 60 = 60 from rfl, show nI 0 = 0 from rfl] at q1
        simp only [fX11_soonest, isJobC_ev, h1, h2, bd_some', if_false, hcn, m1, p1, q1, fX5_soonestEnd, r1, bd2_some']
        rw [if_pos (by rw [n6, nlt (by omega) (by omega)]; omega)]
        split <;> rfl
      · have hcn2 : nI n + 1 = nI (n + 1) := by rw [n1, nadd]
        rw [show nI 60 = 60 from rfl, show nI 0 = 0 from rfl] at l1
        simp only [fX12_soonest, isLike_ev, h1, bd_some', if_false, hm.2.2.2.1, l1, M2.2.2.2.1, hcn2, e1, bd2_some', t1]
        rw [if_neg (by rw [n6, neq (by omega) (by omega)]; exact h6)]
        congr 2
        rw [hse, n60]
        by_cases hle : le ≤ 60
        · rw [if_pos hle, if_neg (by rw [nlt (by omega) (by omega)]; omega), zI_nI]
        · rw [if_neg hle, if_pos (by rw [nlt (by omega) (by omega)]; omega)]; rfl
