/-! 62: the reference goes on to the next piece -/
section
variable {c : Nat} {Y : Nat → Nat} {w : AW} {N : Nat}
def TMa (o k : Nat) : Bool := o == 0 && (k == 17 || k == 18 || k == 19 || k == 21)
theorem bAt_neg {p : Nat} (hY : ∀ i, Y i < 256) : (0 ≤ bAt Y c p) = (p < c) := by
  unfold bAt
  have := hY p
  by_cases h : c ≤ p
  · rw [if_pos h]; apply propext; constructor
    · intro q; exact absurd q (by decide)
    · intro q; omega
  · rw [if_neg h, n0, nle (by omega) (by omega)]; apply propext; omega
theorem adv_end (h : TpM c Y w) (hY : ∀ i, Y i < 256) (hc : c ≤ 200) {e0 s p e : Nat} (ht : TkP Y c e0 s p e) (hN : 300 < N) (h17 : w.1 0 17 = nI s) (h18 : w.1 0 18 = nI p) (h19 : w.1 0 19 = nI p) (h20 : w.2 0 20 = 0) {q : Int32} (hq : q = if s = 2 then 0 else bAt Y c p) :
    ∃ w', bX12_advance_105 N q w = some w' ∧ Fm TMa w w' ∧ MTk Y c s p e w' := by
  obtain ⟨t1, t2, t3, t4, t5, t6, t7, t8, t9, t10⟩ := ht
  have sle : s ≤ 3 := by rw [t5]; exact srt_le
  obtain ⟨M, rfl⟩ : ∃ M, N = M + 1 := ⟨N - 1, by omega⟩
  have F1 : Fm TMa w (setI w 0 21 q) := Fm.set (by simp [TMa])
  generalize hw1 : setI w 0 21 q = w1 at F1
  have k17 : w1.1 0 17 = nI s := by rw [← hw1]; simp [setI1, h17]
  have k18 : w1.1 0 18 = nI p := by rw [← hw1]; simp [setI1, h18]
  have k19 : w1.1 0 19 = nI p := by rw [← hw1]; simp [setI1, h19]
  have k20 : w1.2 0 20 = 0 := by rw [← hw1]; simp [setI2, h20]
  have k21 : w1.1 0 21 = q := by rw [← hw1]; simp [setI1]
  have hh := h.fm F1 rfl (fun k => rfl)
  by_cases h3 : s = 3
  · have he := t9 h3
    have F2 : Fm TMa w1 (setI w1 0 19 (nI (p + 1))) := Fm.set (by simp [TMa])
    generalize hw2 : setI w1 0 19 (nI (p + 1)) = w2 at F2
    have g17 : w2.1 0 17 = nI 3 := by rw [← hw2]; simp [setI1, k17, h3]
    have o1 : wh (lbX12_advance_126_2 (M + 1)) (M + 1) w2 = some w2 := wh_out (by simp only [lbX12_advance_126_2, g17, show ¬ nI 3 = 1 by decide, if_false])
    have o2 : wh (lbX12_advance_207_3 (M + 1)) (M + 1) w2 = some w2 := wh_out (by simp only [lbX12_advance_207_3, g17, show ¬ nI 3 = 2 by decide, if_false])
    refine ⟨w2, ?_, F1.tr F2, by rw [h3]; exact g17, ?_, ?_, ?_, ?_⟩
    · simp only [bX12_advance_105, lw_eq, hw1, k17, h3, show nI 3 = 3 from rfl, if_true, k19, show nI p + 1 = nI (p + 1) by rw [n1, nadd], hw2, o1, bd_some', o2]
    · rw [← hw2]; simp [setI1, k18]
    · rw [← hw2, he]; simp [setI1]
    · rw [← hw2, if_neg (by omega)]; simp [setI2, k20]
    · rw [← hw2, if_neg (by omega)]; simp [setI1, k21, hq, h3]
  · have hn3 : ¬ nI s = 3 := by rw [n3, neq (by omega) (by omega)]; exact h3
    by_cases h1 : s = 1
    · subst h1
      obtain ⟨u1, u2, u3⟩ := t10 (Or.inl rfl)
      have key := wh_cnt (body := lbX12_advance_126_4 (M + 1)) (n := e)
        (I := fun i s' => p ≤ i ∧ Fm TMa w s' ∧ s'.1 0 17 = nI 1 ∧ s'.1 0 18 = nI p ∧ s'.1 0 19 = nI i ∧ s'.2 0 20 = wdF Y p (i - p) ∧ s'.1 0 21 = bAt Y c p) (Q := fun s' => Fm TMa w s' ∧ MTk Y c 1 p e s')
        ?_ ?_ (N := M + 1) (i := p) (s := w1) ⟨Nat.le_refl _, F1, k17, k18, k19, by rw [k20, Nat.sub_self]; rfl, by rw [k21, hq]; rfl⟩ (by omega) (by omega)
      · obtain ⟨w2, a1, a2, a3⟩ := key
        have o2 : wh (lbX12_advance_207_5 (M + 1)) (M + 1) w2 = some w2 := wh_out (by simp only [lbX12_advance_207_5, a3.1, show ¬ nI 1 = 2 by decide, if_false])
        refine ⟨w2, ?_, a2, a3⟩
        simp only [bX12_advance_105, lw_eq, hw1, k17, hn3, if_false, a1, bd_some', o2]
      · rintro i s' hi ⟨g1, g2, g3, g4, g5, g6, g7⟩
        have hb := byteAt_ev (h.fm g2 rfl (fun k => rfl)) hc (p := i) (by omega)
        have hl := isLetter_ev (c := c) hY i s'
        rw [u2 i g1 hi, if_pos rfl] at hl
        have hv : bAt Y c i = nI (Y i) := by unfold bAt; rw [if_neg (by omega)]
        have hw : wdF Y p (i + 1 - p) = if 8 ≤ i - p then -1 else 27 * wdF Y p (i - p) + (nI (Y i)).toInt64 - 96 := by
          rw [show i + 1 - p = (i - p) + 1 by omega]
          simp only [wdF, show p + (i - p) = i by omega]
        by_cases h8 : 8 ≤ i - p
        · rw [if_pos h8] at hw
          have FF : Fm TMa s' (setI (setL s' 0 20 (-1)) 0 19 (nI (i + 1))) := Fm.word.tr (Fm.set (by simp [TMa]))
          refine ⟨setI (setL s' 0 20 (-1)) 0 19 (nI (i + 1)), ?_, by omega, g2.tr FF, by simp [setI1, setL1, g3], by simp [setI1, setL1, g4], by simp [setI1], by simp [setI2, setL2, hw], by simp [setI1, setL1, g7]⟩
          simp (disch := omega) only [lbX12_advance_126_4, g3, n1, if_true, g5, hb, bd_some', hl, show ¬ (nI 1 = 0) by decide, if_false, g4, nsub g1, n8, nle, h8, lw_eq, setL1, nadd]
        · rw [if_neg h8] at hw
          rw [hv] at hb hl
          have FF : Fm TMa s' (setI (setL s' 0 20 (27 * wdF Y p (i - p) + (nI (Y i)).toInt64 - 96)) 0 19 (nI (i + 1))) := Fm.word.tr (Fm.set (by simp [TMa]))
          refine ⟨setI (setL s' 0 20 (27 * wdF Y p (i - p) + (nI (Y i)).toInt64 - 96)) 0 19 (nI (i + 1)), ?_, by omega, g2.tr FF, by simp [setI1, setL1, g3], by simp [setI1, setL1, g4], by simp [setI1], by simp [setI2, setL2, hw], by simp [setI1, setL1, g7]⟩
          simp (disch := omega) only [lbX12_advance_126_4, g3, n1, if_true, g5, hb, bd_some', hl, show ¬ (nI 1 = 0) by decide, if_false, g4, nsub g1, n8, nle, h8, lw_eq, setL1, nadd, g6]
      · rintro s' ⟨g1, g2, g3, g4, g5, g6, g7⟩
        have hb := byteAt_ev (h.fm g2 rfl (fun k => rfl)) hc (p := e) (by omega)
        have hl := isLetter_ev (c := c) hY e s'
        rw [if_neg u3] at hl
        refine ⟨s', ?_, g2, g3, g4, g5, by rw [if_pos rfl]; exact g6, by rw [if_neg (by omega)]; exact g7⟩
        simp only [lbX12_advance_126_4, g3, n1, if_true, g5, hb, bd_some', hl]
    · have hn1 : ¬ nI s = 1 := by rw [n1, neq (by omega) (by omega)]; exact h1
      have o1 : wh (lbX12_advance_126_4 (M + 1)) (M + 1) w1 = some w1 := wh_out (by simp only [lbX12_advance_126_4, k17, hn1, if_false])
      by_cases h2 : s = 2
      · subst h2
        obtain ⟨u1, u2, u3⟩ := t10 (Or.inr rfl)
        have key := wh_cnt (body := lbX12_advance_207_5 (M + 1)) (n := e)
          (I := fun i s' => p ≤ i ∧ Fm TMa w s' ∧ s'.1 0 17 = nI 2 ∧ s'.1 0 18 = nI p ∧ s'.1 0 19 = nI i ∧ s'.2 0 20 = 0 ∧ s'.1 0 21 = numF Y p (i - p)) (Q := fun s' => Fm TMa w s' ∧ MTk Y c 2 p e s')
          ?_ ?_ (N := M + 1) (i := p) (s := w1) ⟨Nat.le_refl _, F1, k17, k18, k19, k20, by rw [k21, hq, Nat.sub_self]; rfl⟩ (by omega) (by omega)
        · obtain ⟨w2, a1, a2, a3⟩ := key
          refine ⟨w2, ?_, a2, a3⟩
          simp only [bX12_advance_105, lw_eq, hw1, k17, hn3, if_false, o1, a1, bd_some']
        · rintro i s' hi ⟨g1, g2, g3, g4, g5, g6, g7⟩
          have hb := byteAt_ev (h.fm g2 rfl (fun k => rfl)) hc (p := i) (by omega)
          have hl := isDigit_ev (c := c) hY i s'
          rw [u2 i g1 hi, if_pos rfl] at hl
          have hv : bAt Y c i = nI (Y i) := by unfold bAt; rw [if_neg (by omega)]
          have hw : numF Y p (i + 1 - p) = if 2 ≤ i - p then -1 else 10 * numF Y p (i - p) + nI (Y i) - 48 := by
            rw [show i + 1 - p = (i - p) + 1 by omega]
            simp only [numF, show p + (i - p) = i by omega]
          by_cases h8 : 2 ≤ i - p
          · rw [if_pos h8] at hw
            refine ⟨setI (setI s' 0 21 (-1)) 0 19 (nI (i + 1)), ?_, by omega, g2.tr ((Fm.set (by simp [TMa])).tr (Fm.set (by simp [TMa]))), by simp [setI1, g3], by simp [setI1, g4], by simp [setI1], by simp [setI2, g6], by simp [setI1, hw]⟩
            have i2 : nI 2 ≤ nI (i - p) := by rw [nle (by omega) (by omega)]; exact h8
            simp only [lbX12_advance_207_5, g3, show (2 : Int32) = nI 2 from rfl, if_true, g5, hb, bd_some', hl, show ¬ ((1 : Int32) = 0) by decide, if_false, g4, nsub g1, i2, lw_eq, setI1, show ¬ (19 = 21) by omega, and_false, show nI i + 1 = nI (i + 1) by rw [n1, nadd]]
          · rw [if_neg h8] at hw
            rw [hv] at hb hl
            refine ⟨setI (setI s' 0 21 (10 * numF Y p (i - p) + nI (Y i) - 48)) 0 19 (nI (i + 1)), ?_, by omega, g2.tr ((Fm.set (by simp [TMa])).tr (Fm.set (by simp [TMa]))), by simp [setI1, g3], by simp [setI1, g4], by simp [setI1], by simp [setI2, g6], by simp [setI1, hw]⟩
            have i2 : ¬ nI 2 ≤ nI (i - p) := by rw [nle (by omega) (by omega)]; exact h8
            simp only [lbX12_advance_207_5, g3, show (2 : Int32) = nI 2 from rfl, if_true, g5, hb, bd_some', hl, show ¬ ((1 : Int32) = 0) by decide, if_false, g4, nsub g1, i2, lw_eq, setI1, show ¬ (19 = 21) by omega, and_false, g7, show nI i + 1 = nI (i + 1) by rw [n1, nadd]]
        · rintro s' ⟨g1, g2, g3, g4, g5, g6, g7⟩
          have hb := byteAt_ev (h.fm g2 rfl (fun k => rfl)) hc (p := e) (by omega)
          have hl := isDigit_ev (c := c) hY e s'
          rw [if_neg u3] at hl
          refine ⟨s', ?_, g2, g3, g4, g5, by rw [if_neg (by omega)]; exact g6, by rw [if_pos rfl]; exact g7⟩
          simp only [lbX12_advance_207_5, g3, show (2 : Int32) = nI 2 from rfl, if_true, g5, hb, bd_some', hl]
      · have h0 : s = 0 := by omega
        have he := t8 h0
        have hn2 : ¬ nI s = 2 := by rw [n2, neq (by omega) (by omega)]; exact h2
        have o2 : wh (lbX12_advance_207_5 (M + 1)) (M + 1) w1 = some w1 := wh_out (by simp only [lbX12_advance_207_5, k17, hn2, if_false])
        refine ⟨w1, ?_, F1, k17, k18, by rw [he]; exact k19, by rw [if_neg h1]; exact k20, by rw [if_neg h2, k21, hq, if_neg h2]⟩
        simp only [bX12_advance_105, lw_eq, hw1, k17, hn3, if_false, o1, bd_some', o2]
theorem advance_ev (h : TpM c Y w) (hY : ∀ i, Y i < 256) (hc : c ≤ 200) {e0 s p e : Nat} (ht : TkP Y c e0 s p e) (h6 : w.1 0 19 = nI e0) (hN : 300 < N) :
    ∃ w', fX12_advance N w = some w' ∧ Fm TMa w w' ∧ MTk Y c s p e w' := by
  have ht' := ht
  obtain ⟨t1, t2, t3, t4, t5, t6, t7, t8, t9, t10⟩ := ht'
  have sle : s ≤ 3 := by rw [t5]; exact srt_le
  have k1 := wh_cnt (body := lbX12_advance_8_1 N) (n := p)
    (I := fun i s => e0 ≤ i ∧ Fm TMa w s ∧ s.1 0 18 = nI i) (Q := fun s => Fm TMa w s ∧ s.1 0 18 = nI p) ?_ ?_ (N := N) (i := e0) (s := setI w 0 18 (w.1 0 19)) ⟨Nat.le_refl _, Fm.set (by simp [TMa]), by simp [setI1, h6]⟩ t1 (by omega)
  · obtain ⟨w1, a1, a2, a3⟩ := k1
    have F2 : Fm TMa w1 (setI w1 0 19 (nI p)) := Fm.set (by simp [TMa])
    generalize hw2 : setI w1 0 19 (nI p) = w2 at F2
    have h2 := (h.fm a2 rfl (fun k => rfl)).fm F2 rfl (fun k => rfl)
    have q18 : w2.1 0 18 = nI p := by rw [← hw2]; simp [setI1, a3]
    have hb := byteAt_ev h2 hc (p := p) (by omega)
    have hl := isLetter_ev (c := c) hY p w2
    have hd := isDigit_ev (c := c) hY p w2
    rw [← t5] at hl hd
    have F3 : Fm TMa w2 (setL (setI w2 0 17 (nI s)) 0 20 0) := (Fm.set (by simp [TMa])).tr Fm.word
    have p19 : w2.1 0 19 = nI p := by rw [← hw2]; simp [setI1]
    generalize hw3 : setL (setI w2 0 17 (nI s)) 0 20 0 = w3 at F3
    have g17 : w3.1 0 17 = nI s := by rw [← hw3]; simp [setI1, setL1]
    have g18 : w3.1 0 18 = nI p := by rw [← hw3]; simp [setI1, setL1, q18]
    have g19 : w3.1 0 19 = nI p := by rw [← hw3]; simp [setI1, setL1, p19]
    have g20 : w3.2 0 20 = 0 := by rw [← hw3]; simp [setL2]
    obtain ⟨w4, b1, b2, b3⟩ := adv_end (N := N) (h2.fm F3 rfl (fun k => rfl)) hY hc ht hN g17 g18 g19 g20 (q := if s = 2 then 0 else bAt Y c p) rfl
    refine ⟨w4, ?_, a2.tr (F2.tr (F3.tr b2)), b3⟩
    have e83 : bX12_advance_83 N (bAt Y c p) (nI s) w2 = some w4 := by
      by_cases hs2 : s = 2
      · subst hs2
        rw [if_pos rfl] at b1
        simp only [bX12_advance_83, lw_eq, hw3, g17, show nI 2 = 2 from rfl, if_true] at b1 ⊢
        rw [show (2 : Int32) = nI 2 from rfl, hw3, g17, if_pos rfl]; exact b1
      · rw [if_neg hs2] at b1
        have : ¬ nI s = 2 := by rw [n2, neq (by omega) (by omega)]; exact hs2
        simp only [bX12_advance_83, lw_eq, hw3, g17, this, if_false]; exact b1
    simp only [fX12_advance, lw_eq, a1, bd_some', a3, hw2, q18, hb, bAt_neg (c := c) (p := p) hY, hl, hd]
    by_cases hpc : p < c
    · rw [if_pos hpc]
      have hs0 : s ≠ 0 := fun q => by
        rw [t5] at q; unfold srt at q
        rw [if_neg (by omega)] at q
        revert q
        repeat' split
        all_goals omega
      by_cases h1 : s = 1
      · subst h1; rw [if_pos rfl, if_neg (by decide)]; exact e83
      · rw [if_neg h1, if_pos rfl]
        by_cases h2 : s = 2
        · subst h2; rw [if_pos rfl, if_neg (by decide)]; exact e83
        · have : s = 3 := by omega
          subst this; rw [if_neg h2, if_pos rfl]; exact e83
    · rw [if_neg hpc]
      have : s = 0 := by rw [t5]; unfold srt; rw [if_pos (by omega)]
      subst this; exact e83
  · rintro i s hi ⟨g1, g2, g3⟩
    have hb := byteAt_ev (h.fm g2 rfl (fun k => rfl)) hc (p := i) (by omega)
    have hv : bAt Y c i = 32 := by unfold bAt; rw [if_neg (by omega), t3 i g1 hi]; rfl
    refine ⟨setI s 0 18 (nI (i + 1)), ?_, by omega, g2.tr (Fm.set (by simp [TMa])), by simp [setI1]⟩
    simp only [lbX12_advance_8_1, g3, hb, bd_some', hv, if_true, lw_eq, show nI i + 1 = nI (i + 1) by rw [n1, nadd]]
  · rintro s ⟨g1, g2, g3⟩
    have hb := byteAt_ev (h.fm g2 rfl (fun k => rfl)) hc (p := p) (by omega)
    have hv : ¬ bAt Y c p = 32 := by
      unfold bAt
      by_cases hpc : c ≤ p
      · rw [if_pos hpc]; decide
      · rw [if_neg hpc, n32, neq (by have := hY p; omega) (by omega)]; exact t4 (by omega)
    refine ⟨s, ?_, g2, g3⟩
    simp only [lbX12_advance_8_1, g3, hb, bd_some', hv, if_false]
end
