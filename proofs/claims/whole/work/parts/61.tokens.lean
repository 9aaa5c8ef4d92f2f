/-! 61: pieces of a text -/
def srt (Y : Nat → Nat) (c p : Nat) : Nat := if c ≤ p then 0 else if 97 ≤ Y p ∧ Y p ≤ 122 then 1 else if 48 ≤ Y p ∧ Y p ≤ 57 then 2 else 3
def bAt (Y : Nat → Nat) (c p : Nat) : Int32 := if c ≤ p then -1 else nI (Y p)
def TpC (c : Nat) (Y : Nat → Nat) (w : AW) : Prop := w.1 37 1 = nI c ∧ ∀ i, i < c → w.1 38 i = sB (Y i)
def TpM (c : Nat) (Y : Nat → Nat) (w : AW) : Prop := w.1 0 16 = nI c ∧ ∀ i, i < c → w.1 9 i = nI (Y i)
theorem sB_lt {y k : Nat} (hy : y < 256) (hk : k ≤ 127) : (sB y < nI k) = (y < k ∨ 128 ≤ y) := by
  unfold sB
  rw [zI_nI, zlt (by split <;> omega) (by split <;> omega) (by omega) (by omega)]
  apply propext
  split <;> omega
theorem sB_gt {y k : Nat} (hy : y < 256) (hk : k ≤ 127) : (nI k < sB y) = (k < y ∧ y < 128) := by
  unfold sB
  rw [zI_nI, zlt (by omega) (by omega) (by split <;> omega) (by split <;> omega)]
  apply propext
  split <;> omega
theorem sB_eq {y k : Nat} (hy : y < 256) (hk : k ≤ 127) : (sB y = nI k) = (y = k) := by
  unfold sB
  rw [zI_nI, zeq (by split <;> omega) (by split <;> omega) (by omega) (by omega)]
  apply propext
  split <;> omega
theorem sB_nat {y : Nat} (hy : y < 128) : sB y = nI y := by
  unfold sB
  rw [if_pos hy, zI_nI]
section
variable {c : Nat} {Y : Nat → Nat} {w : AW}
theorem sortAt_ev (h : TpC c Y w) (hY : ∀ i, Y i < 256) (hc : c ≤ 200) {p : Nat} (hp : p ≤ 1000) : fX8_sortAt (nI p) w = some (nI (srt Y c p)) := by
  unfold srt
  have hneg : ¬ nI p < 0 := by rw [n0, nlt (by omega) (by omega)]; omega
  by_cases hcp : c ≤ p
  · simp (disch := omega) only [fX8_sortAt, hneg, if_false, h.1, nlt, if_neg (show ¬ p < c by omega), hcp, if_true]
    rfl
  · have hb := h.2 p (by omega)
    have hy := hY p
    have e97 := sB_lt (k := 97) hy (by omega)
    have e48 := sB_lt (k := 48) hy (by omega)
    have e57 := sB_gt (k := 57) hy (by omega)
    have e122 := sB_gt (k := 122) hy (by omega)
    simp (disch := omega) only [fX8_sortAt, hneg, if_false, h.1, nlt, if_pos (show p < c by omega), if_neg hcp, gd_n, ntn, hb, show (97 : Int32) = nI 97 from rfl, show (48 : Int32) = nI 48 from rfl, show (57 : Int32) = nI 57 from rfl, show (122 : Int32) = nI 122 from rfl, e97, e48, e57, e122]
    repeat' split
    all_goals first | rfl | omega
theorem byteAt_ev (h : TpM c Y w) (hc : c ≤ 200) {p : Nat} (hp : p ≤ 1000) : fX12_byteAt (nI p) w = some (bAt Y c p) := by
  unfold bAt
  by_cases hcp : c ≤ p
  · simp (disch := omega) only [fX12_byteAt, h.1, nle, hcp, if_true]
  · simp (disch := omega) only [fX12_byteAt, h.1, nle, hcp, if_false, gd_n, ntn, h.2 p (by omega)]
theorem bAt_in {lo hi p : Nat} (hY : ∀ i, Y i < 256) (hh : hi ≤ 1000) (hlo : lo ≤ 1000) (w : AW) : fX12_in (bAt Y c p) (nI lo) (nI hi) w = some (if p < c ∧ lo ≤ Y p ∧ Y p ≤ hi then 1 else 0) := by
  rw [in_ev]
  unfold wI bAt
  have hy := hY p
  by_cases hcp : c ≤ p
  · rw [if_pos hcp, if_pos (by rw [show (-1 : Int32) = zI (-1) from rfl, zI_nI, zlt (by omega) (by omega) (by omega) (by omega)]; omega), if_neg (by omega)]
  · simp (disch := omega) only [if_neg hcp, nlt]
    repeat' split
    all_goals first | rfl | omega
theorem isLetter_ev (hY : ∀ i, Y i < 256) (p : Nat) (w : AW) : fX12_isLetter (bAt Y c p) w = some (if srt Y c p = 1 then 1 else 0) := by
  have e := bAt_in (c := c) (Y := Y) (lo := 97) (hi := 122) (p := p) hY (by omega) (by omega) w
  have e2 : (if p < c ∧ 97 ≤ Y p ∧ Y p ≤ 122 then (1 : Int32) else 0) = (if srt Y c p = 1 then 1 else 0) := by
    unfold srt
    repeat' split
    all_goals first | rfl | omega
  simp only [fX12_isLetter, show (97 : Int32) = nI 97 from rfl, show (122 : Int32) = nI 122 from rfl, e, bd_some', e2]
  split <;> rfl
theorem isDigit_ev (hY : ∀ i, Y i < 256) (p : Nat) (w : AW) : fX12_isDigit (bAt Y c p) w = some (if srt Y c p = 2 then 1 else 0) := by
  have e := bAt_in (c := c) (Y := Y) (lo := 48) (hi := 57) (p := p) hY (by omega) (by omega) w
  have e2 : (if p < c ∧ 48 ≤ Y p ∧ Y p ≤ 57 then (1 : Int32) else 0) = (if srt Y c p = 2 then 1 else 0) := by
    unfold srt
    repeat' split
    all_goals first | rfl | omega
  simp only [fX12_isDigit, show (48 : Int32) = nI 48 from rfl, show (57 : Int32) = nI 57 from rfl, e, bd_some', e2]
  split <;> rfl
end
/-- the first place from a on where P ends -/
theorem run_ex (P : Nat → Prop) (c : Nat) (hc : ¬ P c) : ∀ {f a : Nat}, a ≤ c → c - a < f → ∃ b, a ≤ b ∧ b ≤ c ∧ (∀ i, a ≤ i → i < b → P i) ∧ ¬ P b := by
  intro f
  induction f with
  | zero => intro a _ h; omega
  | succ f ih =>
    intro a ha hf
    by_cases h : P a
    · have : a ≠ c := fun q => hc (q ▸ h)
      obtain ⟨b, h1, h2, h3, h4⟩ := ih (a := a + 1) (by omega) (by omega)
      refine ⟨b, by omega, h2, fun i hi hib => ?_, h4⟩
      by_cases hq : i = a
      · rw [hq]; exact h
      · exact h3 i (by omega) hib
    · exact ⟨a, Nat.le_refl _, ha, fun i h1 h2 => by omega, h⟩
/-- the piece that follows place e0 -/
def TkP (Y : Nat → Nat) (c e0 s p e : Nat) : Prop := e0 ≤ p ∧ p ≤ c ∧ (∀ i, e0 ≤ i → i < p → Y i = 32) ∧ (p < c → Y p ≠ 32) ∧ s = srt Y c p ∧ p ≤ e ∧ e ≤ c ∧ (s = 0 → e = p) ∧ (s = 3 → e = p + 1) ∧ (s = 1 ∨ s = 2 → p < e ∧ (∀ i, p ≤ i → i < e → srt Y c i = s) ∧ srt Y c e ≠ s)
theorem srt_le {Y : Nat → Nat} {c p : Nat} : srt Y c p ≤ 3 := by unfold srt; repeat' split
                                                                 all_goals omega
theorem srt_end {Y : Nat → Nat} {c : Nat} : srt Y c c = 0 := by unfold srt; rw [if_pos (Nat.le_refl _)]
theorem srt_lt {Y : Nat → Nat} {c p : Nat} (h : srt Y c p ≠ 0) : p < c := by
  unfold srt at h
  by_cases hc : c ≤ p
  · rw [if_pos hc] at h; exact absurd rfl h
  · omega
theorem tok_ex {Y : Nat → Nat} {c e0 : Nat} (h : e0 ≤ c) : ∃ s p e, TkP Y c e0 s p e := by
  obtain ⟨p, h1, h2, h3, h4⟩ := run_ex (fun i => i < c ∧ Y i = 32) c (fun q => by omega) h (Nat.lt_succ_self _)
  have g1 : ∀ i, e0 ≤ i → i < p → Y i = 32 := fun i a b => (h3 i a b).2
  have g2 : p < c → Y p ≠ 32 := fun a b => h4 ⟨a, b⟩
  have hle := srt_le (Y := Y) (c := c) (p := p)
  by_cases hs : srt Y c p = 1 ∨ srt Y c p = 2
  · have hpc := srt_lt (Y := Y) (c := c) (p := p) (by omega)
    obtain ⟨e, k1, k2, k3, k4⟩ := run_ex (fun i => srt Y c i = srt Y c p) c (by rw [srt_end]; omega) (a := p) h2 (Nat.lt_succ_self _)
    have : e ≠ p := fun q => k4 (by rw [q])
    exact ⟨srt Y c p, p, e, h1, h2, g1, g2, rfl, k1, k2, fun q => by omega, fun q => by omega, fun _ => ⟨by omega, k3, k4⟩⟩
  · by_cases h0 : srt Y c p = 0
    · exact ⟨srt Y c p, p, p, h1, h2, g1, g2, rfl, Nat.le_refl _, h2, fun _ => rfl, fun q => by omega, fun q => absurd q hs⟩
    · have := srt_lt h0
      exact ⟨srt Y c p, p, p + 1, h1, h2, g1, g2, rfl, by omega, by omega, fun q => by omega, fun _ => rfl, fun q => absurd q hs⟩
def CTk (s p e : Nat) (w : AW) : Prop := w.1 37 4 = nI s ∧ w.1 37 5 = nI p ∧ w.1 37 6 = nI e
def wdF (Y : Nat → Nat) (p : Nat) : Nat → Int64
  | 0 => 0
  | k + 1 => if 8 ≤ k then -1 else 27 * wdF Y p k + (nI (Y (p + k))).toInt64 - 96
def numF (Y : Nat → Nat) (p : Nat) : Nat → Int32
  | 0 => 0
  | k + 1 => if 2 ≤ k then -1 else 10 * numF Y p k + nI (Y (p + k)) - 48
def MTk (Y : Nat → Nat) (c s p e : Nat) (w : AW) : Prop := w.1 0 17 = nI s ∧ w.1 0 18 = nI p ∧ w.1 0 19 = nI e ∧ w.2 0 20 = (if s = 1 then wdF Y p (e - p) else 0) ∧ w.1 0 21 = (if s = 2 then numF Y p (e - p) else bAt Y c p)
def TCf (o k : Nat) : Bool := o == 37 && (k == 4 || k == 5 || k == 6 || k == 7)
def TMf (o k : Nat) : Bool := o == 0 && (k == 17 || k == 18 || k == 19 || k == 21 || k == 22)
/-- cells of the reference, its word aside -/
def Fm (T : Nat → Nat → Bool) (w w' : AW) : Prop := (∀ o k, T o k = false → w'.1 o k = w.1 o k) ∧ ∀ o k, ¬ (o = 0 ∧ k = 20) → w'.2 o k = w.2 o k
theorem Fm.rf {T : Nat → Nat → Bool} {w : AW} : Fm T w w := ⟨fun _ _ _ => rfl, fun _ _ _ => rfl⟩
theorem Fm.tr {T : Nat → Nat → Bool} {w w' w'' : AW} (h : Fm T w w') (h' : Fm T w' w'') : Fm T w w'' := ⟨fun o k ho => (h'.1 o k ho).trans (h.1 o k ho), fun o k ho => (h'.2 o k ho).trans (h.2 o k ho)⟩
theorem Fm.wd {T T' : Nat → Nat → Bool} {w w' : AW} (h : Fm T w w') (ht : ∀ o k, T' o k = false → T o k = false) : Fm T' w w' := ⟨fun o k ho => h.1 o k (ht o k ho), h.2⟩
theorem Fm.at' {T : Nat → Nat → Bool} {w w' : AW} (h : Fm T w w') {o : Nat} (k : Nat) (ho : T o k = false) : w'.1 o k = w.1 o k := h.1 o k ho
theorem Fr.fm {T : Nat → Nat → Bool} {w w' : AW} (h : Fr T w w') : Fm T w w' := ⟨h.1, fun o k _ => by rw [h.2]⟩
theorem Fm.set {T : Nat → Nat → Bool} {w : AW} {o k : Nat} {v : Int32} (ho : T o k = true) : Fm T w (setI w o k v) := (Fr.set ho).fm
theorem Fm.word {T : Nat → Nat → Bool} {w : AW} {v : Int64} : Fm T w (setL w 0 20 v) := ⟨fun _ _ _ => rfl, fun o k h => by simp only [setL, h, if_false]⟩
section
variable {c : Nat} {Y : Nat → Nat} {w : AW} {N : Nat}
theorem TpC.fr {w' : AW} {T : Nat → Nat → Bool} (h : TpC c Y w) (f : Fr T w w') (h1 : T 37 1 = false) (h2 : ∀ k, T 38 k = false) : TpC c Y w' := ⟨by rw [f.at' _ h1]; exact h.1, fun i hi => by rw [f.at' _ (h2 i)]; exact h.2 i hi⟩
theorem TpM.fm {w' : AW} {T : Nat → Nat → Bool} (h : TpM c Y w) (f : Fm T w w') (h1 : T 0 16 = false) (h2 : ∀ k, T 9 k = false) : TpM c Y w' := ⟨by rw [f.at' _ h1]; exact h.1, fun i hi => by rw [f.at' _ (h2 i)]; exact h.2 i hi⟩
def T456 (o k : Nat) : Bool := o == 37 && (k == 4 || k == 5 || k == 6)
theorem next_ev (h : TpC c Y w) (hY : ∀ i, Y i < 256) (hc : c ≤ 200) {e0 s p e : Nat} (ht : TkP Y c e0 s p e) (h6 : w.1 37 6 = nI e0) (hN : 300 < N) :
    ∃ w', fX8_next N w = some w' ∧ Fr T456 w w' ∧ CTk s p e w' := by
  obtain ⟨t1, t2, t3, t4, t5, t6, t7, t8, t9, t10⟩ := ht
  -- blanks
  have k1 := wh_cnt (body := lbX8_next_8_1 N) (n := p)
    (I := fun i s => e0 ≤ i ∧ Fr T456 w s ∧ s.1 37 5 = nI i) (Q := fun s => Fr T456 w s ∧ s.1 37 5 = nI p) ?_ ?_ (N := N) (i := e0) (s := setI w 37 5 (w.1 37 6)) ⟨Nat.le_refl _, Fr.set (by simp [T456]), by simp [setI1, h6]⟩ t1 (by omega)
  · obtain ⟨w1, a1, a2, a3⟩ := k1
    have h1 := h.fr a2 rfl (fun k => rfl)
    have hs1 := sortAt_ev h1 hY hc (p := p) (by omega)
    have F2 : Fr T456 w1 (setI w1 37 4 (nI s)) := Fr.set (by simp [T456])
    have q5 : (setI w1 37 4 (nI s)).1 37 5 = nI p := by simp [setI1, a3]
    have q4 : (setI w1 37 4 (nI s)).1 37 4 = nI s := by simp [setI1]
    rw [← t5] at hs1
    have sle : s ≤ 3 := by rw [t5]; exact srt_le
    by_cases h0 : s = 0
    · subst h0
      have he := t8 rfl
      subst he
      have F3 : Fr T456 (setI w1 37 4 (nI 0)) (setI (setI w1 37 4 (nI 0)) 37 6 (nI e)) := Fr.set (by simp [T456])
      refine ⟨setI (setI w1 37 4 (nI 0)) 37 6 (nI e), ?_, a2.tr (F2.tr F3), by simp [setI1], by simp [setI1, a3], by simp [setI1]⟩
      obtain ⟨M, rfl⟩ : ∃ M, N = M + 1 := ⟨N - 1, by omega⟩
      have ho : wh (lbX8_next_82_2 (M + 1)) (M + 1) (setI (setI w1 37 4 (nI 0)) 37 6 (nI e)) = some (setI (setI w1 37 4 (nI 0)) 37 6 (nI e)) := by
        apply wh_out
        have : (setI (setI w1 37 4 (nI 0)) 37 6 (nI e)).1 37 4 = nI 0 := by simp [setI1]
        simp only [lbX8_next_82_2, this, show ¬ nI 0 = 1 by decide, show ¬ nI 0 = 2 by decide, if_false]
      simp only [fX8_next, lw_eq, a1, bd_some', bX8_next_46, a3, hs1, q4, q5]
      rw [if_pos (show nI 0 = 0 from rfl), ho, bd_some']
    · have hpc := srt_lt (Y := Y) (c := c) (p := p) (by omega)
      have k2 := wh_cnt (body := lbX8_next_82_3 N) (n := e)
        (I := fun i s' => p < i ∧ Fr T456 w s' ∧ s'.1 37 4 = nI s ∧ s'.1 37 5 = nI p ∧ s'.1 37 6 = nI i) (Q := fun s' => Fr T456 w s' ∧ CTk s p e s') ?_ ?_ (N := N) (i := p + 1) (s := setI (setI w1 37 4 (nI s)) 37 6 (nI (p + 1))) ⟨by omega, a2.tr (F2.tr (Fr.set (by simp [T456]))), by simp [setI1], by simp [setI1, a3], by simp [setI1]⟩ (by
          by_cases h3 : s = 3
          · have := t9 h3; omega
          · have := (t10 (by omega)).1; omega) (by omega)
      · obtain ⟨w2, b1, b2, b3⟩ := k2
        refine ⟨w2, ?_, b2, b3⟩
        have hne : ¬ nI s = 0 := by rw [n0, neq (by omega) (by omega)]; exact h0
        simp only [fX8_next, lw_eq, a1, bd_some', bX8_next_46, a3, hs1, q4, q5, hne, if_false, show nI p + 1 = nI (p + 1) by rw [n1, nadd], b1]
      · rintro i s' hi ⟨g1, g2, g3, g4, g5⟩
        have h12 : s = 1 ∨ s = 2 := by
          by_cases h3 : s = 3
          · have := t9 h3; omega
          · omega
        have hsi := (t10 h12).2.1 i (by omega) hi
        have hh := h.fr g2 rfl (fun k => rfl)
        have hss := sortAt_ev hh hY hc (p := i) (by omega)
        rw [hsi] at hss
        refine ⟨setI s' 37 6 (nI (i + 1)), ?_, by omega, g2.tr (Fr.set (by simp [T456])), by simp [setI1, g3], by simp [setI1, g4], by simp [setI1]⟩
        rcases h12 with rfl | rfl
        · simp (disch := omega) only [lbX8_next_82_3, g3, g5, hh.1, n1, neq, if_true, nle, if_neg (show ¬ c ≤ i by omega), hss, bd_some', lw_eq, nadd]
        · simp (disch := omega) only [lbX8_next_82_3, g3, g5, hh.1, n1, n2, neq, show ¬ (2 = 1) by omega, if_false, if_true, nle, if_neg (show ¬ c ≤ i by omega), hss, bd_some', lw_eq, nadd]
      · rintro s' ⟨g1, g2, g3, g4, g5⟩
        have hh := h.fr g2 rfl (fun k => rfl)
        have hss := sortAt_ev hh hY hc (p := e) (by omega)
        refine ⟨s', ?_, g2, g3, g4, g5⟩
        by_cases h3 : s = 3
        · simp (disch := omega) only [lbX8_next_82_3, g3, h3, n1, n2, neq, show ¬ (3 = 1) by omega, show ¬ (3 = 2) by omega, if_false]
        · have h12 : s = 1 ∨ s = 2 := by omega
          have hne := (t10 h12).2.2
          have hle := srt_le (Y := Y) (c := c) (p := e)
          rcases h12 with rfl | rfl
          · by_cases hce : c ≤ e
            · simp (disch := omega) only [lbX8_next_82_3, g3, g5, hh.1, n1, neq, if_true, nle, hce]
            · simp (disch := omega) only [lbX8_next_82_3, g3, g5, hh.1, n1, neq, if_true, nle, if_neg hce, hss, bd_some', hne, if_false]
          · by_cases hce : c ≤ e
            · simp (disch := omega) only [lbX8_next_82_3, g3, g5, hh.1, n1, n2, neq, show ¬ (2 = 1) by omega, if_false, if_true, nle, hce]
            · simp (disch := omega) only [lbX8_next_82_3, g3, g5, hh.1, n1, n2, neq, show ¬ (2 = 1) by omega, if_true, nle, if_neg hce, hss, bd_some', hne, if_false]
  · rintro i s hi ⟨g1, g2, g3⟩
    have hh := h.fr g2 rfl (fun k => rfl)
    refine ⟨setI s 37 5 (nI (i + 1)), ?_, by omega, g2.tr (Fr.set (by simp [T456])), by simp [setI1]⟩
    have hb := hh.2 i (by omega)
    rw [t3 i g1 hi] at hb
    simp (disch := omega) only [lbX8_next_8_1, hh.1, g3, nle, if_neg (show ¬ c ≤ i by omega), gd_n, ntn, hb, show sB 32 = 32 from rfl, if_true, lw_eq, n1, nadd]
  · rintro s ⟨g1, g2, g3⟩
    have hh := h.fr g2 rfl (fun k => rfl)
    refine ⟨s, ?_, g2, g3⟩
    by_cases hcp : c ≤ p
    · simp (disch := omega) only [lbX8_next_8_1, hh.1, g3, nle, hcp, if_true]
    · have hb := hh.2 p (by omega)
      have hne : ¬ sB (Y p) = 32 := by
        rw [show (32 : Int32) = nI 32 from rfl, sB_eq (hY p) (by omega)]; exact t4 (by omega)
      simp (disch := omega) only [lbX8_next_8_1, hh.1, g3, nle, hcp, if_false, gd_n, ntn, hb, hne]
end
