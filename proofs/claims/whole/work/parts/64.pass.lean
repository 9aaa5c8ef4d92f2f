/-! 64: pieces passed, on both sides -/
def LTk (Y : Nat → Nat) (c s p e : Nat) (wC wM : AW) : Prop := TpC c Y wC ∧ TpM c Y wM ∧ CTk s p e wC ∧ MTk Y c s p e wM ∧ wM.1 0 22 = nI 1 ∧ ∃ e0, TkP Y c e0 s p e
def Adv (Y : Nat → Nat) (c e : Nat) (wC wM wC' wM' : AW) : Prop := Fr TCf wC wC' ∧ Fm TMf wM wM' ∧ ∃ s' p' e', LTk Y c s' p' e' wC' wM' ∧ e ≤ p'
theorem setI_same {w : AW} {o k : Nat} {v : Int32} (h : w.1 o k = v) : setI w o k v = w := by
  unfold setI
  refine Prod.ext ?_ rfl
  funext a j
  show (if a = o ∧ j = k then v else w.1 a j) = w.1 a j
  by_cases hq : a = o ∧ j = k
  · rw [if_pos hq, hq.1, hq.2, h]
  · rw [if_neg hq]
section
variable {c : Nat} {Y : Nat → Nat} {N : Nat}
theorem dead_end {w : AW} (h : w.1 0 22 = 0) : fX12_wantEnd N w = some w := by
  simp only [fX12_wantEnd, h, if_true, lw_eq, setI_same h]
theorem dead_num {a b : Int32} {w : AW} (h : w.1 0 22 = 0) : fX12_wantNumber N a b w = some (w.1 0 21, w) := by
  simp only [fX12_wantNumber, h, if_true, lw_eq, setI_same h]
theorem dead_word {a : Int64} {w : AW} (h : w.1 0 22 = 0) : fX12_wantWord N a w = some w := by
  simp only [fX12_wantWord, h, if_true, lw_eq, setI_same h]
variable {s p e : Nat} {wC wM : AW}
theorem LTk.le (h : LTk Y c s p e wC wM) : p ≤ e ∧ e ≤ c ∧ s ≤ 3 ∧ p ≤ c := by
  obtain ⟨h1, h2, h3, h4, h5, e0, t1, t2, t3, t4, t5, t6, t7, t8⟩ := h
  exact ⟨t6, t7, by rw [t5]; exact srt_le, t2⟩
theorem adv_pair (h : LTk Y c s p e wC wM) (hY : ∀ i, Y i < 256) (hc : c ≤ 200) (hN : 300 < N) :
    ∃ s' p' e' wC' wM', fX8_next N wC = some wC' ∧ fX12_advance N wM = some wM' ∧ Fr T456 wC wC' ∧ Fm TMa wM wM' ∧ LTk Y c s' p' e' wC' wM' ∧ e ≤ p' := by
  obtain ⟨l1, l2, l3, l4⟩ := h.le
  obtain ⟨h1, h2, h3, h4, h5, e0, ht⟩ := h
  obtain ⟨s', p', e', t⟩ := tok_ex (Y := Y) l2
  obtain ⟨wC', a1, a2, a3⟩ := next_ev (N := N) h1 hY hc t h3.2.2 hN
  obtain ⟨wM', b1, b2, b3⟩ := advance_ev (N := N) h2 hY hc t h4.2.2.1 hN
  exact ⟨s', p', e', wC', wM', a1, b1, a2, b2, ⟨h1.fr a2 rfl (fun k => rfl), h2.fm b2 rfl (fun k => rfl), a3, b3, by rw [b2.at' _ rfl]; exact h5, e, t⟩, t.1⟩
theorem T456_TCf {o k : Nat} (q : TCf o k = false) : T456 o k = false := by simp [TCf, T456] at q ⊢; omega
theorem TMa_TMf {o k : Nat} (q : TMf o k = false) : TMa o k = false := by simp [TMf, TMa] at q ⊢; omega
theorem on0 : ¬ (1 : Int32) = 0 := by decide
theorem good_same (h : LTk Y c s p e wC wM) : setI wM 0 22 1 = wM := setI_same h.2.2.2.2.1
theorem good_ne {w : AW} (h : w.1 0 22 = nI 1) : ¬ w.1 0 22 = 0 := by rw [h]; decide
theorem dead_0 {w : AW} : (setI w 0 22 0).1 0 22 = 0 := by simp [setI1]
theorem pass_name (h : LTk Y c s p e wC wM) (hY : ∀ i, Y i < 256) (hc : c ≤ 200) (hN : 300 < N) {i : Nat} {k : Int64} (hi : i < 12) (hk : k = Int64.ofNat (hsh (nmN.getD i []))) :
    (∃ wC' wM', fX8_passName N i wC = some (1, wC') ∧ fX12_wantWord N k wM = some wM' ∧ Adv Y c e wC wM wC' wM') ∨ (fX8_passName N i wC = some (0, wC) ∧ fX12_wantWord N k wM = some (setI wM 0 22 0)) := by
  obtain ⟨h1, h2, h3, h4, h5, e0, ht⟩ := id h
  have ea := isNamed_ev (N := N) h1 h3 ht hY hc hi (by omega)
  have eb := isWord_nm h4 ht hY hi hk
  have gn := good_ne h5
  by_cases hq : s = 1 ∧ tokL Y p (e - p) = nmN.getD i []
  · rw [if_pos hq] at ea eb
    obtain ⟨s', p', e', wC', wM', a1, a2, a3, a4, a5, a6⟩ := adv_pair h hY hc hN
    refine Or.inl ⟨wC', wM', ?_, ?_, a3.wd (fun o k q => T456_TCf q), a4.wd (fun o k q => TMa_TMf q), s', p', e', a5, a6⟩
    · simp only [fX8_passName, ea, bd_some', on0, if_false, a1]
    · simp only [fX12_wantWord, gn, if_false, eb, bd_some', on0, lw_eq, good_same h, a2]
  · rw [if_neg hq] at ea eb
    refine Or.inr ⟨?_, ?_⟩
    · simp only [fX8_passName, ea, bd_some', if_true]
    · simp only [fX12_wantWord, gn, if_false, eb, bd_some', if_true, lw_eq, dead_0]
theorem pass_stop (h : LTk Y c s p e wC wM) (hY : ∀ i, Y i < 256) (hc : c ≤ 200) (hN : 300 < N) :
    (∃ wC' wM', fX8_passStop N wC = some (1, wC') ∧ fX12_wantEnd N wM = some wM' ∧ Adv Y c e wC wM wC' wM') ∨ (fX8_passStop N wC = some (0, wC) ∧ fX12_wantEnd N wM = some (setI wM 0 22 0)) := by
  obtain ⟨l1, l2, l3, l4⟩ := h.le
  obtain ⟨h1, h2, h3, h4, h5, e0, ht⟩ := id h
  have gn := good_ne h5
  have k1 := h3.1
  have k2 := h3.2.1
  have m1 := h4.1
  have m2 := h4.2.2.2.2
  by_cases h3s : s = 3
  · subst h3s
    have hpc := srt_lt (Y := Y) (c := c) (p := p) (by rw [← ht.2.2.2.2.1]; omega)
    have hb := h1.2 p hpc
    rw [if_neg (by omega)] at m2
    have hv : bAt Y c p = nI (Y p) := by unfold bAt; rw [if_neg (by omega)]
    rw [hv] at m2
    by_cases hq : Y p = 59
    · obtain ⟨s', p', e', wC', wM', a1, a2, a3, a4, a5, a6⟩ := adv_pair h hY hc hN
      rw [hq] at hb m2
      refine Or.inl ⟨wC', wM', ?_, ?_, a3.wd (fun o k q => T456_TCf q), a4.wd (fun o k q => TMa_TMf q), s', p', e', a5, a6⟩
      · simp (disch := omega) only [fX8_passStop, k1, show nI 3 = 3 from rfl, if_true, k2, gd_n, ntn, hb, show sB 59 = 59 from rfl, a1, bd_some']
      · simp only [fX12_wantEnd, gn, if_false, fX12_isMark, m1, show nI 3 = 3 from rfl, if_true, m2, show nI 59 = 59 from rfl, bd_some', on0, lw_eq, good_same h, a2]
    · have ne1 : ¬ sB (Y p) = 59 := by rw [n59, sB_eq (hY p) (by omega)]; exact hq
      have ne2 : ¬ nI (Y p) = 59 := by rw [n59, neq (by have := hY p; omega) (by omega)]; exact hq
      refine Or.inr ⟨?_, ?_⟩
      · simp (disch := omega) only [fX8_passStop, k1, show nI 3 = 3 from rfl, if_true, k2, gd_n, ntn, hb, ne1, if_false]
      · simp only [fX12_wantEnd, gn, if_false, fX12_isMark, m1, show nI 3 = 3 from rfl, if_true, m2, ne2, bd_some', lw_eq, dead_0]
  · have ne : ¬ nI s = 3 := by rw [n3, neq (by omega) (by omega)]; exact h3s
    refine Or.inr ⟨?_, ?_⟩
    · simp only [fX8_passStop, k1, ne, if_false]
    · simp only [fX12_wantEnd, gn, if_false, fX12_isMark, m1, ne, bd_some', if_true, lw_eq, dead_0]
theorem pass_num (h : LTk Y c s p e wC wM) (hY : ∀ i, Y i < 256) (hc : c ≤ 200) (hN : 300 < N) {lo hi : Nat} (hl : lo ≤ 99) (hh : hi ≤ 99) :
    (∃ v wC' wM', lo ≤ v ∧ v ≤ hi ∧ fX8_passNumber N (nI lo) (nI hi) wC = some (1, wC') ∧ wC'.1 37 7 = nI v ∧ fX12_wantNumber N (nI lo) (nI hi) wM = some (nI v, wM') ∧ Adv Y c e wC wM wC' wM') ∨
    (fX8_passNumber N (nI lo) (nI hi) wC = some (0, wC) ∧ ∃ r, fX12_wantNumber N (nI lo) (nI hi) wM = some (r, setI wM 0 22 0)) := by
  obtain ⟨l1, l2, l3, l4⟩ := h.le
  obtain ⟨h1, h2, h3, h4, h5, e0, ht⟩ := id h
  have gn := good_ne h5
  obtain ⟨k1, k2, k3⟩ := h3
  have m1 := h4.1
  have m2 := h4.2.2.2.2
  by_cases h2s : s = 2
  · subst h2s
    rw [if_pos rfl] at m2
    obtain ⟨u1, u2, u3⟩ := ht.2.2.2.2.2.2.2.2.2 (Or.inr rfl)
    by_cases hlen : e - p ≤ 2
    · have hle : nI e - nI p ≤ 2 := by rw [nsub l1, n2, nle (by omega) (by omega)]; exact hlen
      have key := wh_cnt (body := lbX8_passNumber_31_1 N (nI lo) (nI hi) wC) (n := e) (I := fun i st => p ≤ i ∧ st = (numF Y p (i - p), nI i)) (Q := fun r => r = numF Y p (e - p))
        ?_ ?_ (N := N) (i := p) (s := ((0 : Int32), nI p)) ⟨Nat.le_refl _, by rw [Nat.sub_self]; rfl⟩ l1 (by omega)
      · obtain ⟨r, r1, rfl⟩ := key
        rcases wI_01 (numF Y p (e - p)) (nI lo) (nI hi) with hw | hw
        · refine Or.inr ⟨?_, numF Y p (e - p), ?_⟩
          · simp only [fX8_passNumber, k1, show nI 2 = 2 from rfl, if_true, k2, k3, hle, r1, bd_some', within_ev, hw]
          · simp only [fX12_wantNumber, gn, if_false, m1, show nI 2 = 2 from rfl, if_true, m2, in_ev, hw, bd_some', lw_eq, dead_0]
        · obtain ⟨v, v1, v2, v3⟩ := wI_nat hw (by omega) (by omega)
          rw [v3] at hw
          have F1 : Fr TCf wC (setI wC 37 7 (nI v)) := Fr.set (by simp [TCf])
          have hL : LTk Y c 2 p e (setI wC 37 7 (nI v)) wM := ⟨h1.fr F1 rfl (fun k => rfl), h2, ⟨by simp [setI1, k1], by simp [setI1, k2], by simp [setI1, k3]⟩, h4, h5, e0, ht⟩
          obtain ⟨s', p', e', wC', wM', a1, a2, a3, a4, a5, a6⟩ := adv_pair hL hY hc hN
          refine Or.inl ⟨v, wC', wM', v1, v2, ?_, ?_, ?_, F1.tr (a3.wd (fun o k q => T456_TCf q)), a4.wd (fun o k q => TMa_TMf q), s', p', e', a5, a6⟩
          · simp only [fX8_passNumber, k1, show nI 2 = 2 from rfl, if_true, k2, k3, hle, r1, bd_some', within_ev, v3, hw, on0, if_false, lw_eq, a1]
          · rw [a3.at' _ rfl]; simp [setI1]
          · simp only [fX12_wantNumber, gn, if_false, m1, show nI 2 = 2 from rfl, if_true, m2, in_ev, v3, hw, bd_some', lw_eq, on0, if_false, good_same h, a2]
      · rintro i st hi ⟨g1, rfl⟩
        have hd := u2 i g1 hi
        have hb : 48 ≤ Y i ∧ Y i ≤ 57 := by
          unfold srt at hd
          revert hd
          repeat' split
          all_goals omega
        have hby := h1.2 i (by omega)
        rw [sB_nat (by omega)] at hby
        refine ⟨(numF Y p (i + 1 - p), nI (i + 1)), ?_, by omega, rfl⟩
        have hw : numF Y p (i + 1 - p) = 10 * numF Y p (i - p) + nI (Y i) - 48 := by
          rw [show i + 1 - p = (i - p) + 1 by omega]
          simp only [numF, show p + (i - p) = i by omega]
          rw [if_neg (by omega)]
        rw [hw]
        have hc10 : numF Y p (i - p) * 10 = 10 * numF Y p (i - p) := Int32.mul_comm _ _
        simp (disch := omega) only [lbX8_passNumber_31_1, k3, nle, if_neg (show ¬ e ≤ i by omega), gd_n, ntn, hby, lw_eq, hc10, n1, nadd]
      · rintro st ⟨g1, rfl⟩
        exact ⟨_, by simp (disch := omega) only [lbX8_passNumber_31_1, k3, Int32.le_refl, if_true], rfl⟩
    · have hle : ¬ nI e - nI p ≤ 2 := by rw [nsub l1, n2, nle (by omega) (by omega)]; exact hlen
      have hneg : numF Y p (e - p) = -1 := by
        obtain ⟨m, hm⟩ : ∃ m, e - p = m + 1 := ⟨e - p - 1, by omega⟩
        rw [hm]
        simp only [numF]
        rw [if_pos (by omega)]
      have hw : wI (-1) (nI lo) (nI hi) = 0 := by
        rcases wI_01 (-1) (nI lo) (nI hi) with hw | hw
        · exact hw
        · exfalso
          unfold wI at hw
          rw [if_pos (by rw [show (-1 : Int32) = zI (-1) from rfl, zI_nI, zlt (by omega) (by omega) (by omega) (by omega)]; omega)] at hw
          exact absurd hw (by decide)
      refine Or.inr ⟨?_, -1, ?_⟩
      · simp only [fX8_passNumber, k1, show nI 2 = 2 from rfl, if_true, k2, k3, hle, if_false]
      · simp only [fX12_wantNumber, gn, if_false, m1, show nI 2 = 2 from rfl, if_true, m2, hneg, in_ev, hw, bd_some', lw_eq, dead_0]
  · have ne : ¬ nI s = 2 := by rw [n2, neq (by omega) (by omega)]; exact h2s
    refine Or.inr ⟨?_, wM.1 0 21, ?_⟩
    · simp only [fX8_passNumber, k1, ne, if_false]
    · simp only [fX12_wantNumber, gn, if_false, m1, ne, lw_eq, dead_0, if_true]
end
