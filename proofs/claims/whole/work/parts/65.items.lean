/-! 65: rows of a text: a job, a law -/
def rw5 (k s q b f : Nat) (i : Nat) : Nat := if i = 0 then k else if i = 1 then s else if i = 2 then q else if i = 3 then b else f
def jRF (F : Nat → Nat → Nat) : Nat → Nat → Nat := fun i x => jR (F 0 x) (F 1 x) (F 2 x) (F 3 x) (F 4 x) i
def JSt (m : Nat) (F : Nat → Nat → Nat) (wC wM : AW) : Prop := m ≤ 6 ∧ CJo 39 m (jRF F) wC ∧ wM.1 0 25 = nI m ∧ (∀ x, x < m → ∀ i, i < 5 → wM.1 10 (5 * x + i) = nI (F i x)) ∧ ∀ x, x < m → F 0 x ≤ 5 ∧ 1 ≤ F 1 x ∧ F 1 x ≤ 9 ∧ F 2 x ≤ 1 ∧ F 3 x ≤ 60 ∧ F 4 x ≤ 99
def TCj (o k : Nat) : Bool := TCf o k || (decide (39 ≤ o) && decide (o ≤ 44))
def TMj (o k : Nat) : Bool := TMf o k || (o == 0 && k == 25) || o == 10
def Fl (c : Nat) (wC wM : AW) : Prop := ∃ p, p ≤ c ∧ wC.1 37 5 = nI p ∧ wM.1 0 18 = nI p ∧ wM.1 0 22 = 0
theorem TCf_TCj {o k : Nat} (q : TCj o k = false) : TCf o k = false := by simp only [TCj, Bool.or_eq_false_iff] at q; exact q.1
theorem TMf_TMj {o k : Nat} (q : TMj o k = false) : TMf o k = false := by simp only [TMj, Bool.or_eq_false_iff] at q; exact q.1.1
section
variable {c : Nat} {Y : Nat → Nat} {N : Nat} {s p e : Nat} {wC wM : AW}
theorem LTk.fl (h : LTk Y c s p e wC wM) : Fl c wC (setI wM 0 22 0) := ⟨p, h.le.2.2.2, h.2.2.1.2.1, by simp [setI1, h.2.2.2.1.2.1], dead_0⟩
theorem F22 : Fm TMf wM (setI wM 0 22 0) := Fm.set (by simp [TMf])
theorem dead_76 {a b d : Int32} {w : AW} (h : w.1 0 22 = 0) : bX12_wantJob_76 N a b d w = some w := by
  simp only [bX12_wantJob_76, dead_word h, bd_some', dead_num h, bd2_some', dead_end h, h, if_true]
theorem JSt.fr {m : Nat} {F : Nat → Nat → Nat} {wC' wM' : AW} (h : JSt m F wC wM) (f : Fr TCf wC wC') (f' : Fm TMf wM wM') : JSt m F wC' wM' := by
  obtain ⟨h1, h2, h3, h4, h5⟩ := h
  exact ⟨h1, h2.fr f (fun i hi k => by simp [TCf]; omega), by rw [f'.at' _ rfl]; exact h3, fun x hx i hi => by rw [f'.at' _ rfl]; exact h4 x hx i hi, h5⟩
/-- what came of a row -/
def Out (Y : Nat → Nat) (c e : Nat) (P : AW → AW → Prop) (wC wM : AW) (rc : Option (Int32 × AW)) (rm : Option AW) : Prop :=
  (∃ wC' wM', rc = some (1, wC') ∧ rm = some wM' ∧ P wC' wM' ∧ Fr TCj wC wC' ∧ Fm TMj wM wM' ∧ ∃ s' p' e', LTk Y c s' p' e' wC' wM' ∧ e ≤ p') ∨
  (∃ wC' wM', rc = some (0, wC') ∧ rm = some wM' ∧ Fl c wC' wM' ∧ Fr TCj wC wC' ∧ Fm TMj wM wM')
theorem Out.of {P : AW → AW → Prop} {wC1 wM1 : AW} {e1 : Nat} {rc : Option (Int32 × AW)} {rm : Option AW} (f : Fr TCj wC wC1) (f' : Fm TMj wM wM1) (he : e ≤ e1) (h : Out Y c e1 P wC1 wM1 rc rm) : Out Y c e P wC wM rc rm := by
  rcases h with ⟨wC', wM', a1, a2, a3, a4, a5, s', p', e', a6, a7⟩ | ⟨wC', wM', a1, a2, a3, a4, a5⟩
  · exact Or.inl ⟨wC', wM', a1, a2, a3, f.tr a4, f'.tr a5, s', p', e', a6, by omega⟩
  · exact Or.inr ⟨wC', wM', a1, a2, a3, f.tr a4, f'.tr a5⟩
theorem Out.no {P : AW → AW → Prop} {rc : Option (Int32 × AW)} {rm : Option AW} (h : LTk Y c s p e wC wM) (h1 : rc = some (0, wC)) (h2 : rm = some (setI wM 0 22 0)) : Out Y c e P wC wM rc rm :=
  Or.inr ⟨wC, setI wM 0 22 0, h1, h2, h.fl, Fr.rf, F22.wd (fun o k q => TMf_TMj q)⟩
theorem job_70 {m : Nat} {F : Nat → Nat → Nat} (h : LTk Y c s p e wC wM) (hY : ∀ i, Y i < 256) (hc : c ≤ 200) (hN : 300 < N) (hj : JSt m F wC wM) (hm : m < 6) {k r q : Nat} (hk : k ≤ 5) (hr : 1 ≤ r) (hr9 : r ≤ 9) (hq : q ≤ 1) :
    Out Y c e (fun wC' wM' => ∃ F', JSt (m + 1) F' wC' wM') wC wM (bX8_readJob_70 N (nI k) (nI r) (nI q) wC) (bX12_wantJob_76 N (nI k) (nI r) (nI q) wM) := by
  rcases pass_name h hY hc hN (i := 10) (k := 79) (by omega) (by decide) with ⟨c1, m1, a1, b1, f1, g1, s1, p1, e1, h1, l1⟩ | ⟨a1, b1⟩
  · have j1 := hj.fr f1 g1
    refine Out.of (f1.wd (fun o k q => TCf_TCj q)) (g1.wd (fun o k q => TMf_TMj q)) (show e ≤ e1 by have := h1.le; omega) ?_
    rcases pass_num h1 hY hc hN (lo := 0) (hi := 60) (by omega) (by omega) with ⟨v, c2, m2, v1, v2, a2, v3, b2, f2, g2, s2, p2, e2, h2, l2⟩ | ⟨a2, r2, b2⟩
    · have j2 := j1.fr f2 g2
      refine Out.of (f2.wd (fun o k q => TCf_TCj q)) (g2.wd (fun o k q => TMf_TMj q)) (show e1 ≤ e2 by have := h2.le; omega) ?_
      rcases pass_name h2 hY hc hN (i := 11) (k := 4797) (by omega) (by decide) with ⟨c3, m3, a3, b3, f3, g3, s3, p3, e3, h3, l3⟩ | ⟨a3, b3⟩
      · have j3 := j2.fr f3 g3
        refine Out.of (f3.wd (fun o k q => TCf_TCj q)) (g3.wd (fun o k q => TMf_TMj q)) (show e2 ≤ e3 by have := h3.le; omega) ?_
        rcases pass_num h3 hY hc hN (lo := 0) (hi := 99) (by omega) (by omega) with ⟨u, c4, m4, u1, u2, a4, u3, b4, f4, g4, s4, p4, e4, h4, l4⟩ | ⟨a4, r4, b4⟩
        · have j4 := j3.fr f4 g4
          refine Out.of (f4.wd (fun o k q => TCf_TCj q)) (g4.wd (fun o k q => TMf_TMj q)) (show e3 ≤ e4 by have := h4.le; omega) ?_
          rcases pass_stop h4 hY hc hN with ⟨c5, m5, a5, b5, f5, g5, s5, p5, e5, h5, l5⟩ | ⟨a5, b5⟩
          · obtain ⟨j51, j52, j53, j54, j55⟩ := j4.fr f5 g5
            obtain ⟨c6, a6, f6, j6⟩ := add_ev (k := k) (s := r) (c := q) (b := v) (p := u) j52 hm hk hr9
            have gn := good_ne h5.2.2.2.2.1
            have FM : Fm (fun o k => o == 10 || (o == 0 && k == 25)) m5 (setI (setI (setI (setI (setI (setI m5 10 (5 * m) (nI k)) 10 (5 * m + 1) (nI r)) 10 (5 * m + 2) (nI q)) 10 (5 * m + 3) (nI v)) 10 (5 * m + 4) (nI u)) 0 25 (nI (m + 1))) :=
              (((((Fm.set (by simp)).tr (Fm.set (by simp))).tr (Fm.set (by simp))).tr (Fm.set (by simp))).tr (Fm.set (by simp))).tr (Fm.set (by simp))
            generalize hw6 : setI (setI (setI (setI (setI (setI m5 10 (5 * m) (nI k)) 10 (5 * m + 1) (nI r)) 10 (5 * m + 2) (nI q)) 10 (5 * m + 3) (nI v)) 10 (5 * m + 4) (nI u)) 0 25 (nI (m + 1)) = m6 at FM
            refine Or.inl ⟨c6, m6, ?_, ?_, ⟨upJ F m (rw5 k r q v u), by omega, ?_, by rw [← hw6]; simp [setI1], fun x hx i hi => ?_, fun x hx => ?_⟩, ?_, ?_, s5, p5, e5, ⟨h5.1.fr f6 rfl (fun k => rfl), h5.2.1.fm FM rfl (fun k => rfl), ⟨?_, ?_, ?_⟩, ⟨?_, ?_, ?_, ?_, ?_⟩, ?_, h5.2.2.2.2.2⟩, l5⟩
            · have e0 : ∀ x : Int32, nI 0 = 0 := fun _ => rfl
              have a2' : fX8_passNumber N 0 60 c1 = some (1, c2) := a2
              have a4' : fX8_passNumber N 0 99 c3 = some (1, c4) := a4
              simp only [bX8_readJob_70, a1, bd2_some', on0, if_false, a2', a3, a4', a5, v3, u3, a6, bd_some']
            · have b2' : fX12_wantNumber N 0 60 m1 = some (nI v, m2) := b2
              have b4' : fX12_wantNumber N 0 99 m3 = some (nI u, m4) := b4
              have h5m : (5 : Int32) * nI m = nI (5 * m) := by rw [n5, nmul]
              have q25 : ∀ (w : AW) (j : Nat) (x : Int32), (setI w 10 j x).1 0 25 = w.1 0 25 := fun w j x => by simp [setI1]
              have p1' : ∀ j, nI (5 * m) + nI j = nI (5 * m + j) := fun j => nadd _ _
              simp only [bX12_wantJob_76, b1, bd_some', b2', bd2_some', b3, b4', b5, gn, if_false, j53, h5m]
              simp (disch := omega) only [n1, n2, n3, n4, p1', gd_n, ntn, lw_eq, q25, j53, nadd]
              have hq01 : q = 0 ∨ q = 1 := by omega
              rcases hq01 with rfl | rfl
              · rw [if_pos (show nI 0 = 0 from rfl), ← hw6]; rfl
              · rw [if_neg (show ¬ nI 1 = 0 by decide), ← hw6]
            · have : jRF (upJ F m (rw5 k r q v u)) = upJ (jRF F) m (jR k r q v u) := by
                funext i x
                unfold jRF upJ
                by_cases hx : x = m
                · simp only [hx, if_true, rw5, Nat.one_ne_zero, if_false, Nat.reduceEqDiff]
                · simp only [hx, if_false]
              rw [this]; exact j6
            · by_cases hq : x = m
              · subst hq
                rw [upJ_at]
                have : i = 0 ∨ i = 1 ∨ i = 2 ∨ i = 3 ∨ i = 4 := by omega
                rcases this with rfl | rfl | rfl | rfl | rfl <;> (rw [← hw6]; simp [setI1, rw5])
              · rw [upJ_lt (show x < m by omega)]
                have : ∀ j, j < 5 → ¬ (5 * x + i = 5 * m + j) := fun j hj => by omega
                have k0 := this 0 (by omega)
                have k1 := this 1 (by omega)
                have k2 := this 2 (by omega)
                have k3 := this 3 (by omega)
                have k4 := this 4 (by omega)
                rw [← hw6]
                simp only [setI1, show ¬ (10 = 0) by omega, false_and, if_false, k0, k1, k2, k3, k4, and_false, Nat.add_zero] at k0 ⊢
                rw [if_neg (fun q => k0 q.2)]
                exact j54 x (by omega) i hi
            · by_cases hq2 : x = m
              · subst hq2; simp only [upJ_at, rw5, if_true, Nat.one_ne_zero, if_false, Nat.reduceEqDiff]; omega
              · simp only [upJ_lt (show x < m by omega)]; exact j55 x (by omega)
            · exact (f5.wd (fun o k q => TCf_TCj q)).tr (f6.wd (fun o k q => by simp [TCj] at q ⊢; omega))
            · exact (g5.wd (fun o k q => TMf_TMj q)).tr (FM.wd (fun o k q => by simp [TMj] at q ⊢; omega))
            · rw [f6.at' _ rfl]; exact h5.2.2.1.1
            · rw [f6.at' _ rfl]; exact h5.2.2.1.2.1
            · rw [f6.at' _ rfl]; exact h5.2.2.1.2.2
            · rw [FM.at' _ rfl]; exact h5.2.2.2.1.1
            · rw [FM.at' _ rfl]; exact h5.2.2.2.1.2.1
            · rw [FM.at' _ rfl]; exact h5.2.2.2.1.2.2.1
            · rw [← hw6]; exact h5.2.2.2.1.2.2.2.1
            · rw [FM.at' _ rfl]; exact h5.2.2.2.1.2.2.2.2
            · rw [FM.at' _ rfl]; exact h5.2.2.2.2.1
          · have a2' : fX8_passNumber N 0 60 c1 = some (1, c2) := a2
            have a4' : fX8_passNumber N 0 99 c3 = some (1, c4) := a4
            have b2' : fX12_wantNumber N 0 60 m1 = some (nI v, m2) := b2
            have b4' : fX12_wantNumber N 0 99 m3 = some (nI u, m4) := b4
            refine Out.no h4 ?_ ?_
            · simp only [bX8_readJob_70, a1, bd2_some', on0, if_false, a2', a3, a4', a5, if_true]
            · simp only [bX12_wantJob_76, b1, bd_some', b2', bd2_some', b3, b4', b5, dead_0, if_true]
        · have a2' : fX8_passNumber N 0 60 c1 = some (1, c2) := a2
          have a4' : fX8_passNumber N 0 99 c3 = some (0, c3) := a4
          have b2' : fX12_wantNumber N 0 60 m1 = some (nI v, m2) := b2
          have b4' : fX12_wantNumber N 0 99 m3 = some (r4, setI m3 0 22 0) := b4
          refine Out.no h3 ?_ ?_
          · simp only [bX8_readJob_70, a1, bd2_some', on0, if_false, a2', a3, a4', if_true]
          · simp only [bX12_wantJob_76, b1, bd_some', b2', bd2_some', b3, b4', dead_end dead_0, dead_0, if_true]
      · have a2' : fX8_passNumber N 0 60 c1 = some (1, c2) := a2
        have b2' : fX12_wantNumber N 0 60 m1 = some (nI v, m2) := b2
        refine Out.no h2 ?_ ?_
        · simp only [bX8_readJob_70, a1, bd2_some', on0, if_false, a2', a3, if_true]
        · simp only [bX12_wantJob_76, b1, bd_some', b2', bd2_some', b3, dead_num dead_0, dead_end dead_0, dead_0, if_true]
    · have a2' : fX8_passNumber N 0 60 c1 = some (0, c1) := a2
      have b2' : fX12_wantNumber N 0 60 m1 = some (r2, setI m1 0 22 0) := b2
      refine Out.no h1 ?_ ?_
      · simp only [bX8_readJob_70, a1, bd2_some', on0, if_false, a2', if_true]
      · simp only [bX12_wantJob_76, b1, bd_some', b2', bd2_some', dead_word dead_0, dead_num dead_0, dead_end dead_0, dead_0, if_true]
  · refine Out.no h ?_ ?_
    · simp only [bX8_readJob_70, a1, bd2_some', if_true]
    · simp only [bX12_wantJob_76, b1, bd_some', bd2_some', dead_word dead_0, dead_num dead_0, dead_end dead_0, dead_0, if_true]
end
