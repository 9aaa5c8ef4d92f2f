/-! 75: the second half of the law -/
theorem kp_fr {T : Nat → Nat → Bool} {w w1 : AW} (f : Fr T w w1) (h : ∀ k, T 80 k = false) : kp w w1 = w1 := by
  have h1 : (kp w w1).1 = w1.1 := funext fun o => funext fun k => by
    show (if o = 80 then w.1 80 k else w1.1 o k) = w1.1 o k
    split
    · next q => subst q; exact (f.at' k (h k)).symm
    · rfl
  have h2 : (kp w w1).2 = w1.2 := funext fun o => funext fun k => by
    show (if o = 80 then w.2 80 k else w1.2 o k) = w1.2 o k
    split
    · next q => rw [q, f.2]
    · rfl
  exact Prod.ext h1 h2
theorem dy_more {S S' : Nat → Nat} {d0 u : Nat} (h0 : d0 ≤ 60) (h : ∀ d, 60 < d → 1 ≤ S d) (h' : ∀ d, 60 < d → 1 ≤ S' d) (hle : ∀ d, S d ≤ S' d) (h1 : 1 ≤ u) (h2 : u ≤ 126) : dyS S' d0 u ≤ dyS S d0 u := by
  obtain ⟨a1, a2, a3⟩ := dyS_is h0 h h1 h2
  obtain ⟨b1, b2, b3⟩ := dyS_is h0 h' h1 h2
  have hc : ∀ k, cmS S d0 k ≤ cmS S' d0 k := by
    intro k
    induction k with
    | zero => exact Nat.le_refl _
    | succ k ih => simp only [cmS]; have := hle (d0 + k); omega
  by_cases hq : dyS S' d0 u ≤ dyS S d0 u
  · exact hq
  · have e1 := cmS_mono (S := S) (d := d0) (i := dyS S d0 u - d0 + 1) (j := dyS S' d0 u - d0) (by omega)
    have e2 := hc (dyS S' d0 u - d0)
    omega
section
variable {S : SC} {n : Nat} {J : Nat → Nat → Nat} {L lost nig : Nat → Nat} {ch : List Nat} {w : AW}
theorem LwS.s80 {w' : AW} (h : LwS n J L lost nig ch w) (f : Fr (fun o _ => o == 80) w w') : LwS n J L lost nig ch w' := by
  obtain ⟨a1, a2, a3, a4, a5, a6, z, a7⟩ := h
  exact ⟨a1, a2.fr f (fun i hi k => by simp; omega), fun i hi => by rw [f.at' _ rfl]; exact a3 i hi, by rw [f.at' _ rfl]; exact a4, by rw [f.at' _ rfl]; exact a5, a6, z, a7.fr f (fun i hi k => by simp; omega)⟩
theorem KB.s80 {w' : AW} (h : KB n J L lost nig 0 0 0 0 ch w) (f : Fr (fun o _ => o == 80) w w') : KB n J L lost nig 0 0 0 0 ch w' := h.fr f rfl (fun o k a b => by simp; omega) (fun o k a b => by simp; omega)
theorem zr_fr {w : AW} : Fr (fun o _ => o == 80) w (zr w) := ⟨fun o k ho => by
  have : ¬ o = 80 := by simpa using ho
  show (if o = 80 then 0 else w.1 o k) = w.1 o k
  rw [if_neg this], rfl⟩
theorem ends_ev (h : LwS n J L lost nig ch w) (hk : KB n J L lost nig 0 0 0 0 ch w) (r : Int32) :
    ∃ w', wh (lbL_law2_881_1 N0 S (nI n) r) N0 (0, w) = some w' ∧ LwS n J L lost nig ch w' ∧ KB n J L lost nig 0 0 0 0 ch w' ∧ ∀ j, j < n → w'.1 80 j = nI (eJ (dyS (sOf L lost nig) 0) (L 1) 0 0 J j ch) := by
  have hN := N0_big
  have hn := h.1.1
  have key := wh_cnt (body := lbL_law2_881_1 N0 S (nI n) r) (n := n)
    (I := fun i s => ∃ w2, s = (nI i, w2) ∧ LwS n J L lost nig ch w2 ∧ KB n J L lost nig 0 0 0 0 ch w2 ∧ ∀ j, j < i → w2.1 80 j = nI (eJ (dyS (sOf L lost nig) 0) (L 1) 0 0 J j ch))
    (Q := fun e => LwS n J L lost nig ch e ∧ KB n J L lost nig 0 0 0 0 ch e ∧ ∀ j, j < n → e.1 80 j = nI (eJ (dyS (sOf L lost nig) 0) (L 1) 0 0 J j ch))
    (fun i s hi hI => by
      obtain ⟨w2, rfl, l2, k2, r2⟩ := hI
      obtain ⟨w3, e1, e2, e3⟩ := c_ends l2.1 l2.2.1 hi
      have f80 : Fr (fun o _ => o == 80) w3 (setI w3 80 i (nI (eJ (dyS (sOf L lost nig) 0) (L 1) 0 0 J i ch))) := Fr.set (by simp)
      refine ⟨(nI (i + 1), setI w3 80 i (nI (eJ (dyS (sOf L lost nig) 0) (L 1) 0 0 J i ch))), ?_, _, rfl, (l2.tb e2 e3).s80 f80, (k2.tb e2).s80 f80, fun j hj => ?_⟩
      · simp only [lbL_law2_881_1]
        rw [if_neg (by rw [nle (by omega) (by omega)]; omega), e1, bd2_some', kp_fr e2 (fun k => TB_hi (by omega)), lw_eq, gd_n (by omega) (by omega), ntn (by omega), lw_eq, n1, nadd]
      · by_cases hq : j = i
        · subst hq; simp [setI1]
        · simp only [setI1, hq, and_false, if_false]
          rw [e2.at' _ (TB_hi (by omega))]
          exact r2 j (by omega))
    (fun s hI => by
      obtain ⟨w2, rfl, l2, k2, r2⟩ := hI
      exact ⟨w2, by simp only [lbL_law2_881_1, Int32.le_refl, if_true], l2, k2, r2⟩) (N := N0) (i := 0) (s := (0, w)) ⟨w, rfl, h, hk, fun j hj => by omega⟩ (by omega) (by omega)
  obtain ⟨e, e1, q⟩ := key
  exact ⟨e, e1, q⟩
theorem soon_ev {nig' : Nat → Nat} {E : Nat → Nat} (ok : okB n J L lost nig' 0 0 0 ch) (hc : CBd 1 n J L lost nig' 0 0 0 0 ch w) (hR : ∀ j, j < n → w.1 80 j = nI (E j)) (hE : ∀ j, j < n → eJ (dyS (sOf L lost nig') 0) (L 1) 0 0 J j ch ≤ E j) (hE2 : ∀ j, j < n → E j ≤ 1000) (r : Int32) :
    ∃ w', wh (lbL_law2_928_2 N0 S (nI n) r) N0 (0, w) = some (.inl w') ∧ Fr TB w w' ∧ CBd 1 n J L lost nig' 0 0 0 0 ch w' := by
  have hN := N0_big
  have hn := ok.1
  have key := wh_cnt (body := lbL_law2_928_2 N0 S (nI n) r) (n := n)
    (I := fun i s => ∃ w2, s = (nI i, w2) ∧ Fr TB w w2 ∧ CBd 1 n J L lost nig' 0 0 0 0 ch w2)
    (Q := fun e => ∃ w2, e = .inl w2 ∧ Fr TB w w2 ∧ CBd 1 n J L lost nig' 0 0 0 0 ch w2)
    (fun i s hi hI => by
      obtain ⟨w2, rfl, f2, c2⟩ := hI
      obtain ⟨w3, e1, e2, e3⟩ := c_ends ok c2 hi
      have h1 := hE i hi
      have h2 := hE2 i hi
      refine ⟨(nI (i + 1), w3), ?_, w3, rfl, f2.tr e2, e3⟩
      simp only [lbL_law2_928_2]
      rw [if_neg (by rw [nle (by omega) (by omega)]; omega), e1, bd2_some', kp_fr e2 (fun k => TB_hi (by omega)), lw_eq, gd_n (by omega) (by omega), ntn (by omega), (f2.tr e2).at' _ (TB_hi (by omega)), hR i hi, if_pos (by rw [nle (by omega) (by omega)]; exact h1), n1, nadd])
    (fun s hI => by
      obtain ⟨w2, rfl, f2, c2⟩ := hI
      exact ⟨.inl w2, by simp only [lbL_law2_928_2, Int32.le_refl, if_true], w2, rfl, f2, c2⟩) (N := N0) (i := 0) (s := (0, w)) ⟨w, rfl, Fr.rf, hc⟩ (by omega) (by omega)
  obtain ⟨e, e1, w2, rfl, q⟩ := key
  exact ⟨w2, e1, q⟩
/-- days gone, e jobs of them ended -/
def GoS (n : Nat) (L lost nig : Nat → Nat) (i : Nat) (P : AW → Prop) (s : Int32 × Int32 × AW) : Prop :=
  ∃ w e J' pc ps t p, s = (nI e, nI i, w) ∧ e ≤ n ∧ okB (n - e) J' L lost nig i pc ps p ∧ CBd 1 (n - e) J' L lost nig i pc ps (zI t) p w ∧ P w
theorem goes_ev {ds : Nat} (h : LwS n J L lost nig ch w) (hk : KB n J L lost nig 0 0 0 0 ch w) (hd : ds ≤ 5) :
    ∃ w' e J' pc ps t p, wh (lbL_law2_1007_3 N0 S (nI n) (nI ds)) N0 (0, 0, w) = some (.inl (nI e, w')) ∧ e ≤ n ∧ CBd 1 (n - e) J' L lost nig ds pc ps (zI t) p w' ∧ KB n J L lost nig 0 0 0 0 ch w' := by
  have hN := N0_big
  have hn := h.1.1
  have key := wh_cnt (body := lbL_law2_1007_3 N0 S (nI n) (nI ds)) (n := ds)
    (I := fun i s => GoS n L lost nig i (KB n J L lost nig 0 0 0 0 ch) s)
    (Q := fun q => ∃ w' e J' pc ps t p, q = .inl (nI e, w') ∧ e ≤ n ∧ CBd 1 (n - e) J' L lost nig ds pc ps (zI t) p w' ∧ KB n J L lost nig 0 0 0 0 ch w')
    (fun i s hi hI => by
      obtain ⟨w1, e, J1, pc, ps, t, p, rfl, he, ok1, c1, k1⟩ := hI
      obtain ⟨w2, a1, a2, a3⟩ := c_worth ok1 c1
      have k2 := k1.tb a2
      have m2 := c_many a3
      have t2 := c_till a3
      obtain ⟨w3, e', J3, pc3, ps3, t3, p3, b1, b2, b3, b4, b5, b6⟩ := c_goes ok1 a3 (by omega)
      have k3 := k2.t1 b3
      have m3 := c_many b5
      have t3' := c_till b5
      obtain ⟨w4, d1, d2, d3⟩ := c_worth b4 b5
      refine ⟨(nI (e + e'), nI (i + 1), w4), ?_, w4, e + e', J3, pc3, ps3, t3, p3, rfl, by omega, by rw [← Nat.sub_sub]; exact b4, by rw [← Nat.sub_sub]; exact d3, k3.tb d2⟩
      simp only [lbL_law2_1007_3]
      rw [if_neg (by rw [nle (by omega) (by omega)]; omega), a1, bd2_some', kp_fr a2 (fun k => TB_hi (by omega)), lw_eq, m2, bd_some', t2, bd_some', b1, bd2_some', kp_fr b3 (fun k => T1_no (by omega)), lw_eq]
      rw [if_neg (by rw [n0, nlt (by omega) (by omega)]; omega), m3, bd_some', nsub b2, if_pos rfl, t3', bd_some', d1, bd2_some', kp_fr d2 (fun k => TB_hi (by omega)), lw_eq, zadd, zadd, b6, if_pos rfl, nadd, n1, nadd])
    (fun s hI => by
      obtain ⟨w1, e, J1, pc, ps, t, p, rfl, he, ok1, c1, k1⟩ := hI
      exact ⟨.inl (nI e, w1), by simp only [lbL_law2_1007_3, Int32.le_refl, if_true], w1, e, J1, pc, ps, t, p, rfl, he, c1, k1⟩) (N := N0) (i := 0) (s := (0, 0, w)) ⟨w, 0, J, 0, 0, 0, ch, rfl, Nat.zero_le _, h.1, h.2.1, hk⟩ (by omega) (by omega)
  obtain ⟨q, e1, w', e, J', pc, ps, t, p, rfl, e2, e3, e4⟩ := key
  exact ⟨w', e, J', pc, ps, t, p, e1, e2, e3, e4⟩
theorem law2_ev (hS : S.1 ≤ 260) (hn5 : n ≤ 5) : FinK n J L lost nig ch (fun x6 x24 w => fL_law2 N0 S x6 x24 (zr w)) := by
  intro w h hk
  obtain ⟨hn, bj, b, hpp⟩ := id h.1
  obtain ⟨hpl, hpm, hnd, hall⟩ := perm_facts hpp
  have l0 := h.s80 zr_fr
  have k0 := hk.s80 zr_fr
  show ∃ wZ, fL_law2 N0 S (nI n) (lteM (fun j => eJ (dyS (sOf L lost nig) 0) (L 1) 0 0 J j ch) J n) (zr w) = some (1, wZ)
  generalize zr w = w0 at l0 k0 ⊢
  clear h hk
  obtain ⟨w1, a1, l1, k1, r1⟩ := ends_ev (S := S) l0 k0 (lteM (fun j => eJ (dyS (sOf L lost nig) 0) (L 1) 0 0 J j ch) J n)
  have hg : nig 0 ≤ 1 := l1.2.2.2.2.2.1
  have h79 : w1.1 79 0 = nI (nig 0) := l1.2.2.2.2.1
  have hp1 : nI (nig 0) + 1 = nI (nig 0 + 1) := by rw [n1, nadd]
  -- a night more
  obtain ⟨w2, b1, b2, b3, b4⟩ := c_night l1.1 l1.2.1 (d := 0) (m := nig 0 + 1) (by omega) (by omega)
  have b1' : fX11_night 0 (nI (nig 0 + 1)) w1 = some (nI (nig 0), w2) := b1
  obtain ⟨nig', hnig⟩ : ∃ nig' : Nat → Nat, (fun i => if i = 0 then nig 0 + 1 else nig i) = nig' := ⟨_, rfl⟩
  rw [hnig] at b3 b4
  have hn0 : nig' 0 = nig 0 + 1 := by rw [← hnig]; rfl
  have hn1 : ∀ i, i ≠ 0 → nig' i = nig i := fun i hi => by rw [← hnig]; exact if_neg hi
  have h79b : w2.1 79 0 = nI (nig 0) := by rw [b2.at' _ (T1_no (by omega))]; exact h79
  have hle : ∀ d, sOf L lost nig d ≤ sOf L lost nig' d := fun d => by
    unfold sOf
    split
    · by_cases hd : d = 0
      · subst hd; rw [hn0]; omega
      · rw [hn1 d hd]; exact Nat.le_refl _
    · exact Nat.le_refl _
  have hul : ∀ i, i ≤ n → uN (L 1) 0 0 J (J 1) (lf ch) i ≤ 21 * i := uN_le (fun i hi => by have := (bj _ (hpm _ (getD_mem (l := ch) (i := i) (by omega)))).2.2.1; show J 1 (lf ch i) ≤ 18; exact Nat.le_trans this (by omega)) b.2.2.1 (by omega)
  have hu : ∀ j, j < n → 1 ≤ uN (L 1) 0 0 J (J 1) (lf ch) (ch.idxOf j + 1) ∧ uN (L 1) 0 0 J (J 1) (lf ch) (ch.idxOf j + 1) ≤ 126 := fun j hj => by
    obtain ⟨i1, i2⟩ := lf_idxOf (hall j hj)
    have h1 := hul (ch.idxOf j + 1) (by omega)
    exact ⟨uN_pos (by rw [i2]; exact (bj j hj).2.1), by omega⟩
  have hE : ∀ j, j < n → eJ (dyS (sOf L lost nig') 0) (L 1) 0 0 J j ch ≤ eJ (dyS (sOf L lost nig) 0) (L 1) 0 0 J j ch := fun j hj => dy_more (by omega) (sOf_pos b.1) (sOf_pos b.1) hle (hu j hj).1 (hu j hj).2
  have hE2 : ∀ j, j < n → eJ (dyS (sOf L lost nig) 0) (L 1) 0 0 J j ch ≤ 1000 := fun j hj => Nat.le_trans (dyS_le (by omega) (sOf_pos b.1) (hu j hj).1 (hu j hj).2) (by omega)
  obtain ⟨w3, d1, d2, d3⟩ := soon_ev (S := S) b3 b4 (fun j hj => by rw [b2.at' _ (T1_no (by omega))]; exact r1 j hj) hE hE2 (lteM (fun j => eJ (dyS (sOf L lost nig) 0) (L 1) 0 0 J j ch) J n)
  obtain ⟨w4, e1, e2, e3⟩ := c_late b3 d3
  have h79d : w4.1 79 0 = nI (nig 0) := by rw [e2.at' _ (TB_hi (by omega)), d2.at' _ (TB_hi (by omega))]; exact h79b
  -- and back
  obtain ⟨w5, f1, f2, f3, f4⟩ := c_night b3 e3 (d := 0) (m := nig 0) (by omega) (by omega)
  have f1' : fX11_night 0 (nI (nig 0)) w4 = some (nI (nig 0 + 1), w5) := by rw [← hn0]; exact f1
  have hnn : (fun i => if i = 0 then nig 0 else nig' i) = nig := by
    funext i
    by_cases hi : i = 0
    · subst hi; rfl
    · show (if i = 0 then nig 0 else nig' i) = nig i
      rw [if_neg hi, hn1 i hi]
  rw [hnn] at f3 f4
  have FF : Fr (fun o k => T1 o k || TB o k) w1 w5 := (b2.wd (fun o k q => by simp only [Bool.or_eq_false_iff] at q; exact q.1)).tr (((d2.tr e2).wd (fun o k q => by simp only [Bool.or_eq_false_iff] at q; exact q.2)).tr (f2.wd (fun o k q => by simp only [Bool.or_eq_false_iff] at q; exact q.1)))
  have l5 : LwS n J L lost nig ch w5 := l1.mv FF f3 f4 (fun o k a b => by rw [T1_no (by omega), TB_hi (by omega)]; rfl) (fun o k a => by rw [T1_no (by omega), TB_hi (by omega)]; rfl)
  have k5 := (((k1.t1 b2).tb d2).tb e2).t1 f2
  have h79e : w5.1 79 0 = nI (nig 0) := l5.2.2.2.2.1
  -- the days
  obtain ⟨ds, x1, x2⟩ := mod_ev (atV S 10) (k := 5) (by omega) (by omega)
  rw [show nI 5 = (5 : Int32) from rfl] at x2
  have ha : ∀ w, fL_at S 10 w = some (atV S 10) := fun w => at_ev hS (k := 10) (by omega) w
  obtain ⟨w6, e, J', pc, ps, t, p, g1, ge, g3, g4⟩ := goes_ev (S := S) l5 k5 (ds := ds) (by omega)
  obtain ⟨w7, i1, i2, i3, -⟩ := c_again hn (by omega) g4
  refine ⟨w7, ?_⟩
  rw [fL_law2, a1, bd_some', show (0 : Int32).toNatClampNeg = 0 from rfl, h79, hp1, b1', bd2_some', kp_fr b2 (fun k => T1_no (by omega)), lw_eq, h79b, if_pos rfl, d1, bd_some', se_l, e1, bd2_some', kp_fr e2 (fun k => TB_hi (by omega)), lw_eq]
  rw [if_pos (late_less hn hE), h79d, f1', bd2_some', kp_fr f2 (fun k => T1_no (by omega)), lw_eq, h79e, hp1, if_pos rfl, ha, bd_some', x2, bd_some', g1, bd_some', se_l]
  dsimp only
  rw [c_press g3, bd_some', if_pos rfl, c_many g3, bd_some', nsub ge, if_pos rfl, i1, bd2_some', kp_fr i2 (fun k => by simp [T3]), lw_eq, if_pos rfl, c_till i3, bd_some', if_pos rfl]
end
