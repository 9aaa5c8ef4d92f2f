/-! 22: the days of slots -/
def sOf (L lost nig : Nat → Nat) (d : Nat) : Nat := if d ≤ 60 then (L 0 - lost d) + nig d else L 0
def sLg (S : Nat → Nat) (d0 lg d : Nat) : Nat := S d + (if d - d0 < lg then 1 else 0)
def dyF (S : Nat → Nat) : Nat → Nat → Nat → Nat
  | 0, d, _ => d
  | f + 1, d, u => if u ≤ S d then d else dyF S f (d + 1) (u - S d)
theorem cmS_shift {S : Nat → Nat} {d : Nat} : ∀ k, cmS S d (k + 1) = S d + cmS S (d + 1) k := by
  intro k
  induction k with
  | zero => simp [cmS]
  | succ k ih =>
    rw [cmS, ih, cmS, show d + (k + 1) = d + 1 + k by omega]
    omega
theorem dyF_is {S : Nat → Nat} : ∀ {f d u : Nat}, 1 ≤ u → u ≤ cmS S d f → isD S d u (dyF S f d u) := by
  intro f
  induction f with
  | zero => intro d u h1 h2; simp only [cmS] at h2; omega
  | succ f ih =>
    intro d u h1 h2
    unfold dyF
    by_cases h : u ≤ S d
    · rw [if_pos h]
      refine ⟨Nat.le_refl _, ?_, ?_⟩
      · rw [Nat.sub_self]; simp only [cmS]; omega
      · rw [Nat.sub_self]; simp only [cmS, Nat.zero_add, Nat.add_zero]; exact h
    · rw [if_neg h]
      rw [cmS_shift] at h2
      obtain ⟨a, b, c⟩ := ih (d := d + 1) (u := u - S d) (by omega) (by omega)
      refine ⟨by omega, ?_, ?_⟩
      · rw [show dyF S f (d + 1) (u - S d) - d = (dyF S f (d + 1) (u - S d) - (d + 1)) + 1 by omega, cmS_shift]; omega
      · rw [show dyF S f (d + 1) (u - S d) - d = (dyF S f (d + 1) (u - S d) - (d + 1)) + 1 by omega, cmS_shift]; omega
theorem cmS_low {S : Nat → Nat} {d0 : Nat} (h0 : d0 ≤ 60) (h : ∀ d, 60 < d → 1 ≤ S d) : ∀ k, k + d0 ≤ cmS S d0 k + 61 ∨ k + d0 ≤ 61 := by
  intro k
  induction k with
  | zero => right; omega
  | succ k ih =>
    simp only [cmS]
    by_cases hk : 60 < d0 + k
    · have := h _ hk
      omega
    · omega
/-- the days of slots from a day on -/
def dyS (S : Nat → Nat) (d0 u : Nat) : Nat := dyF S 187 d0 u
theorem dyS_is {S : Nat → Nat} {d0 u : Nat} (h0 : d0 ≤ 60) (h : ∀ d, 60 < d → 1 ≤ S d) (h1 : 1 ≤ u) (h2 : u ≤ 126) : isD S d0 u (dyS S d0 u) := by
  apply dyF_is h1
  have := cmS_low (d0 := d0) h0 h 187
  omega
theorem dyS_le {S : Nat → Nat} {d0 u : Nat} (h0 : d0 ≤ 60) (h : ∀ d, 60 < d → 1 ≤ S d) (h1 : 1 ≤ u) (h2 : u ≤ 126) : dyS S d0 u ≤ 186 := by
  obtain ⟨a, b, c⟩ := dyS_is (d0 := d0) h0 h h1 h2
  have := cmS_low (d0 := d0) h0 h (dyS S d0 u - d0)
  omega
/-- what stands outside some cells is as it was -/
def Fr (T : Nat → Nat → Bool) (w w' : AW) : Prop := (∀ o k, T o k = false → w'.1 o k = w.1 o k) ∧ w'.2 = w.2
theorem Fr.rf {T : Nat → Nat → Bool} {w : AW} : Fr T w w := ⟨fun _ _ _ => rfl, rfl⟩
theorem Fr.tr {T : Nat → Nat → Bool} {w w' w'' : AW} (h : Fr T w w') (h' : Fr T w' w'') : Fr T w w'' := ⟨fun o k ho => (h'.1 o k ho).trans (h.1 o k ho), h'.2.trans h.2⟩
theorem Fr.wd {T T' : Nat → Nat → Bool} {w w' : AW} (h : Fr T w w') (ht : ∀ o k, T' o k = false → T o k = false) : Fr T' w w' := ⟨fun o k ho => h.1 o k (ht o k ho), h.2⟩
theorem Fr.at' {T : Nat → Nat → Bool} {w w' : AW} (h : Fr T w w') {o : Nat} (k : Nat) (ho : T o k = false) : w'.1 o k = w.1 o k := h.1 o k ho
theorem Fr.set {T : Nat → Nat → Bool} {w : AW} {o k : Nat} {v : Int32} (ho : T o k = true) : Fr T w (setI w o k v) := ⟨fun a j ha => by
  have : ¬ (a = o ∧ j = k) := fun h => by rw [h.1, h.2, ho] at ha; cases ha
  simp only [setI, this, if_false], rfl⟩
theorem Fr.cpy {T : Nat → Nat → Bool} {w : AW} {a sp o dp n : Nat} (ho : ∀ k, T o k = true) : Fr T w (cpyI w a sp o dp n) := ⟨fun a' j ha => by
  have : a' ≠ o := fun h => by subst h; rw [ho] at ha; cases ha
  simp [cpyI, this], rfl⟩
theorem slotsOn_ev {w : AW} {L lost nig : Nat → Nat} {b d : Nat} (hL : ∀ i, i < 4 → w.1 (b + 7) i = nI (L i)) (hl : ∀ i, i ≤ 60 → w.1 (b + 8) i = nI (lost i)) (hn : ∀ i, i ≤ 60 → w.1 (b + 9) i = nI (nig i))
    (b1 : L 0 ≤ 4) (b2 : ∀ i, i ≤ 60 → lost i ≤ 9) (b3 : ∀ i, i ≤ 60 → nig i ≤ 9) (hd : d ≤ 2000000000) : fX1_slotsOn b (nI d) w = some (nI (sOf L lost nig d)) := by
  unfold fX1_slotsOn sOf
  have h0 := hL 0 (by omega)
  by_cases h : d ≤ 60
  · have h1 := hl d h
    have h2 := hn d h
    have h3 := b2 d h
    have h4 := b3 d h
    simp (disch := omega) only [n0, n1, n2, n3, n4, n5, n6, n7, n8, n9, n10, n13, n16, n18, n20, n30, n32, n40, n48, n57, n59, n60, n64, n97, n99, n122, n126, n186, n200, n1000000, nadd, nmul, nlt, nle, neq, ntn, gd_n, lw_eq, bd_some', bd2_some', gd_true, h, if_true, if_neg (show ¬ d < 0 by omega), h0, h1, h2]
    by_cases hc : lost d < L 0
    · rw [nsub (by omega)]
      simp (disch := omega) only [n0, n1, n2, n3, n4, n5, n6, n7, n8, n9, n10, n13, n16, n18, n20, n30, n32, n40, n48, n57, n59, n60, n64, n97, n99, n122, n126, n186, n200, n1000000, nadd, nmul, nlt, nle, neq, ntn, gd_n, if_pos (show 0 < L 0 - lost d by omega)]
    · rw [zI_nI (L 0), zI_nI (lost d), zsub, if_neg (by rw [zI_nI 0, zlt (by omega) (by omega) (by omega) (by omega)]; omega), show L 0 - lost d = 0 by omega, nadd]
  · simp (disch := omega) only [n0, n1, n2, n3, n4, n5, n6, n7, n8, n9, n10, n13, n16, n18, n20, n30, n32, n40, n48, n57, n59, n60, n64, n97, n99, n122, n126, n186, n200, n1000000, nadd, nmul, nlt, nle, neq, ntn, gd_n, lw_eq, bd_some', bd2_some', gd_true, h, if_false, if_neg (show ¬ d < 0 by omega), h0]
theorem measure_in {w0 : AW} {S : Nat → Nat} {d0 used d c N : Nat} {c2 : Int32} (hN : 127 < N) (hu : used < 126) (hd : d ≤ 186) (hd0 : d0 ≤ d) (hcm : used = cmS S d0 (d - d0)) (hc : c = S d) (hc2 : c ≤ 100)
    (hE : ∀ u, 1 ≤ u → u ≤ used → ∃ e, w0.1 47 u = nI e ∧ isD S d0 u e) :
    ∃ used' w', wh (lbX3_measure_96_2 N 1 c2 (nI d) (nI c)) N (nI used, 0, w0) = some (nI used', w') ∧ Fr (fun o _ => o == 47) w0 w' ∧ used' ≤ 126 ∧ (used' < 126 → used' = used + c) ∧ (∀ u, 1 ≤ u → u ≤ used' → ∃ e, w'.1 47 u = nI e ∧ isD S d0 u e) := by
  have key := wh_inv (body := lbX3_measure_96_2 N 1 c2 (nI d) (nI c))
    (I := fun s => ∃ i w, s = (nI (used + i), nI i, w) ∧ i ≤ c ∧ used + i ≤ 126 ∧ Fr (fun o _ => o == 47) w0 w ∧ (∀ u, 1 ≤ u → u ≤ used + i → ∃ e, w.1 47 u = nI e ∧ isD S d0 u e))
    (Q := fun e => ∃ used' w', e = (nI used', w') ∧ Fr (fun o _ => o == 47) w0 w' ∧ used' ≤ 126 ∧ (used' < 126 → used' = used + c) ∧ (∀ u, 1 ≤ u → u ≤ used' → ∃ e, w'.1 47 u = nI e ∧ isD S d0 u e))
    (m := fun s => 126 - s.1.toNatClampNeg) ?_ (N := N) (s := (nI used, 0, w0)) ⟨0, w0, rfl, by omega, by omega, Fr.rf, by simpa using hE⟩ (by simp (disch := omega) only [ntn]; omega)
  · obtain ⟨e, h1, used', w', rfl, h2, h3, h4, h5⟩ := key
    exact ⟨used', w', h1, h2, h3, h4, h5⟩
  · rintro s ⟨i, w, rfl, hi, hui, hF, hEi⟩
    by_cases h1 : c ≤ i
    · right
      refine ⟨(nI (used + i), w), ?_, used + i, w, rfl, hF, hui, fun _ => by omega, hEi⟩
      simp (disch := omega) only [lbX3_measure_96_2, n0, n1, n2, n3, n4, n5, n6, n7, n8, n9, n10, n13, n16, n18, n20, n30, n32, n40, n48, n57, n59, n60, n64, n97, n99, n122, n126, n186, n200, n1000000, nadd, nmul, nlt, nle, neq, ntn, gd_n, h1, if_true]
    · by_cases h2 : 126 ≤ used + i
      · right
        refine ⟨(nI (used + i), w), ?_, used + i, w, rfl, hF, hui, fun _ => by omega, hEi⟩
        simp (disch := omega) only [lbX3_measure_96_2, n0, n1, n2, n3, n4, n5, n6, n7, n8, n9, n10, n13, n16, n18, n20, n30, n32, n40, n48, n57, n59, n60, n64, n97, n99, n122, n126, n186, n200, n1000000, nadd, nmul, nlt, nle, neq, ntn, gd_n, h1, h2, if_true, if_false]
      · left
        refine ⟨(nI (used + i + 1), nI (i + 1), setI w 47 (used + i + 1) (nI d)), ?_, ⟨i + 1, _, rfl, by omega, by omega, hF.tr (Fr.set rfl), ?_⟩, ?_⟩
        · simp (disch := omega) only [lbX3_measure_96_2, n0, n1, n2, n3, n4, n5, n6, n7, n8, n9, n10, n13, n16, n18, n20, n30, n32, n40, n48, n57, n59, n60, n64, n97, n99, n122, n126, n186, n200, n1000000, nadd, nmul, nlt, nle, neq, ntn, gd_n, lw_eq, bd_some', bd2_some', gd_true, h1, h2, if_false]
        · intro u hu1 hu2
          by_cases hu3 : u = used + i + 1
          · refine ⟨d, by simp [setI1, hu3], hd0, ?_, ?_⟩
            · omega
            · rw [cmS, show d0 + (d - d0) = d by omega]; omega
          · obtain ⟨e, he1, he2⟩ := hEi u hu1 (by omega)
            exact ⟨e, by simp [setI1, hu3, he1], he2⟩
        · simp (disch := omega) only [ntn]; omega
/-- the course in the world of the program -/
def CCo (dy : Nat → Nat) (st c0 l0 fine odds : Nat) (w : AW) : Prop := w.1 46 2 = nI fine ∧ w.1 46 3 = nI odds ∧ w.1 46 4 = nI st ∧ w.1 46 5 = nI c0 ∧ w.1 46 6 = nI l0 ∧ ∀ u, 1 ≤ u → u ≤ 126 → w.1 47 u = nI (dy u)
theorem sOf_pos {L lost nig : Nat → Nat} (h : 1 ≤ L 0) : ∀ d, 60 < d → 1 ≤ sOf L lost nig d := fun d hd => by
  unfold sOf; rw [if_neg (by omega)]; exact h
theorem sLg_pos {S : Nat → Nat} {d0 lg : Nat} (h : ∀ d, 60 < d → 1 ≤ S d) : ∀ d, 60 < d → 1 ≤ sLg S d0 lg d := fun d hd => by
  have := h d hd
  unfold sLg; omega
theorem measure_ev {w : AW} {L lost nig : Nat → Nat} {day col left lg N : Nat} (hN : 300 < N) (hL : ∀ i, i < 4 → w.1 8 i = nI (L i)) (hl : ∀ i, i ≤ 60 → w.1 9 i = nI (lost i)) (hn : ∀ i, i ≤ 60 → w.1 10 i = nI (nig i))
    (h5 : w.1 1 5 = nI day) (h6 : w.1 1 6 = nI col) (h7 : w.1 1 7 = nI left)
    (b0 : 1 ≤ L 0) (b1 : L 0 ≤ 4) (b2 : ∀ i, i ≤ 60 → lost i ≤ 9) (b3 : ∀ i, i ≤ 60 → nig i ≤ 9) (b4 : day ≤ 60) (bg : lg ≤ 9) :
    ∃ w', fX3_measure N 1 (nI lg) w = some w' ∧ Fr (fun o _ => o == 46 || o == 47) w w' ∧ CCo (dyS (sLg (sOf L lost nig) day lg) day) (L 1) col left (L 2) (L 3) w' := by
  have q2 := hL 2 (by omega)
  have q3 := hL 3 (by omega)
  have q1 := hL 1 (by omega)
  have hS := sLg_pos (d0 := day) (lg := lg) (sOf_pos (lost := lost) (nig := nig) b0)
  generalize hw1 : setI (setI (setI (setI (setI w 46 2 (nI (L 2))) 46 3 (nI (L 3))) 46 4 (nI (L 1))) 46 5 (nI col)) 46 6 (nI left) = w1
  have hF1 : Fr (fun o _ => o == 46 || o == 47) w w1 := by
    subst hw1
    exact ((((Fr.set rfl).tr (Fr.set rfl)).tr (Fr.set rfl)).tr (Fr.set rfl)).tr (Fr.set rfl)
  have hd5 : w1.1 1 5 = nI day := by rw [hF1.at' 5 rfl, h5]
  have key := wh_inv (body := lbX3_measure_54_1 N 1 (nI lg))
    (I := fun s => ∃ used d w2, s = (nI used, nI d, w2) ∧ day ≤ d ∧ d ≤ 187 ∧ used ≤ 126 ∧ (used < 126 → used = cmS (sLg (sOf L lost nig) day lg) day (d - day)) ∧ Fr (fun o _ => o == 47) w1 w2 ∧ (∀ u, 1 ≤ u → u ≤ used → ∃ e, w2.1 47 u = nI e ∧ isD (sLg (sOf L lost nig) day lg) day u e))
    (Q := fun w2 => Fr (fun o _ => o == 47) w1 w2 ∧ (∀ u, 1 ≤ u → u ≤ 126 → ∃ e, w2.1 47 u = nI e ∧ isD (sLg (sOf L lost nig) day lg) day u e))
    (m := fun s => 187 - s.2.1.toNatClampNeg) ?_ (N := N) (s := (nI 0, nI day, w1)) ⟨0, day, w1, rfl, by omega, by omega, by omega, fun _ => by simp [cmS], Fr.rf, fun u h1 h2 => by omega⟩ (by simp (disch := omega) only [ntn]; omega)
  · obtain ⟨w2, e1, e2, e3⟩ := key
    refine ⟨w2, ?_, hF1.tr (e2.wd (fun o k ho => by simp at ho ⊢; exact ho.2)), ?_⟩
    · unfold fX3_measure
      simp only [lw_eq, setI1, q2, q3, q1, h5, h6, h7, Nat.reduceAdd, ntn (show 2 ≤ 2147483647 by omega), ntn (show 1 ≤ 2147483647 by omega), ntn (show 3 ≤ 2147483647 by omega), n2, n3, n1, Nat.reduceEqDiff, false_and, if_false, hw1]
      rw [n0, e1]
      rfl
    · have hf : ∀ k, w2.1 46 k = w1.1 46 k := fun k => e2.at' k rfl
      refine ⟨?_, ?_, ?_, ?_, ?_, ?_⟩
      · rw [hf, ← hw1]; simp [setI1]
      · rw [hf, ← hw1]; simp [setI1]
      · rw [hf, ← hw1]; simp [setI1]
      · rw [hf, ← hw1]; simp [setI1]
      · rw [hf, ← hw1]; simp [setI1]
      · intro u hu1 hu2
        obtain ⟨e, g1, g2⟩ := e3 u hu1 hu2
        rw [g1, isD_uniq g2 (dyS_is b4 hS hu1 hu2)]
  · rintro s ⟨used, d, w2, rfl, hd1, hd2, hu, hcm, hF, hE⟩
    by_cases h1 : 186 < d
    · right
      refine ⟨w2, ?_, hF, ?_⟩
      · simp (disch := omega) only [lbX3_measure_54_1, n0, n1, n2, n3, n4, n5, n6, n7, n8, n9, n10, n13, n16, n18, n20, n30, n32, n40, n48, n57, n59, n60, n64, n97, n99, n122, n126, n186, n200, n1000000, nadd, nmul, nlt, nle, neq, ntn, gd_n, h1, if_true]
      · intro u hu1 hu2
        refine hE u hu1 ?_
        by_cases h2 : used < 126
        · have := hcm h2
          have := cmS_low (d0 := day) b4 hS (d - day)
          omega
        · omega
    · by_cases h2 : 126 ≤ used
      · right
        refine ⟨w2, ?_, hF, fun u hu1 hu2 => hE u hu1 (by omega)⟩
        simp (disch := omega) only [lbX3_measure_54_1, n0, n1, n2, n3, n4, n5, n6, n7, n8, n9, n10, n13, n16, n18, n20, n30, n32, n40, n48, n57, n59, n60, n64, n97, n99, n122, n126, n186, n200, n1000000, nadd, nmul, nlt, nle, neq, ntn, gd_n, h1, h2, if_true, if_false]
      · left
        have hsl : fX1_slotsOn 1 (nI d) w2 = some (nI (sOf L lost nig d)) := by
          have hFF : Fr (fun o _ => o == 46 || o == 47) w w2 := hF1.tr (hF.wd (fun o k ho => by simp at ho ⊢; exact ho.2))
          refine slotsOn_ev (fun i hi => ?_) (fun i hi => ?_) (fun i hi => ?_) b1 b2 b3 (by omega)
          · rw [hFF.at' _ rfl, hL i hi]
          · rw [hFF.at' _ rfl, hl i hi]
          · rw [hFF.at' _ rfl, hn i hi]
        have hb : sOf L lost nig d ≤ 13 := by
          unfold sOf
          split
          · next h => have := b2 d h; have := b3 d h; omega
          · omega
        have hday : w2.1 1 5 = nI day := by rw [hF.at' 5 rfl, hd5]
        obtain ⟨used', w3, i1, i2, i3, i4, i5⟩ := measure_in (w0 := w2) (S := sLg (sOf L lost nig) day lg) (d0 := day) (used := used) (d := d) (c := sLg (sOf L lost nig) day lg d) (N := N) (c2 := nI lg) (by omega) (by omega) (by omega) hd1 (hcm (by omega)) rfl (by unfold sLg; split <;> omega) hE
        refine ⟨(nI used', nI (d + 1), w3), ?_, ⟨used', d + 1, w3, rfl, by omega, by omega, i3, fun h => ?_, hF.tr i2, i5⟩, ?_⟩
        · by_cases hc : d - day < lg
          · have hs : sLg (sOf L lost nig) day lg d = sOf L lost nig d + 1 := by unfold sLg; rw [if_pos hc]
            rw [hs] at i1
            have i1' : wh (lbX3_measure_96_3 N 1 (nI lg) (nI d) (nI (sOf L lost nig d + 1))) N (nI used, nI 0, w2) = some (nI used', w3) := i1
            simp (disch := omega) only [lbX3_measure_54_1, n0, n1, n2, n3, n4, n5, n6, n7, n8, n9, n10, n13, n16, n18, n20, n30, n32, n40, n48, n57, n59, n60, n64, n97, n99, n122, n126, n186, n200, n1000000, nadd, nmul, nlt, nle, neq, ntn, gd_n, lw_eq, bd_some', bd2_some', gd_true, h1, h2, if_false, hsl, hday, nsub hd1, if_neg (show ¬ lg ≤ d - day by omega), i1']
          · have hs : sLg (sOf L lost nig) day lg d = sOf L lost nig d + 0 := by unfold sLg; rw [if_neg hc]
            rw [hs] at i1
            simp (disch := omega) only [n0] at i1
            simp (disch := omega) only [lbX3_measure_54_1, n0, n1, n2, n3, n4, n5, n6, n7, n8, n9, n10, n13, n16, n18, n20, n30, n32, n40, n48, n57, n59, n60, n64, n97, n99, n122, n126, n186, n200, n1000000, nadd, nmul, nlt, nle, neq, ntn, gd_n, lw_eq, bd_some', bd2_some', gd_true, h1, h2, if_false, hsl, hday, nsub hd1, if_pos (show lg ≤ d - day by omega), i1]
        · rw [i4 h, show d + 1 - day = (d - day) + 1 by omega, cmS, show day + (d - day) = d by omega, ← hcm (by omega)]
        · simp (disch := omega) only [ntn]; omega

