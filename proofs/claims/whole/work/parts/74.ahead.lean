/-! 74: what may come -/
theorem gAll {N m : Nat} (hm : m ≤ 3) (a1 : Int32) (w : AW) : (if nI m = 0 then (
bd (wh (lbX12_ahead_63_1 N (nI m) a1) N (0, w)) (fun w22 =>
bd (wh (lbX12_ahead_104_2 N (nI m) a1) N (1, w22)) (fun w55 =>
bd (fX12_lowest N (w55.1 16 (0 : Int32).toNatClampNeg) (1 <<< ((2 * (nI m)) &&& 31)) w55) (fun w57 =>
if a1 = 0 then (
some ((w57.1 0 32), w57))
else (
some ((w57.1 0 33), w57))))))
else (
if nI m = 1 then (
bd (wh (lbX12_ahead_63_6 N (nI m) a1) N (0, w)) (fun w73 =>
bd (wh (lbX12_ahead_104_7 N (nI m) a1) N (1, w73)) (fun w106 =>
bd (fX12_lowest N (w106.1 16 (0 : Int32).toNatClampNeg) (1 <<< ((2 * (nI m)) &&& 31)) w106) (fun w108 =>
if a1 = 0 then (
some ((w108.1 0 32), w108))
else (
some ((w108.1 0 33), w108))))))
else (
if nI m = 2 then (
bd (wh (lbX12_ahead_63_11 N (nI m) a1) N (0, w)) (fun w124 =>
bd (wh (lbX12_ahead_104_12 N (nI m) a1) N (1, w124)) (fun w157 =>
bd (fX12_lowest N (w157.1 16 (0 : Int32).toNatClampNeg) (1 <<< ((2 * (nI m)) &&& 31)) w157) (fun w159 =>
if a1 = 0 then (
some ((w159.1 0 32), w159))
else (
some ((w159.1 0 33), w159))))))
else (
bd (wh (lbX12_ahead_63_16 N (nI m) a1) N (0, w)) (fun w174 =>
bd (wh (lbX12_ahead_104_17 N (nI m) a1) N (1, w174)) (fun w207 =>
bd (fX12_lowest N (w207.1 16 (0 : Int32).toNatClampNeg) (1 <<< ((2 * (nI m)) &&& 31)) w207) (fun w209 =>
if a1 = 0 then (
some ((w209.1 0 32), w209))
else (
some ((w209.1 0 33), w209))))))))) =
  bd (wh (gI (nI (4 ^ m)) N) N (0, w)) (fun w' => bd (wh (gA (nI (4 ^ m)) N (nI m)) N (1, w')) (fun w'' => bd (fX12_lowest N (w''.1 16 0) (nI (4 ^ m)) w'') (fun v => if a1 = 0 then some (v.1 0 32, v) else some (v.1 0 33, v)))) := by
  have : m = 0 ∨ m = 1 ∨ m = 2 ∨ m = 3 := by omega
  rcases this with rfl | rfl | rfl | rfl
  · rw [if_pos (show nI 0 = 0 from rfl), gI_1, show (fun w22 => bd (wh (lbX12_ahead_104_2 N (nI 0) a1) N (1, w22)) _) = (fun w22 => bd (wh (gA 1 N (nI 0)) N (1, w22)) _) from rfl]
    rfl
  · rw [if_neg (show ¬ nI 1 = 0 by decide), if_pos (show nI 1 = 1 from rfl), gI_4]
    rfl
  · rw [if_neg (show ¬ nI 2 = 0 by decide), if_neg (show ¬ nI 2 = 1 by decide), if_pos (show nI 2 = 2 from rfl), gI_16]
    rfl
  · rw [if_neg (show ¬ nI 3 = 0 by decide), if_neg (show ¬ nI 3 = 1 by decide), if_neg (show ¬ nI 3 = 2 by decide), gI_64]
    rfl
theorem ahead_ev {wC wM : AW} (h : Rel wC wM) (a0 : Int32) (a1 : Int32) {N : Nat} (hN : 3000 < N) : ∃ r wC' wM', fX11_ahead N a0 a1 wC = some (r, wC') ∧ fX12_ahead N a0 a1 wM = some (r, wM') ∧ Rel wC' wM' := by
  obtain ⟨n, J, L, lost, nig, day, col, left, till, p, ok, hc, hm⟩ := h.1
  obtain ⟨k, T, z, okt, hTC, hTM⟩ := h.2.1
  have hcn : wC.1 2 0 = nI n := hc.1.1
  have hmn := hm.2.2.2.1
  rcases wI_01 a0 0 3 with h0 | h0
  · exact ⟨-2147483648, wC, wM, by simp only [fX11_ahead, within_ev, h0, bd_some', if_true], by simp only [fX12_ahead, in_ev, h0, bd_some', if_true], h⟩
  · rcases wI_01 a1 0 1 with h1 | h1
    · exact ⟨-2147483648, wC, wM, by simp only [fX11_ahead, within_ev, h0, h1, bd_some', on0, if_false, if_true], by simp only [fX12_ahead, in_ev, isSide_ev, h0, h1, bd_some', on0, if_false, if_true], h⟩
    · obtain ⟨m, -, hm3, rfl⟩ := wI_nat (lo := 0) (hi := 3) h0 (by omega) (by omega)
      have hn := ok.1
      by_cases h5 : n + m ≤ 5
      · have hle : nI n + nI m ≤ 5 := by rw [nadd, n5, nle (by omega) (by omega)]; exact h5
        obtain ⟨w1, m1, m2, m3, m4, m5⟩ := meas_ev (lg := 0) (N := N) ok hc (by omega) (by omega)
        have ok' := ok
        rw [sLg0] at m3 m5
        rw [show nI 0 = 0 from rfl] at m1
        obtain ⟨-, bj, b, hp⟩ := ok
        have hd := b.2.2.2.2.2.2.2.1
        -- the program
        obtain ⟨w3, p1, p2, p3⟩ := copy_ev (o := 61) (o0 := 2) (N := N) m4.1 (by omega) hn (by omega)
        have m3' : CCo (dyS (sOf L lost nig) day) (L 1) col left (L 2) (L 3) w3 := m3.fr p2 (fun k => rfl) (fun k => rfl)
        have hT3 : CTy 23 k T z w3 := (hTC.fr m2 (fun i hi k => by simp [TM4]; omega)).fr p2 (fun i hi k => by simp; omega)
        have p3' : CJo 61 (n + ([] : List Nat).length) (jX n J (typR T day) []) w3 := CJo.cgr (show CJo 61 n J w3 from p3) (fun y hy k => by
          show J k y = if y < n then J k y else _
          rw [if_pos (by simpa using hy)])
        obtain ⟨w4, q1, q2, q3⟩ := behind_ev (N := N) (n := n) m5 b.2.2.2.1 bj okt hd (by omega) m 5 [] w3 (by omega) (by simpa using h5) (fun x hx => by simp at hx) m3' hT3 p3'
        have d3 : w3.1 1 5 = nI day := by rw [p2.at' _ rfl]; exact m4.2.2.2.2.2.1
        -- the reference
        obtain ⟨v1, g1, g2, g3⟩ := gI_ev (N := N) okt b bj hm hTM hm3 h5 (by omega)
        have hB : ∀ c (l : List Nat), (∀ x ∈ l, x < k) → l.length + c ≤ m → -1000000 ≤ aC (VX (dyS (sOf L lost nig) day) (L 1) col left (L 2) n J (typR T day)) (T 5) k c l ∧ aC (VX (dyS (sOf L lost nig) day) (L 1) col left (L 2) n J (typR T day)) (T 5) k c l ≤ 1000000 := fun c l hl hlc => by
          have hb := aX_bd (dy := dyS (sOf L lost nig) day) (st := L 1) (c0 := col) (l0 := left) (c := c) bj okt hd b.2.2.2.1 hn hl (by omega)
          have : (4 : Int) ^ c ≤ 64 := by
            have : c = 0 ∨ c = 1 ∨ c = 2 ∨ c = 3 := by omega
            rcases this with rfl | rfl | rfl | rfl <;> decide
          omega
        obtain ⟨v2, k1, k2, k3⟩ := gA_ev (n := n) (N := N) okt (hTM.fr g2 (fun k => rfl) rfl rfl) g3 hm3 hB (by omega)
        have ev := k3 0 (by omega) rfl (by show 0 + m ≤ m; omega)
        have hAb := hB m [] (fun x hx => by simp at hx) (by simp)
        have ev' : v2.1 16 0 = zI (aC (VX (dyS (sOf L lost nig) day) (L 1) col left (L 2) n J (typR T day)) (T 5) k m []) := ev
        generalize hA : aC (VX (dyS (sOf L lost nig) day) (L 1) col left (L 2) n J (typR T day)) (T 5) k m [] = A at *
        obtain ⟨v3, l1, l2, l3, l4⟩ := lowest_ev (a := A) (k := m) (N := N) (w := v2) (by omega) (by omega) (by omega) (by omega)
        have pt := partOf_ev (a := A) (t := 2 * m) (N := N) (part := a1) (w := w4) (by omega) (by omega) (by omega) (by omega)
        have hFC : Fr TB wC w4 := (m2.wd (fun o k q => TB_M4 q)).tr ((p2.wd (fun o k q => TB_T q)).tr (q2.wd (fun o k q => by
          simp only [TB, TX, TL, Bool.or_eq_false_iff] at q ⊢; simp_all)))
        have hFM : Fr (TA n) wM v3 := g2.tr (k2.tr (l2.wd (fun o k q => by simp only [TA, Bool.or_eq_false_iff] at q; exact q.2)))
        refine ⟨if a1 = 0 then zI (rdc A (2 * m)).1 else nI (2 ^ (rdc A (2 * m)).2), w4, v3, ?_, ?_, h.scr2 hFC hFM (fun o k q => TB_p q) (fun o k q q1 => TA_p q q1) ⟨n, J, L, lost, nig, day, col, left, till, p, ok', hc.tb (b := 1) hFC (fun o k q => q), hm.fra hFM⟩⟩
        · have e2 : 2 * nI m = nI (2 * m) := by rw [n2, nmul]
          simp only [fX11_ahead, within_ev, h0, h1, bd_some', on0, if_false, hcn, hle, if_true, m1, p1, d3, q1, bd2_some', e2, pt]
        · have hlow : bd (fX12_lowest N (v2.1 16 0) (nI (4 ^ m)) v2) (fun v => if a1 = 0 then some (v.1 0 32, v) else some (v.1 0 33, v)) = some (if a1 = 0 then zI (rdc A (2 * m)).1 else nI (2 ^ (rdc A (2 * m)).2), v3) := by
            rw [ev', l1, bd_some', l3, l4]
            split <;> rfl
          simp only [fX12_ahead, in_ev, isSide_ev, h0, h1, bd_some', on0, if_false, hmn, hle, if_true]
          rw [gAll hm3, g1, bd_some', k1, bd_some', hlow]
      · have hle : ¬ nI n + nI m ≤ 5 := by rw [nadd, n5, nle (by omega) (by omega)]; exact h5
        exact ⟨-2147483648, wC, wM, by simp only [fX11_ahead, within_ev, h0, h1, bd_some', on0, if_false, hcn, hle], by simp only [fX12_ahead, in_ev, isSide_ev, h0, h1, bd_some', on0, if_false, hmn, hle], h⟩
theorem st_ahead {wC wM : AW} (h : Rel wC wM) (a0 : Int32) (a1 : Int32) : ∃ r wC' wM', fX11_ahead N0 a0 a1 wC = some (r, wC') ∧ fX12_ahead N0 a0 a1 wM = some (r, wM') ∧ Rel wC' wM' := ahead_ev h a0 a1 N0_big
