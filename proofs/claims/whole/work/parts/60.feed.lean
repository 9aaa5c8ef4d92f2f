/-! 60: bytes told -/
theorem shB (y : BitVec 64) {k : Nat} (hk : k ≤ 56) : (y.sshiftRight k).setWidth 8 = (y >>> k).setWidth 8 := by
  apply BitVec.eq_of_getLsbD_eq
  intro i hi
  simp only [BitVec.getLsbD_setWidth, BitVec.getLsbD_sshiftRight, BitVec.getLsbD_ushiftRight]
  rw [if_pos (by omega)]
  simp [show ¬ 64 ≤ i by omega, hi]
theorem andB (z : BitVec 64) : (z &&& 255#64).setWidth 32 = (z.setWidth 8).setWidth 32 := by
  apply BitVec.eq_of_toNat_eq
  simp only [BitVec.toNat_setWidth, BitVec.toNat_and, BitVec.toNat_ofNat]
  rw [show (255 % 2 ^ 64 : Nat) = 2 ^ 8 - 1 from rfl, Nat.and_two_pow_sub_one_eq_mod]
theorem byM (a : Int64) {i : Nat} (h : i < 8) : ((a >>> ((8 * nI i).toInt64 &&& 63)) &&& 255).toInt32 = nI ((a.toBitVec >>> (8 * i)).setWidth 8).toNat := by
  have e : (a >>> ((8 * nI i).toInt64 &&& 63)).toBitVec = a.toBitVec.sshiftRight (8 * i) := by
    have : i = 0 ∨ i = 1 ∨ i = 2 ∨ i = 3 ∨ i = 4 ∨ i = 5 ∨ i = 6 ∨ i = 7 := by omega
    rcases this with rfl | rfl | rfl | rfl | rfl | rfl | rfl | rfl <;> rfl
  apply Int32.toBitVec_inj.mp
  rw [Int64.toBitVec_toInt32, Int64.toBitVec_and, e]
  rw [BitVec.signExtend_eq_setWidth_of_le _ (by omega), show (255 : Int64).toBitVec = 255#64 from rfl, andB, shB _ (by omega)]
  generalize (a.toBitVec >>> (8 * i)).setWidth 8 = b
  apply BitVec.eq_of_toNat_eq
  show _ = (BitVec.ofNat 32 b.toNat).toNat
  simp
theorem byC (a : Int64) {i : Nat} (h : i < 8) : vp_nar .byte ((((a.toUInt64 >>> ((8 * nI i).toInt64.toUInt64 &&& Int64.toUInt64 63)).toInt64).toInt32).toInt8.toInt32) = zI ((a.toBitVec >>> (8 * i)).setWidth 8).toInt := by
  have e : (a.toUInt64 >>> ((8 * nI i).toInt64.toUInt64 &&& Int64.toUInt64 63)).toBitVec = a.toBitVec >>> (8 * i) := by
    have : i = 0 ∨ i = 1 ∨ i = 2 ∨ i = 3 ∨ i = 4 ∨ i = 5 ∨ i = 6 ∨ i = 7 := by omega
    rcases this with rfl | rfl | rfl | rfl | rfl | rfl | rfl | rfl <;> rfl
  show (((((a.toUInt64 >>> ((8 * nI i).toInt64.toUInt64 &&& Int64.toUInt64 63)).toInt64).toInt32).toInt8.toInt32).toInt8).toInt32 = _
  rw [Int8.toInt8_toInt32]
  have e8 : (((a.toUInt64 >>> ((8 * nI i).toInt64.toUInt64 &&& Int64.toUInt64 63)).toInt64).toInt32.toInt8).toBitVec = (a.toBitVec >>> (8 * i)).setWidth 8 := by
    rw [Int32.toBitVec_toInt8, Int64.toBitVec_toInt32, UInt64.toBitVec_toInt64, e, BitVec.signExtend_eq_setWidth_of_le _ (by omega), BitVec.signExtend_eq_setWidth_of_le _ (by omega)]
    apply BitVec.eq_of_toNat_eq
    simp only [BitVec.toNat_setWidth]
    omega
  apply Int32.toInt_inj.mp
  rw [Int8.toInt_toInt32, ← e8]
  generalize ((a.toUInt64 >>> ((8 * nI i).toInt64.toUInt64 &&& Int64.toUInt64 63)).toInt64).toInt32.toInt8 = c
  show c.toInt = (zI c.toInt).toInt
  rw [ztoInt]
  · have := c.minValue_le_toInt; have : Int8.minValue.toInt = -128 := rfl; omega
  · have := c.toInt_lt; omega
theorem byY (b : BitVec 8) : b.toNat < 256 ∧ zI b.toInt = sB b.toNat := by
  refine ⟨b.isLt, ?_⟩
  unfold sB
  congr 1
  rw [BitVec.toInt_eq_toNat_cond]
  split
  · rw [if_pos (by omega)]
  · rw [if_neg (by omega)]; rfl
theorem Rel.tp {wC wM wC' wM' : AW} (h : Rel wC wM) (f : Fr (fun o k => (o == 37 && k == 1) || o == 38) wC wC') (f' : Fr (fun o k => (o == 0 && k == 16) || o == 9) wM wM') (ht : RTp wC' wM') : Rel wC' wM' := by
  obtain ⟨h1, h2, h3, h4, h5, h6, h7, h8⟩ := h
  refine ⟨h1.fr f f' (fun o k a b => by simp; omega) (fun o k hk => ?_), h2.fr f f' (fun o k a b => by simp; omega) (fun k => rfl) rfl rfl, h3.fr f f' rfl (fun o k a b => by simp; omega) (fun o k a b => by simp; omega) rfl (fun k => rfl), ht, h5.fr f f' rfl (fun k => rfl) rfl (fun k => rfl), h6.fr f f' (fun o k a b => by simp; omega) (fun o k a b => by simp; omega), h7.fr f f' rfl (fun k => rfl) rfl (fun k => rfl), h8.fr f' (fun k => rfl) (fun k => rfl)⟩
  simp only [mB, Bool.or_eq_true, Bool.and_eq_true, beq_iff_eq] at hk
  simp; omega
theorem st_feed {wC wM : AW} (h : Rel wC wM) (a0 : Int64) (a1 : Int32) : ∃ r wC' wM', fX11_feed N0 a0 a1 wC = some (r, wC') ∧ fX12_feed N0 a0 a1 wM = some (r, wM') ∧ Rel wC' wM' := by
  have hN := N0_big
  obtain ⟨c, Y, g1, g2, g3, g4, g5, g6⟩ := h.2.2.2.1
  rcases wI_01 a1 1 8 with hr | hr
  · exact ⟨-1, wC, wM, by simp only [fX11_feed, within_ev, hr, bd_some', if_true], by simp only [fX12_feed, in_ev, hr, bd_some', if_true], h⟩
  · obtain ⟨m, m1, m2, rfl⟩ := wI_nat (lo := 1) (hi := 8) hr (by omega) (by omega)
    have h10 : ¬ (1 : Int32) = 0 := by decide
    by_cases h200 : c + m ≤ 200
    · generalize hB : (fun i => (a0.toBitVec >>> (8 * i)).setWidth 8) = B
      have bY := fun i => byY (B i)
      have hBi : ∀ i, (a0.toBitVec >>> (8 * i)).setWidth 8 = B i := fun i => by rw [← hB]
      have hC : ∃ w', wh (lbX8_take_18_1 N0 a0 (nI m)) N0 (0, wC) = some w' ∧ Fr (fun o k => (o == 37 && k == 1) || o == 38) wC w' ∧ w'.1 37 1 = nI (c + m) ∧ (∀ x, x < c → w'.1 38 x = wC.1 38 x) ∧ ∀ x, x < m → w'.1 38 (c + x) = sB (B x).toNat := by
        have key := wh_cnt (body := lbX8_take_18_1 N0 a0 (nI m)) (n := m)
          (I := fun i s => ∃ w', s = (nI i, w') ∧ Fr (fun o k => (o == 37 && k == 1) || o == 38) wC w' ∧ w'.1 37 1 = nI (c + i) ∧ (∀ x, x < c → w'.1 38 x = wC.1 38 x) ∧ ∀ x, x < i → w'.1 38 (c + x) = sB (B x).toNat)
          (Q := fun w' => Fr (fun o k => (o == 37 && k == 1) || o == 38) wC w' ∧ w'.1 37 1 = nI (c + m) ∧ (∀ x, x < c → w'.1 38 x = wC.1 38 x) ∧ ∀ x, x < m → w'.1 38 (c + x) = sB (B x).toNat)
          ?_ ?_ (N := N0) (i := 0) (s := (0, wC)) ⟨wC, rfl, Fr.rf, g3, fun x _ => rfl, fun x hx => absurd hx (by omega)⟩ (Nat.zero_le _) (by omega)
        · obtain ⟨w', e1, e2⟩ := key; exact ⟨w', e1, e2⟩
        · rintro i s hi ⟨w', rfl, hF, k1, k2, k3⟩
          refine ⟨(nI (i + 1), setI (setI w' 38 (c + i) (sB (B i).toNat)) 37 1 (nI (c + i + 1))), ?_, _, rfl, hF.tr ((Fr.set (by simp)).tr (Fr.set (by simp))), by simp [setI1]; congr 1, fun x hx => ?_, fun x hx => ?_⟩
          · have e8 := byC a0 (i := i) (by omega)
            rw [hBi, (bY i).2] at e8
            simp only [lbX8_take_18_1, k1, e8]
            simp (disch := omega) only [n0, n1, n2, n3, n4, n5, n6, n7, n8, n9, n10, n13, n16, n18, n20, n30, n32, n40, n48, n57, n59, n60, n64, n97, n99, n122, n126, n186, n200, n1000000, nadd, nmul, nlt, nle, neq, ntn, gd_n, lw_eq, bd_some', bd2_some', gd_true, if_neg (show ¬ m ≤ i by omega), setI1, k1, show ¬ (37 = 38) by omega, false_and, if_false]
          · simp only [setI1, show ¬ (38 = 37) by omega, false_and, if_false, show ¬ (x = c + i) by omega, and_false]; exact k2 x hx
          · by_cases hq : x = i
            · subst hq; simp [setI1]
            · simp only [setI1, show ¬ (38 = 37) by omega, false_and, if_false, show ¬ (c + x = c + i) by omega, and_false]; exact k3 x (by omega)
        · rintro s ⟨w', rfl, hF, k1, k2, k3⟩
          exact ⟨w', by simp only [lbX8_take_18_1, Int32.le_refl, if_true], hF, k1, k2, k3⟩
      have hM : ∃ w', wh (lbX12_feed_30_1 N0 a0 (nI m)) N0 (0, wM) = some w' ∧ Fr (fun o k => (o == 0 && k == 16) || o == 9) wM w' ∧ w'.1 0 16 = nI (c + m) ∧ (∀ x, x < c → w'.1 9 x = wM.1 9 x) ∧ ∀ x, x < m → w'.1 9 (c + x) = nI (B x).toNat := by
        have key := wh_cnt (body := lbX12_feed_30_1 N0 a0 (nI m)) (n := m)
          (I := fun i s => ∃ w', s = (nI i, w') ∧ Fr (fun o k => (o == 0 && k == 16) || o == 9) wM w' ∧ w'.1 0 16 = nI (c + i) ∧ (∀ x, x < c → w'.1 9 x = wM.1 9 x) ∧ ∀ x, x < i → w'.1 9 (c + x) = nI (B x).toNat)
          (Q := fun w' => Fr (fun o k => (o == 0 && k == 16) || o == 9) wM w' ∧ w'.1 0 16 = nI (c + m) ∧ (∀ x, x < c → w'.1 9 x = wM.1 9 x) ∧ ∀ x, x < m → w'.1 9 (c + x) = nI (B x).toNat)
          ?_ ?_ (N := N0) (i := 0) (s := (0, wM)) ⟨wM, rfl, Fr.rf, g4, fun x _ => rfl, fun x hx => absurd hx (by omega)⟩ (Nat.zero_le _) (by omega)
        · obtain ⟨w', e1, e2⟩ := key; exact ⟨w', e1, e2⟩
        · rintro i s hi ⟨w', rfl, hF, k1, k2, k3⟩
          refine ⟨(nI (i + 1), setI (setI w' 9 (c + i) (nI (B i).toNat)) 0 16 (nI (c + i + 1))), ?_, _, rfl, hF.tr ((Fr.set (by simp)).tr (Fr.set (by simp))), by simp [setI1]; congr 1, fun x hx => ?_, fun x hx => ?_⟩
          · have e8 := byM a0 (i := i) (by omega)
            rw [hBi] at e8
            simp only [lbX12_feed_30_1, k1, e8]
            simp (disch := omega) only [n0, n1, n2, n3, n4, n5, n6, n7, n8, n9, n10, n13, n16, n18, n20, n30, n32, n40, n48, n57, n59, n60, n64, n97, n99, n122, n126, n186, n200, n1000000, nadd, nmul, nlt, nle, neq, ntn, gd_n, lw_eq, bd_some', bd2_some', gd_true, if_neg (show ¬ m ≤ i by omega), setI1, k1, show ¬ (0 = 9) by omega, false_and, if_false]
          · simp only [setI1, show ¬ (9 = 0) by omega, false_and, if_false, show ¬ (x = c + i) by omega, and_false]; exact k2 x hx
          · by_cases hq : x = i
            · subst hq; simp [setI1]
            · simp only [setI1, show ¬ (9 = 0) by omega, false_and, if_false, show ¬ (c + x = c + i) by omega, and_false]; exact k3 x (by omega)
        · rintro s ⟨w', rfl, hF, k1, k2, k3⟩
          exact ⟨w', by simp only [lbX12_feed_30_1, Int32.le_refl, if_true], hF, k1, k2, k3⟩
      obtain ⟨w1, a1, a2, a3, a4, a5⟩ := hC
      obtain ⟨w2, b1, b2, b3, b4, b5⟩ := hM
      refine ⟨nI (c + m), w1, w2, ?_, ?_, h.tp a2 b2 ⟨c + m, fun x => if x < c then Y x else (B (x - c)).toNat, h200, fun x => ?_, a3, b3, fun x hx => ?_, fun x hx => ?_⟩⟩
      · simp (disch := omega) only [fX11_feed, within_ev, hr, bd_some', h10, if_false, fX8_take, g3, n200, nadd, nle, h200, if_true, a1, a3, bd2_some']
      · simp (disch := omega) only [fX12_feed, in_ev, hr, bd_some', h10, if_false, g4, n200, nadd, nle, h200, if_true, b1, b3]
      · show (if x < c then Y x else (B (x - c)).toNat) < 256
        split
        · exact g2 x
        · exact (B (x - c)).isLt
      · show _ = sB (if x < c then Y x else (B (x - c)).toNat)
        by_cases hq : x < c
        · rw [if_pos hq, a4 x hq]; exact g5 x hq
        · rw [if_neg hq]; have := a5 (x - c) (by omega); rwa [show c + (x - c) = x by omega] at this
      · show _ = nI (if x < c then Y x else (B (x - c)).toNat)
        by_cases hq : x < c
        · rw [if_pos hq, b4 x hq]; exact g6 x hq
        · rw [if_neg hq]; have := b5 (x - c) (by omega); rwa [show c + (x - c) = x by omega] at this
    · refine ⟨-2, wC, wM, ?_, ?_, h⟩
      · simp (disch := omega) only [fX11_feed, within_ev, hr, bd_some', h10, if_false, fX8_take, g3, n200, nadd, nle, h200, bd2_some']
      · simp (disch := omega) only [fX12_feed, in_ev, hr, bd_some', h10, if_false, g4, n200, nadd, nle, h200]
