set_option maxRecDepth 10000 in
set_option maxHeartbeats 2000000 in
theorem MX11_fewest {N : Nat} {w : AW} {rZ : Int32} {wZ : AW} (hf : fX11_fewest N w = some (rZ, wZ)) : CallOK PC yX11_fewest cX11_fewest 1 (some .int) 14 [.ref 0] w (some (.int rZ)) wZ := by
  refine CallOK.of (ls := [some (.ref 0)]) (by decide) (by simp) rfl rfl ?_
  obtain ⟨Q, eQ⟩ : ∃ Q, Q = Qret cX11_fewest (some .int) (some (.int rZ)) wZ := ⟨_, rfl⟩
  rw [← eQ]
  unfold fX11_fewest at hf
  refine E_aload_n (v := 0) dX11_fewest_0 rfl ?_
  refine E_getR fg_RX11_43 dX11_fewest_1 sC_0 rfl rC_0_6 (Nat.succ_ne_zero _) ?_
  refine E_aload_n (v := 0) dX11_fewest_4 rfl ?_
  refine E_getR fg_RX11_10 dX11_fewest_5 sC_0 rfl rC_0_0 (Nat.succ_ne_zero _) ?_
  refine E_iconst 0 dX11_fewest_8 ic_0 ?_
  obtain ⟨w2, hc1, hf⟩ := bd_some hf
  try dsimp only at hf
  refine E_callVv (rest := []) (ci := 3) cv_RX11_208 dX11_fewest_9 (MX3_measure B_is1 hc1) rfl sC_46 rfl (by decide) rfl rfl (fun _ => Nat.le_of_ble_eq_true rfl) ?_
  refine E_aload_n (v := 0) dX11_fewest_12 rfl ?_
  refine E_getR fg_RX11_52 dX11_fewest_13 sC_0 rfl rC_0_7 (Nat.succ_ne_zero _) ?_
  refine E_aload_n (v := 0) dX11_fewest_16 rfl ?_
  refine E_getR fg_RX11_10 dX11_fewest_17 sC_0 rfl rC_0_0 (Nat.succ_ne_zero _) ?_
  refine E_getR fg_RX11_130 dX11_fewest_20 sC_1 rfl rC_1_0 (Nat.succ_ne_zero _) ?_
  obtain ⟨r4, w5, hc3, hf⟩ := bd2_some hf
  try dsimp only at hf
  refine E_callVi (rest := []) (ci := 5) cv_RX11_223 dX11_fewest_23 (MX5_fewestLate J_is2 hc3) rfl sC_49 rfl (by decide) rfl rfl (fun _ => Nat.le_of_ble_eq_true rfl) ?_
  obtain ⟨rfl, rfl⟩ := ret2 hf
  exact E.done (by rw [eQ]; exact ⟨rfl, Or.inl ⟨_, _, rfl, rfl, dX11_fewest_26, rfl, rfl⟩⟩)
set_option maxRecDepth 10000 in
set_option maxHeartbeats 2000000 in
theorem MX11_isJob {a0 : Int32} {a1 : Int32} {a2 : Int32} {a3 : Int32} {a4 : Int32} {w : AW} {rZ : Int32} (hf : fX11_isJob a0 a1 a2 a3 a4 w = some rZ) : CallOK PC yX11_isJob cX11_isJob 5 (some .boolean) 2 [.int a0, .int a1, .int a2, .int a3, .int a4] w (some (.int rZ)) w := by
  refine CallOK.of (ls := [some (.int a0), some (.int a1), some (.int a2), some (.int a3), some (.int a4)]) (by decide) (by simp) rfl rfl ?_
  obtain ⟨Q, eQ⟩ : ∃ Q, Q = Qret cX11_isJob (some .boolean) (some (.int rZ)) w := ⟨_, rfl⟩
  rw [← eQ]
  unfold fX11_isJob at hf
  refine E_iload_n (v := a0) dX11_isJob_0 rfl ?_
  refine E_iconst 0 dX11_isJob_1 ic_0 ?_
  refine E_iconst 5 dX11_isJob_2 ic_5 ?_
  obtain ⟨r2, hc1, hf⟩ := bd_some hf
  try dsimp only at hf
  refine E_callSi (rest := []) cs_RX11_100 dX11_isJob_3 (MX11_within hc1) rfl rfl rfl (fun _ => Nat.le_of_ble_eq_true rfl) ?_
  refine E_if_eq 53 dX11_isJob_6 (by decide) (fun hc3 => ?_) (fun hc3 => ?_)
  · rw [if_pos hc3] at hf
    refine E_iconst 0 dX11_isJob_53 ic_0 ?_
    obtain rfl := Option.some.inj hf
    exact E.done (by rw [eQ]; exact ⟨rfl, Or.inl ⟨_, _, rfl, rfl, dX11_isJob_54, rfl, rfl⟩⟩)
  · rw [if_neg hc3] at hf
    refine E_iload_n (v := a1) dX11_isJob_9 rfl ?_
    refine E_iconst 1 dX11_isJob_10 ic_1 ?_
    refine E_bipush 9 dX11_isJob_11 bp_9 ?_
    obtain ⟨r5, hc4, hf⟩ := bd_some hf
    try dsimp only at hf
    refine E_callSi (rest := []) cs_RX11_100 dX11_isJob_13 (MX11_within hc4) rfl rfl rfl (fun _ => Nat.le_of_ble_eq_true rfl) ?_
    refine E_if_eq 53 dX11_isJob_16 (by decide) (fun hc6 => ?_) (fun hc6 => ?_)
    · rw [if_pos hc6] at hf
      refine E_iconst 0 dX11_isJob_53 ic_0 ?_
      obtain rfl := Option.some.inj hf
      exact E.done (by rw [eQ]; exact ⟨rfl, Or.inl ⟨_, _, rfl, rfl, dX11_isJob_54, rfl, rfl⟩⟩)
    · rw [if_neg hc6] at hf
      refine E_iload_n (v := a2) dX11_isJob_19 rfl ?_
      refine E_iconst 0 dX11_isJob_20 ic_0 ?_
      refine E_iconst 1 dX11_isJob_21 ic_1 ?_
      obtain ⟨r8, hc7, hf⟩ := bd_some hf
      try dsimp only at hf
      refine E_callSi (rest := []) cs_RX11_100 dX11_isJob_22 (MX11_within hc7) rfl rfl rfl (fun _ => Nat.le_of_ble_eq_true rfl) ?_
      refine E_if_eq 53 dX11_isJob_25 (by decide) (fun hc9 => ?_) (fun hc9 => ?_)
      · rw [if_pos hc9] at hf
        refine E_iconst 0 dX11_isJob_53 ic_0 ?_
        obtain rfl := Option.some.inj hf
        exact E.done (by rw [eQ]; exact ⟨rfl, Or.inl ⟨_, _, rfl, rfl, dX11_isJob_54, rfl, rfl⟩⟩)
      · rw [if_neg hc9] at hf
        refine E_iload_n (v := a3) dX11_isJob_28 rfl ?_
        refine E_iconst 0 dX11_isJob_29 ic_0 ?_
        refine E_bipush 60 dX11_isJob_30 bp_60 ?_
        obtain ⟨r11, hc10, hf⟩ := bd_some hf
        try dsimp only at hf
        refine E_callSi (rest := []) cs_RX11_100 dX11_isJob_32 (MX11_within hc10) rfl rfl rfl (fun _ => Nat.le_of_ble_eq_true rfl) ?_
        refine E_if_eq 53 dX11_isJob_35 (by decide) (fun hc12 => ?_) (fun hc12 => ?_)
        · rw [if_pos hc12] at hf
          refine E_iconst 0 dX11_isJob_53 ic_0 ?_
          obtain rfl := Option.some.inj hf
          exact E.done (by rw [eQ]; exact ⟨rfl, Or.inl ⟨_, _, rfl, rfl, dX11_isJob_54, rfl, rfl⟩⟩)
        · rw [if_neg hc12] at hf
          refine E_iload (v := a4) dX11_isJob_38 rfl ?_
          refine E_iconst 0 dX11_isJob_40 ic_0 ?_
          refine E_bipush 99 dX11_isJob_41 bp_99 ?_
          obtain ⟨r14, hc13, hf⟩ := bd_some hf
          try dsimp only at hf
          refine E_callSi (rest := []) cs_RX11_100 dX11_isJob_43 (MX11_within hc13) rfl rfl rfl (fun _ => Nat.le_of_ble_eq_true rfl) ?_
          refine E_if_eq 53 dX11_isJob_46 (by decide) (fun hc15 => ?_) (fun hc15 => ?_)
          · rw [if_pos hc15] at hf
            refine E_iconst 0 dX11_isJob_53 ic_0 ?_
            obtain rfl := Option.some.inj hf
            exact E.done (by rw [eQ]; exact ⟨rfl, Or.inl ⟨_, _, rfl, rfl, dX11_isJob_54, rfl, rfl⟩⟩)
          · rw [if_neg hc15] at hf
            refine E_iconst 1 dX11_isJob_49 ic_1 ?_
            refine E_goto 54 dX11_isJob_50 (by decide) ?_
            obtain rfl := Option.some.inj hf
            exact E.done (by rw [eQ]; exact ⟨rfl, Or.inl ⟨_, _, rfl, rfl, dX11_isJob_54, rfl, rfl⟩⟩)
set_option maxRecDepth 10000 in
set_option maxHeartbeats 2000000 in
theorem MX11_gain {N : Nat} {a0 : Int32} {a1 : Int32} {a2 : Int32} {a3 : Int32} {a4 : Int32} {w : AW} {rZ : Int32} {wZ : AW} (hf : fX11_gain N a0 a1 a2 a3 a4 w = some (rZ, wZ)) : CallOK PC yX11_gain cX11_gain 7 (some .int) 14 [.ref 0, .int a0, .int a1, .int a2, .int a3, .int a4] w (some (.int rZ)) wZ := by
  refine CallOK.of (ls := [some (.ref 0), some (.int a0), some (.int a1), some (.int a2), some (.int a3), some (.int a4), none]) (by decide) (by simp) rfl rfl ?_
  obtain ⟨Q, eQ⟩ : ∃ Q, Q = Qret cX11_gain (some .int) (some (.int rZ)) wZ := ⟨_, rfl⟩
  rw [← eQ]
  unfold fX11_gain at hf
  refine E_iload_n (v := a0) dX11_gain_0 rfl ?_
  refine E_iload_n (v := a1) dX11_gain_1 rfl ?_
  refine E_iload_n (v := a2) dX11_gain_2 rfl ?_
  refine E_iload (v := a3) dX11_gain_3 rfl ?_
  refine E_iload (v := a4) dX11_gain_5 rfl ?_
  obtain ⟨r2, hc1, hf⟩ := bd_some hf
  try dsimp only at hf
  refine E_callSi (rest := []) cs_RX11_132 dX11_gain_7 (MX11_isJob hc1) rfl rfl rfl (fun _ => Nat.le_of_ble_eq_true rfl) ?_
  refine E_if_eq 28 dX11_gain_10 (by decide) (fun hc3 => ?_) (fun hc3 => ?_)
  · rw [if_pos hc3] at hf
    refine E_ldc (-2147483648) dX11_gain_28 wk_RX11_207 ?_
    obtain ⟨rfl, rfl⟩ := ret2 hf
    exact E.done (by rw [eQ]; exact ⟨rfl, Or.inl ⟨_, _, rfl, rfl, dX11_gain_30, rfl, rfl⟩⟩)
  · rw [if_neg hc3] at hf
    refine E_aload_n (v := 0) dX11_gain_13 rfl ?_
    refine E_getR fg_RX11_10 dX11_gain_14 sC_0 rfl rC_0_0 (Nat.succ_ne_zero _) ?_
    refine E_getR fg_RX11_130 dX11_gain_17 sC_1 rfl rC_1_0 (Nat.succ_ne_zero _) ?_
    refine E_getI fg_RX11_131 dX11_gain_20 sC_2 rfl ?_
    refine E_bipush 6 dX11_gain_23 bp_6 ?_
    refine E_icmp_lt 31 dX11_gain_25 (by decide) (fun hc4 => ?_) (fun hc4 => ?_)
    · rw [if_pos hc4] at hf
      refine E_aload_n (v := 0) dX11_gain_31 rfl ?_
      refine E_getR fg_RX11_43 dX11_gain_32 sC_0 rfl rC_0_6 (Nat.succ_ne_zero _) ?_
      refine E_aload_n (v := 0) dX11_gain_35 rfl ?_
      refine E_getR fg_RX11_10 dX11_gain_36 sC_0 rfl rC_0_0 (Nat.succ_ne_zero _) ?_
      refine E_iconst 0 dX11_gain_39 ic_0 ?_
      obtain ⟨w6, hc5, hf⟩ := bd_some hf
      try dsimp only at hf
      refine E_callVv (rest := []) (ci := 3) cv_RX11_208 dX11_gain_40 (MX3_measure B_is1 hc5) rfl sC_46 rfl (by decide) rfl rfl (fun _ => Nat.le_of_ble_eq_true rfl) ?_
      refine E_aload_n (v := 0) dX11_gain_43 rfl ?_
      refine E_getR fg_RX11_52 dX11_gain_44 sC_0 rfl rC_0_7 (Nat.succ_ne_zero _) ?_
      refine E_aload_n (v := 0) dX11_gain_47 rfl ?_
      refine E_getR fg_RX11_10 dX11_gain_48 sC_0 rfl rC_0_0 (Nat.succ_ne_zero _) ?_
      refine E_getR fg_RX11_130 dX11_gain_51 sC_1 rfl rC_1_0 (Nat.succ_ne_zero _) ?_
      refine E_bipush (-9) dX11_gain_54 bp_m9 ?_
      obtain ⟨r8, w9, hc7, hf⟩ := bd2_some hf
      try dsimp only at hf
      refine E_callVi (rest := []) (ci := 5) cv_RX11_212 dX11_gain_56 (MX5_mostWorth J_is2 hc7) rfl sC_49 rfl (by decide) rfl rfl (fun _ => Nat.le_of_ble_eq_true rfl) ?_
      refine E_istore (ls' := [some (.ref 0), some (.int a0), some (.int a1), some (.int a2), some (.int a3), some (.int a4), some (.int r8)]) dX11_gain_59 rfl rfl rfl ?_
      refine E_aload_n (v := 0) dX11_gain_61 rfl ?_
      refine E_getR fg_RX11_82 dX11_gain_62 sC_0 rfl rC_0_11 (Nat.succ_ne_zero _) ?_
      refine E_aload_n (v := 0) dX11_gain_65 rfl ?_
      refine E_getR fg_RX11_10 dX11_gain_66 sC_0 rfl rC_0_0 (Nat.succ_ne_zero _) ?_
      refine E_getR fg_RX11_130 dX11_gain_69 sC_1 rfl rC_1_0 (Nat.succ_ne_zero _) ?_
      obtain ⟨w12, hc11, hf⟩ := bd_some hf
      try dsimp only at hf
      refine E_callVv (rest := []) (ci := 4) cv_RX11_227 dX11_gain_72 (MX4_copy J_is61 J_is2 hc11) rfl sC_61 rfl (by decide) rfl rfl (fun _ => Nat.le_of_ble_eq_true rfl) ?_
      refine E_aload_n (v := 0) dX11_gain_75 rfl ?_
      refine E_getR fg_RX11_82 dX11_gain_76 sC_0 rfl rC_0_11 (Nat.succ_ne_zero _) ?_
      refine E_iload_n (v := a0) dX11_gain_79 rfl ?_
      refine E_iload_n (v := a1) dX11_gain_80 rfl ?_
      refine E_iload_n (v := a2) dX11_gain_81 rfl ?_
      refine E_iload (v := a3) dX11_gain_82 rfl ?_
      refine E_iload (v := a4) dX11_gain_84 rfl ?_
      obtain ⟨w14, hc13, hf⟩ := bd_some hf
      try dsimp only at hf
      refine E_callVv (rest := []) (ci := 4) cv_RX11_231 dX11_gain_86 (MX4_add J_is61 hc13) rfl sC_61 rfl (by decide) rfl rfl (fun _ => Nat.le_of_ble_eq_true rfl) ?_
      refine E_aload_n (v := 0) dX11_gain_89 rfl ?_
      refine E_getR fg_RX11_52 dX11_gain_90 sC_0 rfl rC_0_7 (Nat.succ_ne_zero _) ?_
      refine E_aload_n (v := 0) dX11_gain_93 rfl ?_
      refine E_getR fg_RX11_82 dX11_gain_94 sC_0 rfl rC_0_11 (Nat.succ_ne_zero _) ?_
      refine E_bipush (-9) dX11_gain_97 bp_m9 ?_
      obtain ⟨r16, w17, hc15, hf⟩ := bd2_some hf
      try dsimp only at hf
      refine E_callVi (rest := []) (ci := 5) cv_RX11_212 dX11_gain_99 (MX5_mostWorth J_is61 hc15) rfl sC_49 rfl (by decide) rfl rfl (fun _ => Nat.le_of_ble_eq_true rfl) ?_
      refine E_iload (v := r8) dX11_gain_102 rfl ?_
      refine E_isub dX11_gain_104 ?_
      obtain ⟨rfl, rfl⟩ := ret2 hf
      exact E.done (by rw [eQ]; exact ⟨rfl, Or.inl ⟨_, _, rfl, rfl, dX11_gain_105, rfl, rfl⟩⟩)
    · rw [if_neg hc4] at hf
      refine E_ldc (-2147483648) dX11_gain_28 wk_RX11_207 ?_
      obtain ⟨rfl, rfl⟩ := ret2 hf
      exact E.done (by rw [eQ]; exact ⟨rfl, Or.inl ⟨_, _, rfl, rfl, dX11_gain_30, rfl, rfl⟩⟩)
set_option maxRecDepth 10000 in
set_option maxHeartbeats 2000000 in
theorem BX1_workSlot_52 (N : Nat) (b : Nat) (p1_52 : Int32) (w : AW) (hb : isB b) (rZ : Int32) (wZ : AW) {Q : Nat → List (Option Value) → List Value → AW → Prop} (eQ : Q = Qret cX1_workSlot (some .boolean) (some (.int rZ)) wZ) (hf : bX1_workSlot_52 N b p1_52 w = some (rZ, wZ)) : E PC RX1 cX1_workSlot 2 4 52 [some (.ref b), some (.int p1_52)] [] w Q := by
  unfold bX1_workSlot_52 at hf
  refine E_aload_n (v := b) dX1_workSlot_52 rfl ?_
  refine E_getI fg_RX1_38 dX1_workSlot_53 (B_s0 hb) rfl ?_
  refine E_if_le 71 dX1_workSlot_56 (by decide) (fun hc6 => ?_) (fun hc6 => ?_)
  · rw [if_pos hc6] at hf
    refine E_aload_n (v := b) dX1_workSlot_71 rfl ?_
    refine E_getR fg_RX1_12 dX1_workSlot_72 (B_s0 hb) rfl (B_r0_0 hb) (Nat.succ_ne_zero _) ?_
    refine E_getR fg_RX1_78 dX1_workSlot_75 (B_s1 hb) rfl (B_r1_2 hb) (Nat.succ_ne_zero _) ?_
    refine E_iload_n (v := p1_52) dX1_workSlot_78 rfl ?_
    refine E_dup2_ir dX1_workSlot_79 ?_
    obtain ⟨hi7, hf⟩ := gd_some hf
    refine E_iald (n := 6) dX1_workSlot_80 (B_s3 hb) (by decide) (inb_in hi7) ?_
    refine E_iconst 1 dX1_workSlot_81 ic_1 ?_
    refine E_isub dX1_workSlot_82 ?_
    obtain ⟨w8, ew8, hf⟩ := lw_some hf
    try dsimp only at hf
    refine E_iast (n := 6) dX1_workSlot_83 (B_s3 hb) (by decide) (inb_in hi7) ?_
    rw [← ew8]
    refine E_aload_n (v := b) dX1_workSlot_84 rfl ?_
    refine E_getR fg_RX1_12 dX1_workSlot_85 (B_s0 hb) rfl (B_r0_0 hb) (Nat.succ_ne_zero _) ?_
    refine E_getR fg_RX1_78 dX1_workSlot_88 (B_s1 hb) rfl (B_r1_2 hb) (Nat.succ_ne_zero _) ?_
    refine E_iload_n (v := p1_52) dX1_workSlot_91 rfl ?_
    refine E_iald (n := 6) dX1_workSlot_92 (B_s3 hb) (by decide) (inb_in hi7) ?_
    refine E_if_le 98 dX1_workSlot_93 (by decide) (fun hc9 => ?_) (fun hc9 => ?_)
    · rw [if_pos hc9] at hf
      refine E_aload_n (v := b) dX1_workSlot_98 rfl ?_
      refine E_dup_r dX1_workSlot_99 ?_
      refine E_getI fg_RX1_41 dX1_workSlot_100 (B_s0 hb) rfl ?_
      refine E_aload_n (v := b) dX1_workSlot_103 rfl ?_
      refine E_getR fg_RX1_12 dX1_workSlot_104 (B_s0 hb) rfl (B_r0_0 hb) (Nat.succ_ne_zero _) ?_
      refine E_iload_n (v := p1_52) dX1_workSlot_107 rfl ?_
      refine E_aload_n (v := b) dX1_workSlot_108 rfl ?_
      refine E_getI fg_RX1_31 dX1_workSlot_109 (B_s0 hb) rfl ?_
      refine E_aload_n (v := b) dX1_workSlot_112 rfl ?_
      refine E_getR fg_RX1_18 dX1_workSlot_113 (B_s0 hb) rfl (B_r0_1 hb) (Nat.succ_ne_zero _) ?_
      refine E_iconst 2 dX1_workSlot_116 ic_2 ?_
      refine E_iald (n := 4) dX1_workSlot_117 (B_s7 hb) (by decide) (inb_in (by decide)) ?_
      obtain ⟨r11, hc10, hf⟩ := bd_some hf
      try dsimp only at hf
      refine E_callVi (rest := [.int (w8.1 b 8), .ref b]) (ci := 4) cv_RX1_81 dX1_workSlot_118 (MX4_valueOf (B_j1 hb) hc10) rfl (B_s1 hb) rfl (by decide) rfl rfl (fun _ => Nat.le_of_ble_eq_true rfl) ?_
      refine E_iadd dX1_workSlot_121 ?_
      obtain ⟨w12, ew12, hf⟩ := lw_some hf
      try dsimp only at hf
      refine E_putI fp_RX1_41 dX1_workSlot_122 (B_s0 hb) rfl rfl rfl ?_
      rw [← ew12]
      refine E_aload_n (v := b) dX1_workSlot_125 rfl ?_
      refine E_iload_n (v := p1_52) dX1_workSlot_126 rfl ?_
      obtain ⟨w14, hc13, hf⟩ := bd_some hf
      try dsimp only at hf
      refine E_callVv (rest := []) (ci := 1) cv_RX1_85 dX1_workSlot_127 (MX1_leave hb hc13) rfl (B_s0 hb) rfl (by decide) rfl rfl (fun _ => Nat.le_of_ble_eq_true rfl) ?_
      refine E_iconst 1 dX1_workSlot_130 ic_1 ?_
      obtain ⟨rfl, rfl⟩ := ret2 hf
      exact E.done (by rw [eQ]; exact ⟨rfl, Or.inl ⟨_, _, rfl, rfl, dX1_workSlot_131, rfl, rfl⟩⟩)
    · rw [if_neg hc9] at hf
      refine E_iconst 0 dX1_workSlot_96 ic_0 ?_
      obtain ⟨rfl, rfl⟩ := ret2 hf
      exact E.done (by rw [eQ]; exact ⟨rfl, Or.inl ⟨_, _, rfl, rfl, dX1_workSlot_97, rfl, rfl⟩⟩)
  · rw [if_neg hc6] at hf
    refine E_aload_n (v := b) dX1_workSlot_59 rfl ?_
    refine E_dup_r dX1_workSlot_60 ?_
    refine E_getI fg_RX1_38 dX1_workSlot_61 (B_s0 hb) rfl ?_
    refine E_iconst 1 dX1_workSlot_64 ic_1 ?_
    refine E_isub dX1_workSlot_65 ?_
    obtain ⟨w15, ew15, hf⟩ := lw_some hf
    try dsimp only at hf
    refine E_putI fp_RX1_38 dX1_workSlot_66 (B_s0 hb) rfl rfl rfl ?_
    rw [← ew15]
    refine E_iconst 0 dX1_workSlot_69 ic_0 ?_
    obtain ⟨rfl, rfl⟩ := ret2 hf
    exact E.done (by rw [eQ]; exact ⟨rfl, Or.inl ⟨_, _, rfl, rfl, dX1_workSlot_70, rfl, rfl⟩⟩)
set_option maxRecDepth 10000 in
set_option maxHeartbeats 2000000 in
theorem MX1_workSlot {N : Nat} {b : Nat} {a0 : Int32} {w : AW} {rZ : Int32} {wZ : AW} (hb : isB b) (hf : fX1_workSlot N b a0 w = some (rZ, wZ)) : CallOK PC yX1_workSlot cX1_workSlot 2 (some .boolean) 4 [.ref b, .int a0] w (some (.int rZ)) wZ := by
  refine CallOK.of (ls := [some (.ref b), some (.int a0)]) (by decide) (by simp) rfl rfl ?_
  obtain ⟨Q, eQ⟩ : ∃ Q, Q = Qret cX1_workSlot (some .boolean) (some (.int rZ)) wZ := ⟨_, rfl⟩
  rw [← eQ]
  unfold fX1_workSlot at hf
  refine E_aload_n (v := b) dX1_workSlot_0 rfl ?_
  refine E_getR fg_RX1_12 dX1_workSlot_1 (B_s0 hb) rfl (B_r0_0 hb) (Nat.succ_ne_zero _) ?_
  refine E_iload_n (v := a0) dX1_workSlot_4 rfl ?_
  obtain ⟨r2, hc1, hf⟩ := bd_some hf
  try dsimp only at hf
  refine E_callVi (rest := []) (ci := 4) cv_RX1_73 dX1_workSlot_5 (MX4_has (B_j1 hb) hc1) rfl (B_s1 hb) rfl (by decide) rfl rfl (fun _ => Nat.le_of_ble_eq_true rfl) ?_
  refine E_if_ne 13 dX1_workSlot_8 (by decide) (fun hc3 => ?_) (fun hc3 => ?_)
  · rw [if_pos hc3] at hf
    refine E_iconst 0 dX1_workSlot_11 ic_0 ?_
    obtain ⟨rfl, rfl⟩ := ret2 hf
    exact E.done (by rw [eQ]; exact ⟨rfl, Or.inl ⟨_, _, rfl, rfl, dX1_workSlot_12, rfl, rfl⟩⟩)
  · rw [if_neg hc3] at hf
    refine E_aload_n (v := b) dX1_workSlot_13 rfl ?_
    refine E_getR fg_RX1_12 dX1_workSlot_14 (B_s0 hb) rfl (B_r0_0 hb) (Nat.succ_ne_zero _) ?_
    refine E_getR fg_RX1_76 dX1_workSlot_17 (B_s1 hb) rfl (B_r1_3 hb) (Nat.succ_ne_zero _) ?_
    refine E_iload_n (v := a0) dX1_workSlot_20 rfl ?_
    obtain ⟨hi4, hf⟩ := gd_some hf
    refine E_iald (n := 6) dX1_workSlot_21 (B_s4 hb) (by decide) (inb_in hi4) ?_
    refine E_aload_n (v := b) dX1_workSlot_22 rfl ?_
    refine E_getI fg_RX1_35 dX1_workSlot_23 (B_s0 hb) rfl ?_
    refine E_icmp_eq 52 dX1_workSlot_26 (by decide) (fun hc5 => ?_) (fun hc5 => ?_)
    · rw [if_pos hc5] at hf
      exact BX1_workSlot_52 N b a0 w hb rZ wZ eQ hf
    · rw [if_neg hc5] at hf
      refine E_aload_n (v := b) dX1_workSlot_29 rfl ?_
      refine E_aload_n (v := b) dX1_workSlot_30 rfl ?_
      refine E_getR fg_RX1_12 dX1_workSlot_31 (B_s0 hb) rfl (B_r0_0 hb) (Nat.succ_ne_zero _) ?_
      refine E_getR fg_RX1_76 dX1_workSlot_34 (B_s1 hb) rfl (B_r1_3 hb) (Nat.succ_ne_zero _) ?_
      refine E_iload_n (v := a0) dX1_workSlot_37 rfl ?_
      refine E_iald (n := 6) dX1_workSlot_38 (B_s4 hb) (by decide) (inb_in hi4) ?_
      obtain ⟨w16, ew16, hf⟩ := lw_some hf
      try dsimp only at hf
      refine E_putI fp_RX1_35 dX1_workSlot_39 (B_s0 hb) rfl rfl rfl ?_
      rw [← ew16]
      refine E_aload_n (v := b) dX1_workSlot_42 rfl ?_
      refine E_aload_n (v := b) dX1_workSlot_43 rfl ?_
      refine E_getR fg_RX1_18 dX1_workSlot_44 (B_s0 hb) rfl (B_r0_1 hb) (Nat.succ_ne_zero _) ?_
      refine E_iconst 1 dX1_workSlot_47 ic_1 ?_
      refine E_iald (n := 4) dX1_workSlot_48 (B_s7 hb) (by decide) (inb_in (by decide)) ?_
      obtain ⟨w17, ew17, hf⟩ := lw_some hf
      try dsimp only at hf
      refine E_putI fp_RX1_38 dX1_workSlot_49 (B_s0 hb) rfl rfl rfl ?_
      rw [← ew17]
      exact BX1_workSlot_52 N b a0 w17 hb rZ wZ eQ hf
set_option maxRecDepth 10000 in
set_option maxHeartbeats 2000000 in
theorem MX1_workDay {N : Nat} {b : Nat} {w : AW} {rZ : Int32} {wZ : AW} (hb : isB b) (hf : fX1_workDay N b w = some (rZ, wZ)) : CallOK PC yX1_workDay cX1_workDay 4 (some .int) 5 [.ref b] w (some (.int rZ)) wZ := by
  refine CallOK.of (ls := [some (.ref b), none, none, none]) (by decide) (by simp) rfl rfl ?_
  obtain ⟨Q, eQ⟩ : ∃ Q, Q = Qret cX1_workDay (some .int) (some (.int rZ)) wZ := ⟨_, rfl⟩
  rw [← eQ]
  unfold fX1_workDay at hf
  refine E_iconst 0 dX1_workDay_0 ic_0 ?_
  refine E_istore_n (ls' := [some (.ref b), some (.int 0), none, none]) dX1_workDay_1 rfl rfl rfl ?_
  refine E_aload_n (v := b) dX1_workDay_2 rfl ?_
  refine E_aload_n (v := b) dX1_workDay_3 rfl ?_
  refine E_getI fg_RX1_31 dX1_workDay_4 (B_s0 hb) rfl ?_
  obtain ⟨r2, hc1, hf⟩ := bd_some hf
  try dsimp only at hf
  refine E_callVi (rest := []) (ci := 1) cv_RX1_65 dX1_workDay_7 (MX1_slotsOn hb hc1) rfl (B_s0 hb) rfl (by decide) rfl rfl (fun _ => Nat.le_of_ble_eq_true rfl) ?_
  refine E_istore_n (ls' := [some (.ref b), some (.int 0), some (.int r2), none]) dX1_workDay_10 rfl rfl rfl ?_
  refine E_iconst 0 dX1_workDay_11 ic_0 ?_
  refine E_istore_n (ls' := [some (.ref b), some (.int 0), some (.int r2), some (.int 0)]) dX1_workDay_12 rfl rfl rfl ?_
  obtain ⟨q, hw10, hf⟩ := bd_some hf
  try dsimp only at hf
  show (fun (s : Int32 × Int32 × AW) => E PC RX1 cX1_workDay 4 5 13 [some (.ref b), some (.int s.1), some (.int r2), some (.int s.2.1)] [] s.2.2 Q) (0, 0, w)
  refine wh_E (K := (fun (s : Int32 × Int32 × AW) => E PC RX1 cX1_workDay 4 5 13 [some (.ref b), some (.int s.1), some (.int r2), some (.int s.2.1)] [] s.2.2 Q)) (X := (fun (s : Int32 × AW) => E PC RX1 cX1_workDay 4 5 50 [some (.ref b), some (.int s.1), none, none] [] s.2 Q)) ?_ hw10 ?_
  · intro s9 z9 hf k9
    obtain ⟨x1_13_1, x3_13_1, w_13_1⟩ := s9
    dsimp only [lbX1_workDay_13_1] at hf
    show E PC RX1 cX1_workDay 4 5 13 [some (.ref b), some (.int x1_13_1), some (.int r2), some (.int x3_13_1)] [] w_13_1 Q
    refine E_iload_n (v := x3_13_1) dX1_workDay_13 rfl ?_
    refine E_iload_n (v := r2) dX1_workDay_14 rfl ?_
    refine E_icmp_ge 50 dX1_workDay_15 (by decide) (fun hc3 => ?_) (fun hc3 => ?_)
    · rw [if_pos hc3] at hf
      obtain rfl := Option.some.inj hf
      refine E.fewer (ls' := [some (.ref b), some (.int x1_13_1), none, none]) ⟨Or.inr rfl, ⟨Or.inr rfl, ⟨Or.inl rfl, ⟨Or.inl rfl, trivial⟩⟩⟩⟩ ?_
      exact k9
    · rw [if_neg hc3] at hf
      refine E_aload_n (v := b) dX1_workDay_18 rfl ?_
      refine E_getR fg_RX1_12 dX1_workDay_19 (B_s0 hb) rfl (B_r0_0 hb) (Nat.succ_ne_zero _) ?_
      refine E_getI fg_RX1_54 dX1_workDay_22 (B_s1 hb) rfl ?_
      refine E_if_le 50 dX1_workDay_25 (by decide) (fun hc4 => ?_) (fun hc4 => ?_)
      · rw [if_pos hc4] at hf
        obtain rfl := Option.some.inj hf
        refine E.fewer (ls' := [some (.ref b), some (.int x1_13_1), none, none]) ⟨Or.inr rfl, ⟨Or.inr rfl, ⟨Or.inl rfl, ⟨Or.inl rfl, trivial⟩⟩⟩⟩ ?_
        exact k9
      · rw [if_neg hc4] at hf
        refine E_aload_n (v := b) dX1_workDay_28 rfl ?_
        refine E_aload_n (v := b) dX1_workDay_29 rfl ?_
        refine E_getR fg_RX1_28 dX1_workDay_30 (B_s0 hb) rfl (B_r0_4 hb) (Nat.succ_ne_zero _) ?_
        refine E_iconst 0 dX1_workDay_33 ic_0 ?_
        refine E_iald (n := 6) dX1_workDay_34 (B_s10 hb) (by decide) (inb_in (by decide)) ?_
        obtain ⟨r6, w7, hc5, hf⟩ := bd2_some hf
        try dsimp only at hf
        refine E_callVi (rest := []) (ci := 1) cv_RX1_69 dX1_workDay_35 (MX1_workSlot hb hc5) rfl (B_s0 hb) rfl (by decide) rfl rfl (fun _ => Nat.le_of_ble_eq_true rfl) ?_
        refine E_if_eq 44 dX1_workDay_38 (by decide) (fun hc9 => ?_) (fun hc9 => ?_)
        · rw [if_pos hc9] at hf
          refine E_iinc (ls' := [some (.ref b), some (.int x1_13_1), some (.int r2), some (.int (x3_13_1 + 1))]) 1 dX1_workDay_44 rfl ic_1 rfl rfl rfl ?_
          refine E_goto 13 dX1_workDay_47 (by decide) ?_
          obtain rfl := Option.some.inj hf
          exact k9
        · rw [if_neg hc9] at hf
          refine E_iinc (ls' := [some (.ref b), some (.int (x1_13_1 + 1)), some (.int r2), some (.int x3_13_1)]) 1 dX1_workDay_41 rfl ic_1 rfl rfl rfl ?_
          refine E_iinc (ls' := [some (.ref b), some (.int (x1_13_1 + 1)), some (.int r2), some (.int (x3_13_1 + 1))]) 1 dX1_workDay_44 rfl ic_1 rfl rfl rfl ?_
          refine E_goto 13 dX1_workDay_47 (by decide) ?_
          obtain rfl := Option.some.inj hf
          exact k9
  · skip
    obtain ⟨y11, w12⟩ := q
    try dsimp only at hf
    show E PC RX1 cX1_workDay 4 5 50 [some (.ref b), some (.int y11), none, none] [] w12 Q
    refine E_aload_n (v := b) dX1_workDay_50 rfl ?_
    refine E_dup_r dX1_workDay_51 ?_
    refine E_getI fg_RX1_31 dX1_workDay_52 (B_s0 hb) rfl ?_
    refine E_iconst 1 dX1_workDay_55 ic_1 ?_
    refine E_iadd dX1_workDay_56 ?_
    obtain ⟨w13, ew13, hf⟩ := lw_some hf
    try dsimp only at hf
    refine E_putI fp_RX1_31 dX1_workDay_57 (B_s0 hb) rfl rfl rfl ?_
    rw [← ew13]
    refine E_iload_n (v := y11) dX1_workDay_60 rfl ?_
    obtain ⟨rfl, rfl⟩ := ret2 hf
    exact E.done (by rw [eQ]; exact ⟨rfl, Or.inl ⟨_, _, rfl, rfl, dX1_workDay_61, rfl, rfl⟩⟩)
set_option maxRecDepth 10000 in
set_option maxHeartbeats 2000000 in
theorem MX11_goes {N : Nat} {w : AW} {rZ : Int32} {wZ : AW} (hf : fX11_goes N w = some (rZ, wZ)) : CallOK PC yX11_goes cX11_goes 1 (some .int) 6 [.ref 0] w (some (.int rZ)) wZ := by
  refine CallOK.of (ls := [some (.ref 0)]) (by decide) (by simp) rfl rfl ?_
  obtain ⟨Q, eQ⟩ : ∃ Q, Q = Qret cX11_goes (some .int) (some (.int rZ)) wZ := ⟨_, rfl⟩
  rw [← eQ]
  unfold fX11_goes at hf
  refine E_aload_n (v := 0) dX11_goes_0 rfl ?_
  refine E_getR fg_RX11_10 dX11_goes_1 sC_0 rfl rC_0_0 (Nat.succ_ne_zero _) ?_
  refine E_getI fg_RX11_186 dX11_goes_4 sC_1 rfl ?_
  refine E_bipush 60 dX11_goes_7 bp_60 ?_
  refine E_icmp_lt 15 dX11_goes_9 (by decide) (fun hc1 => ?_) (fun hc1 => ?_)
  · rw [if_pos hc1] at hf
    refine E_aload_n (v := 0) dX11_goes_15 rfl ?_
    refine E_getR fg_RX11_10 dX11_goes_16 sC_0 rfl rC_0_0 (Nat.succ_ne_zero _) ?_
    obtain ⟨r3, w4, hc2, hf⟩ := bd2_some hf
    try dsimp only at hf
    refine E_callVi (rest := []) (ci := 1) cv_RX11_281 dX11_goes_19 (MX1_workDay B_is1 hc2) rfl sC_1 rfl (by decide) rfl rfl (fun _ => Nat.le_of_ble_eq_true rfl) ?_
    obtain ⟨rfl, rfl⟩ := ret2 hf
    exact E.done (by rw [eQ]; exact ⟨rfl, Or.inl ⟨_, _, rfl, rfl, dX11_goes_22, rfl, rfl⟩⟩)
  · rw [if_neg hc1] at hf
    refine E_bipush (-4) dX11_goes_12 bp_m4 ?_
    obtain ⟨rfl, rfl⟩ := ret2 hf
    exact E.done (by rw [eQ]; exact ⟨rfl, Or.inl ⟨_, _, rfl, rfl, dX11_goes_14, rfl, rfl⟩⟩)
set_option maxRecDepth 10000 in
set_option maxHeartbeats 2000000 in
theorem MX11_item {a0 : Int32} {a1 : Int32} {a2 : Int32} {w : AW} {rZ : Int32} (hf : fX11_item a0 a1 a2 w = some rZ) : CallOK PC yX11_item cX11_item 4 (some .int) 3 [.ref 0, .int a0, .int a1, .int a2] w (some (.int rZ)) w := by
  refine CallOK.of (ls := [some (.ref 0), some (.int a0), some (.int a1), some (.int a2)]) (by decide) (by simp) rfl rfl ?_
  obtain ⟨Q, eQ⟩ : ∃ Q, Q = Qret cX11_item (some .int) (some (.int rZ)) w := ⟨_, rfl⟩
  rw [← eQ]
  unfold fX11_item at hf
  refine E_iload_n (v := a0) dX11_item_0 rfl ?_
  obtain ⟨r2, hc1, hf⟩ := bd_some hf
  try dsimp only at hf
  refine E_callSi (rest := []) cs_RX11_299 dX11_item_1 (MX7_isPlace hc1) rfl rfl rfl (fun _ => Nat.le_of_ble_eq_true rfl) ?_
  refine E_if_eq 16 dX11_item_4 (by decide) (fun hc3 => ?_) (fun hc3 => ?_)
  · rw [if_pos hc3] at hf
    refine E_iconst (-1) dX11_item_16 ic_m1 ?_
    obtain rfl := Option.some.inj hf
    exact E.done (by rw [eQ]; exact ⟨rfl, Or.inl ⟨_, _, rfl, rfl, dX11_item_17, rfl, rfl⟩⟩)
  · rw [if_neg hc3] at hf
    refine E_iload_n (v := a1) dX11_item_7 rfl ?_
    refine E_iconst 0 dX11_item_8 ic_0 ?_
    refine E_iconst 3 dX11_item_9 ic_3 ?_
    obtain ⟨r5, hc4, hf⟩ := bd_some hf
    try dsimp only at hf
    refine E_callSi (rest := []) cs_RX11_100 dX11_item_10 (MX11_within hc4) rfl rfl rfl (fun _ => Nat.le_of_ble_eq_true rfl) ?_
    refine E_if_ne 18 dX11_item_13 (by decide) (fun hc6 => ?_) (fun hc6 => ?_)
    · rw [if_pos hc6] at hf
      refine E_iconst (-1) dX11_item_16 ic_m1 ?_
      obtain rfl := Option.some.inj hf
      exact E.done (by rw [eQ]; exact ⟨rfl, Or.inl ⟨_, _, rfl, rfl, dX11_item_17, rfl, rfl⟩⟩)
    · rw [if_neg hc6] at hf
      refine E_aload_n (v := 0) dX11_item_18 rfl ?_
      refine E_getR fg_RX11_89 dX11_item_19 sC_0 rfl rC_0_12 (Nat.succ_ne_zero _) ?_
      refine E_getR fg_RX11_306 dX11_item_22 sC_67 rfl rC_67_0 (Nat.succ_ne_zero _) ?_
      refine E_iload_n (v := a0) dX11_item_25 rfl ?_
      obtain ⟨hi7, hf⟩ := gd_some hf
      refine E_iald (n := 4) dX11_item_26 sC_68 (by decide) (inb_in hi7) ?_
      refine E_iconst (-1) dX11_item_27 ic_m1 ?_
      refine E_icmp_ne 34 dX11_item_28 (by decide) (fun hc8 => ?_) (fun hc8 => ?_)
      · rw [if_pos hc8] at hf
        refine E_bipush (-11) dX11_item_31 bp_m11 ?_
        obtain rfl := Option.some.inj hf
        exact E.done (by rw [eQ]; exact ⟨rfl, Or.inl ⟨_, _, rfl, rfl, dX11_item_33, rfl, rfl⟩⟩)
      · rw [if_neg hc8] at hf
        refine E_aload_n (v := 0) dX11_item_34 rfl ?_
        refine E_getR fg_RX11_89 dX11_item_35 sC_0 rfl rC_0_12 (Nat.succ_ne_zero _) ?_
        refine E_getR fg_RX11_306 dX11_item_38 sC_67 rfl rC_67_0 (Nat.succ_ne_zero _) ?_
        refine E_iload_n (v := a0) dX11_item_41 rfl ?_
        refine E_iald (n := 4) dX11_item_42 sC_68 (by decide) (inb_in hi7) ?_
        refine E_iload_n (v := a1) dX11_item_43 rfl ?_
        refine E_icmp_eq 50 dX11_item_44 (by decide) (fun hc9 => ?_) (fun hc9 => ?_)
        · rw [if_pos hc9] at hf
          refine E_iload_n (v := a2) dX11_item_50 rfl ?_
          refine E_iconst 0 dX11_item_51 ic_0 ?_
          refine E_aload_n (v := 0) dX11_item_52 rfl ?_
          refine E_getR fg_RX11_89 dX11_item_53 sC_0 rfl rC_0_12 (Nat.succ_ne_zero _) ?_
          refine E_getR fg_RX11_309 dX11_item_56 sC_67 rfl rC_67_1 (Nat.succ_ne_zero _) ?_
          refine E_iload_n (v := a0) dX11_item_59 rfl ?_
          refine E_iald (n := 4) dX11_item_60 sC_69 (by decide) (inb_in hi7) ?_
          refine E_iconst 1 dX11_item_61 ic_1 ?_
          refine E_isub dX11_item_62 ?_
          obtain ⟨r11, hc10, hf⟩ := bd_some hf
          try dsimp only at hf
          refine E_callSi (rest := []) cs_RX11_100 dX11_item_63 (MX11_within hc10) rfl rfl rfl (fun _ => Nat.le_of_ble_eq_true rfl) ?_
          refine E_if_ne 72 dX11_item_66 (by decide) (fun hc12 => ?_) (fun hc12 => ?_)
          · rw [if_pos hc12] at hf
            refine E_bipush (-12) dX11_item_69 bp_m12 ?_
            obtain rfl := Option.some.inj hf
            exact E.done (by rw [eQ]; exact ⟨rfl, Or.inl ⟨_, _, rfl, rfl, dX11_item_71, rfl, rfl⟩⟩)
          · rw [if_neg hc12] at hf
            refine E_aload_n (v := 0) dX11_item_72 rfl ?_
            refine E_getR fg_RX11_89 dX11_item_73 sC_0 rfl rC_0_12 (Nat.succ_ne_zero _) ?_
            refine E_getR fg_RX11_312 dX11_item_76 sC_67 rfl rC_67_2 (Nat.succ_ne_zero _) ?_
            refine E_iload_n (v := a0) dX11_item_79 rfl ?_
            refine E_bipush 40 dX11_item_80 bp_40 ?_
            refine E_imul dX11_item_82 ?_
            refine E_iload_n (v := a2) dX11_item_83 rfl ?_
            refine E_iadd dX11_item_84 ?_
            obtain ⟨hi13, hf⟩ := gd_some hf
            refine E_iald (n := 160) dX11_item_85 sC_70 (by decide) (inb_in hi13) ?_
            obtain rfl := Option.some.inj hf
            exact E.done (by rw [eQ]; exact ⟨rfl, Or.inl ⟨_, _, rfl, rfl, dX11_item_86, rfl, rfl⟩⟩)
        · rw [if_neg hc9] at hf
          refine E_bipush (-13) dX11_item_47 bp_m13 ?_
          obtain rfl := Option.some.inj hf
          exact E.done (by rw [eQ]; exact ⟨rfl, Or.inl ⟨_, _, rfl, rfl, dX11_item_49, rfl, rfl⟩⟩)
set_option maxRecDepth 10000 in
set_option maxHeartbeats 2000000 in
theorem MX1_come {b : Nat} {a0 : Int32} {a1 : Int32} {a2 : Int32} {a3 : Int32} {a4 : Int32} {w : AW} {rZ : Int32} {wZ : AW} (hb : isB b) (hf : fX1_come b a0 a1 a2 a3 a4 w = some (rZ, wZ)) : CallOK PC yX1_come cX1_come 6 (some .int) 2 [.ref b, .int a0, .int a1, .int a2, .int a3, .int a4] w (some (.int rZ)) wZ := by
  refine CallOK.of (ls := [some (.ref b), some (.int a0), some (.int a1), some (.int a2), some (.int a3), some (.int a4)]) (by decide) (by simp) rfl rfl ?_
  obtain ⟨Q, eQ⟩ : ∃ Q, Q = Qret cX1_come (some .int) (some (.int rZ)) wZ := ⟨_, rfl⟩
  rw [← eQ]
  unfold fX1_come at hf
  refine E_aload_n (v := b) dX1_come_0 rfl ?_
  refine E_getR fg_RX1_12 dX1_come_1 (B_s0 hb) rfl (B_r0_0 hb) (Nat.succ_ne_zero _) ?_
  refine E_getI fg_RX1_54 dX1_come_4 (B_s1 hb) rfl ?_
  refine E_bipush 6 dX1_come_7 bp_6 ?_
  refine E_icmp_lt 15 dX1_come_9 (by decide) (fun hc1 => ?_) (fun hc1 => ?_)
  · rw [if_pos hc1] at hf
    refine E_aload_n (v := b) dX1_come_15 rfl ?_
    refine E_getR fg_RX1_28 dX1_come_16 (B_s0 hb) rfl (B_r0_4 hb) (Nat.succ_ne_zero _) ?_
    refine E_aload_n (v := b) dX1_come_19 rfl ?_
    refine E_getR fg_RX1_12 dX1_come_20 (B_s0 hb) rfl (B_r0_0 hb) (Nat.succ_ne_zero _) ?_
    refine E_getI fg_RX1_54 dX1_come_23 (B_s1 hb) rfl ?_
    refine E_aload_n (v := b) dX1_come_26 rfl ?_
    refine E_getR fg_RX1_12 dX1_come_27 (B_s0 hb) rfl (B_r0_0 hb) (Nat.succ_ne_zero _) ?_
    refine E_getI fg_RX1_54 dX1_come_30 (B_s1 hb) rfl ?_
    obtain ⟨hi2, hf⟩ := gd_some hf
    obtain ⟨w3, ew3, hf⟩ := lw_some hf
    try dsimp only at hf
    refine E_iast (n := 6) dX1_come_33 (B_s10 hb) (by decide) (inb_in hi2) ?_
    rw [← ew3]
    refine E_aload_n (v := b) dX1_come_34 rfl ?_
    refine E_getR fg_RX1_12 dX1_come_35 (B_s0 hb) rfl (B_r0_0 hb) (Nat.succ_ne_zero _) ?_
    refine E_iload_n (v := a0) dX1_come_38 rfl ?_
    refine E_iload_n (v := a1) dX1_come_39 rfl ?_
    refine E_iload_n (v := a2) dX1_come_40 rfl ?_
    refine E_iload (v := a3) dX1_come_41 rfl ?_
    refine E_iload (v := a4) dX1_come_43 rfl ?_
    obtain ⟨w5, hc4, hf⟩ := bd_some hf
    try dsimp only at hf
    refine E_callVv (rest := []) (ci := 4) cv_RX1_57 dX1_come_45 (MX4_add (B_j1 hb) hc4) rfl (B_s1 hb) rfl (by decide) rfl rfl (fun _ => Nat.le_of_ble_eq_true rfl) ?_
    refine E_aload_n (v := b) dX1_come_48 rfl ?_
    refine E_getR fg_RX1_12 dX1_come_49 (B_s0 hb) rfl (B_r0_0 hb) (Nat.succ_ne_zero _) ?_
    refine E_getI fg_RX1_54 dX1_come_52 (B_s1 hb) rfl ?_
    refine E_iconst 1 dX1_come_55 ic_1 ?_
    refine E_isub dX1_come_56 ?_
    obtain ⟨rfl, rfl⟩ := ret2 hf
    exact E.done (by rw [eQ]; exact ⟨rfl, Or.inl ⟨_, _, rfl, rfl, dX1_come_57, rfl, rfl⟩⟩)
  · rw [if_neg hc1] at hf
    refine E_bipush (-2) dX1_come_12 bp_m2 ?_
    obtain ⟨rfl, rfl⟩ := ret2 hf
    exact E.done (by rw [eQ]; exact ⟨rfl, Or.inl ⟨_, _, rfl, rfl, dX1_come_14, rfl, rfl⟩⟩)
set_option maxRecDepth 10000 in
set_option maxHeartbeats 2000000 in
theorem MX11_job {a0 : Int32} {a1 : Int32} {a2 : Int32} {a3 : Int32} {a4 : Int32} {w : AW} {rZ : Int32} {wZ : AW} (hf : fX11_job a0 a1 a2 a3 a4 w = some (rZ, wZ)) : CallOK PC yX11_job cX11_job 6 (some .int) 3 [.ref 0, .int a0, .int a1, .int a2, .int a3, .int a4] w (some (.int rZ)) wZ := by
  refine CallOK.of (ls := [some (.ref 0), some (.int a0), some (.int a1), some (.int a2), some (.int a3), some (.int a4)]) (by decide) (by simp) rfl rfl ?_
  obtain ⟨Q, eQ⟩ : ∃ Q, Q = Qret cX11_job (some .int) (some (.int rZ)) wZ := ⟨_, rfl⟩
  rw [← eQ]
  unfold fX11_job at hf
  refine E_iload_n (v := a0) dX11_job_0 rfl ?_
  refine E_iload_n (v := a1) dX11_job_1 rfl ?_
  refine E_iload_n (v := a2) dX11_job_2 rfl ?_
  refine E_iload (v := a3) dX11_job_3 rfl ?_
  refine E_iload (v := a4) dX11_job_5 rfl ?_
  obtain ⟨r2, hc1, hf⟩ := bd_some hf
  try dsimp only at hf
  refine E_callSi (rest := []) cs_RX11_132 dX11_job_7 (MX11_isJob hc1) rfl rfl rfl (fun _ => Nat.le_of_ble_eq_true rfl) ?_
  refine E_if_ne 15 dX11_job_10 (by decide) (fun hc3 => ?_) (fun hc3 => ?_)
  · rw [if_pos hc3] at hf
    refine E_iconst (-1) dX11_job_13 ic_m1 ?_
    obtain ⟨rfl, rfl⟩ := ret2 hf
    exact E.done (by rw [eQ]; exact ⟨rfl, Or.inl ⟨_, _, rfl, rfl, dX11_job_14, rfl, rfl⟩⟩)
  · rw [if_neg hc3] at hf
    refine E_aload_n (v := 0) dX11_job_15 rfl ?_
    refine E_getR fg_RX11_10 dX11_job_16 sC_0 rfl rC_0_0 (Nat.succ_ne_zero _) ?_
    refine E_iload_n (v := a0) dX11_job_19 rfl ?_
    refine E_iload_n (v := a1) dX11_job_20 rfl ?_
    refine E_iload_n (v := a2) dX11_job_21 rfl ?_
    refine E_iload (v := a3) dX11_job_22 rfl ?_
    refine E_iload (v := a4) dX11_job_24 rfl ?_
    obtain ⟨r5, w6, hc4, hf⟩ := bd2_some hf
    try dsimp only at hf
    refine E_callVi (rest := []) (ci := 1) cv_RX11_136 dX11_job_26 (MX1_come B_is1 hc4) rfl sC_1 rfl (by decide) rfl rfl (fun _ => Nat.le_of_ble_eq_true rfl) ?_
    obtain ⟨rfl, rfl⟩ := ret2 hf
    exact E.done (by rw [eQ]; exact ⟨rfl, Or.inl ⟨_, _, rfl, rfl, dX11_job_29, rfl, rfl⟩⟩)
set_option maxRecDepth 10000 in
set_option maxHeartbeats 2000000 in
theorem MX11_jobOf {a0 : Int32} {a1 : Int32} {w : AW} {rZ : Int32} (hf : fX11_jobOf a0 a1 w = some rZ) : CallOK PC yX11_jobOf cX11_jobOf 3 (some .int) 2 [.ref 0, .int a0, .int a1] w (some (.int rZ)) w := by
  refine CallOK.of (ls := [some (.ref 0), some (.int a0), some (.int a1)]) (by decide) (by simp) rfl rfl ?_
  obtain ⟨Q, eQ⟩ : ∃ Q, Q = Qret cX11_jobOf (some .int) (some (.int rZ)) w := ⟨_, rfl⟩
  rw [← eQ]
  unfold fX11_jobOf at hf
  refine E_aload_n (v := 0) dX11_jobOf_0 rfl ?_
  refine E_getR fg_RX11_10 dX11_jobOf_1 sC_0 rfl rC_0_0 (Nat.succ_ne_zero _) ?_
  refine E_getR fg_RX11_130 dX11_jobOf_4 sC_1 rfl rC_1_0 (Nat.succ_ne_zero _) ?_
  refine E_iload_n (v := a0) dX11_jobOf_7 rfl ?_
  obtain ⟨r2, hc1, hf⟩ := bd_some hf
  try dsimp only at hf
  refine E_callVi (rest := []) (ci := 4) cv_RX11_140 dX11_jobOf_8 (MX4_has J_is2 hc1) rfl sC_2 rfl (by decide) rfl rfl (fun _ => Nat.le_of_ble_eq_true rfl) ?_
  refine E_if_ne 16 dX11_jobOf_11 (by decide) (fun hc3 => ?_) (fun hc3 => ?_)
  · rw [if_pos hc3] at hf
    refine E_iconst (-1) dX11_jobOf_14 ic_m1 ?_
    obtain rfl := Option.some.inj hf
    exact E.done (by rw [eQ]; exact ⟨rfl, Or.inl ⟨_, _, rfl, rfl, dX11_jobOf_15, rfl, rfl⟩⟩)
  · rw [if_neg hc3] at hf
    refine E_iload_n (v := a1) dX11_jobOf_16 rfl ?_
    by_cases hc4 : a1 = 0
    · rw [if_pos hc4] at hf
      refine E_tableIn 52 dX11_jobOf_17 (by rw [hc4]; decide) (by rw [hc4]; decide) (by rw [hc4]; rfl) (by decide) ?_
      refine E_aload_n (v := 0) dX11_jobOf_52 rfl ?_
      refine E_getR fg_RX11_10 dX11_jobOf_53 sC_0 rfl rC_0_0 (Nat.succ_ne_zero _) ?_
      refine E_getR fg_RX11_130 dX11_jobOf_56 sC_1 rfl rC_1_0 (Nat.succ_ne_zero _) ?_
      refine E_getR fg_RX11_144 dX11_jobOf_59 sC_2 rfl rC_2_1 (Nat.succ_ne_zero _) ?_
      refine E_iload_n (v := a0) dX11_jobOf_62 rfl ?_
      obtain ⟨hi5, hf⟩ := gd_some hf
      refine E_iald (n := 6) dX11_jobOf_63 sC_3 (by decide) (inb_in hi5) ?_
      obtain rfl := Option.some.inj hf
      exact E.done (by rw [eQ]; exact ⟨rfl, Or.inl ⟨_, _, rfl, rfl, dX11_jobOf_64, rfl, rfl⟩⟩)
    · rw [if_neg hc4] at hf
      by_cases hc6 : a1 = 1
      · rw [if_pos hc6] at hf
        refine E_tableIn 65 dX11_jobOf_17 (by rw [hc6]; decide) (by rw [hc6]; decide) (by rw [hc6]; rfl) (by decide) ?_
        refine E_aload_n (v := 0) dX11_jobOf_65 rfl ?_
        refine E_getR fg_RX11_10 dX11_jobOf_66 sC_0 rfl rC_0_0 (Nat.succ_ne_zero _) ?_
        refine E_getR fg_RX11_130 dX11_jobOf_69 sC_1 rfl rC_1_0 (Nat.succ_ne_zero _) ?_
        refine E_getR fg_RX11_147 dX11_jobOf_72 sC_2 rfl rC_2_2 (Nat.succ_ne_zero _) ?_
        refine E_iload_n (v := a0) dX11_jobOf_75 rfl ?_
        obtain ⟨hi7, hf⟩ := gd_some hf
        refine E_iald (n := 6) dX11_jobOf_76 sC_4 (by decide) (inb_in hi7) ?_
        obtain rfl := Option.some.inj hf
        exact E.done (by rw [eQ]; exact ⟨rfl, Or.inl ⟨_, _, rfl, rfl, dX11_jobOf_77, rfl, rfl⟩⟩)
      · rw [if_neg hc6] at hf
        by_cases hc8 : a1 = 2
        · rw [if_pos hc8] at hf
          refine E_tableIn 78 dX11_jobOf_17 (by rw [hc8]; decide) (by rw [hc8]; decide) (by rw [hc8]; rfl) (by decide) ?_
          refine E_aload_n (v := 0) dX11_jobOf_78 rfl ?_
          refine E_getR fg_RX11_10 dX11_jobOf_79 sC_0 rfl rC_0_0 (Nat.succ_ne_zero _) ?_
          refine E_getR fg_RX11_130 dX11_jobOf_82 sC_1 rfl rC_1_0 (Nat.succ_ne_zero _) ?_
          refine E_getR fg_RX11_150 dX11_jobOf_85 sC_2 rfl rC_2_3 (Nat.succ_ne_zero _) ?_
          refine E_iload_n (v := a0) dX11_jobOf_88 rfl ?_
          obtain ⟨hi9, hf⟩ := gd_some hf
          refine E_iald (n := 6) dX11_jobOf_89 sC_5 (by decide) (inb_in hi9) ?_
          obtain rfl := Option.some.inj hf
          exact E.done (by rw [eQ]; exact ⟨rfl, Or.inl ⟨_, _, rfl, rfl, dX11_jobOf_90, rfl, rfl⟩⟩)
        · rw [if_neg hc8] at hf
          by_cases hc10 : a1 = 3
          · rw [if_pos hc10] at hf
            refine E_tableIn 91 dX11_jobOf_17 (by rw [hc10]; decide) (by rw [hc10]; decide) (by rw [hc10]; rfl) (by decide) ?_
            refine E_aload_n (v := 0) dX11_jobOf_91 rfl ?_
            refine E_getR fg_RX11_10 dX11_jobOf_92 sC_0 rfl rC_0_0 (Nat.succ_ne_zero _) ?_
            refine E_getR fg_RX11_130 dX11_jobOf_95 sC_1 rfl rC_1_0 (Nat.succ_ne_zero _) ?_
            refine E_getR fg_RX11_153 dX11_jobOf_98 sC_2 rfl rC_2_4 (Nat.succ_ne_zero _) ?_
            refine E_iload_n (v := a0) dX11_jobOf_101 rfl ?_
            obtain ⟨hi11, hf⟩ := gd_some hf
            refine E_iald (n := 6) dX11_jobOf_102 sC_6 (by decide) (inb_in hi11) ?_
            obtain rfl := Option.some.inj hf
            exact E.done (by rw [eQ]; exact ⟨rfl, Or.inl ⟨_, _, rfl, rfl, dX11_jobOf_103, rfl, rfl⟩⟩)
          · rw [if_neg hc10] at hf
            by_cases hc12 : a1 = 4
            · rw [if_pos hc12] at hf
              refine E_tableIn 104 dX11_jobOf_17 (by rw [hc12]; decide) (by rw [hc12]; decide) (by rw [hc12]; rfl) (by decide) ?_
              refine E_aload_n (v := 0) dX11_jobOf_104 rfl ?_
              refine E_getR fg_RX11_10 dX11_jobOf_105 sC_0 rfl rC_0_0 (Nat.succ_ne_zero _) ?_
              refine E_getR fg_RX11_130 dX11_jobOf_108 sC_1 rfl rC_1_0 (Nat.succ_ne_zero _) ?_
              refine E_getR fg_RX11_156 dX11_jobOf_111 sC_2 rfl rC_2_5 (Nat.succ_ne_zero _) ?_
              refine E_iload_n (v := a0) dX11_jobOf_114 rfl ?_
              obtain ⟨hi13, hf⟩ := gd_some hf
              refine E_iald (n := 6) dX11_jobOf_115 sC_7 (by decide) (inb_in hi13) ?_
              obtain rfl := Option.some.inj hf
              exact E.done (by rw [eQ]; exact ⟨rfl, Or.inl ⟨_, _, rfl, rfl, dX11_jobOf_116, rfl, rfl⟩⟩)
            · rw [if_neg hc12] at hf
              refine E_tableOut 117 dX11_jobOf_17 (tb_0_4 hc4 hc6 hc8 hc10 hc12) (by decide) ?_
              refine E_iconst (-1) dX11_jobOf_117 ic_m1 ?_
              obtain rfl := Option.some.inj hf
              exact E.done (by rw [eQ]; exact ⟨rfl, Or.inl ⟨_, _, rfl, rfl, dX11_jobOf_118, rfl, rfl⟩⟩)
set_option maxRecDepth 10000 in
set_option maxHeartbeats 2000000 in
theorem MX6_firstWrong {N : Nat} {o0 : Nat} {w : AW} {rZ : Int32} (ho0 : isJ o0) (hf : fX6_firstWrong N o0 w = some rZ) : CallOK PC yX6_firstWrong cX6_firstWrong 8 (some .int) 3 [.ref 59, .ref o0] w (some (.int rZ)) w := by
  refine CallOK.of (ls := [some (.ref 59), some (.ref o0), none, none, none, none, none, none]) (by decide) (by simp) rfl rfl ?_
  obtain ⟨Q, eQ⟩ : ∃ Q, Q = Qret cX6_firstWrong (some .int) (some (.int rZ)) w := ⟨_, rfl⟩
  rw [← eQ]
  unfold fX6_firstWrong at hf
  refine E_iconst 0 dX6_firstWrong_0 ic_0 ?_
  refine E_istore_n (ls' := [some (.ref 59), some (.ref o0), some (.int 0), none, none, none, none, none]) dX6_firstWrong_1 rfl rfl rfl ?_
  refine E_iconst 0 dX6_firstWrong_2 ic_0 ?_
  refine E_istore_n (ls' := [some (.ref 59), some (.ref o0), some (.int 0), some (.int 0), none, none, none, none]) dX6_firstWrong_3 rfl rfl rfl ?_
  refine E_iconst 0 dX6_firstWrong_4 ic_0 ?_
  refine E_istore (ls' := [some (.ref 59), some (.ref o0), some (.int 0), some (.int 0), some (.int 0), none, none, none]) dX6_firstWrong_5 rfl rfl rfl ?_
  refine E_iconst 0 dX6_firstWrong_7 ic_0 ?_
  refine E_istore (ls' := [some (.ref 59), some (.ref o0), some (.int 0), some (.int 0), some (.int 0), some (.int 0), none, none]) dX6_firstWrong_8 rfl rfl rfl ?_
  obtain ⟨q, hw19, hf⟩ := bd_some hf
  try dsimp only at hf
  show (fun (s : Int32 × Int32 × Int32 × Int32) => E PC RX6 cX6_firstWrong 8 3 10 [some (.ref 59), some (.ref o0), some (.int s.1), some (.int s.2.1), some (.int s.2.2.1), some (.int s.2.2.2), none, none] [] w Q) (0, 0, 0, 0)
  refine wh_E (K := (fun (s : Int32 × Int32 × Int32 × Int32) => E PC RX6 cX6_firstWrong 8 3 10 [some (.ref 59), some (.ref o0), some (.int s.1), some (.int s.2.1), some (.int s.2.2.1), some (.int s.2.2.2), none, none] [] w Q)) (X := (se (fun (s : Unit) => E PC RX6 cX6_firstWrong 8 3 155 [some (.ref 59), some (.ref o0), none, none, none, none, none, none] [] w Q) (se (fun (s : Int32) => E PC RX6 cX6_firstWrong 8 3 49 [none, none, none, none, none, some (.int s), none, none] [] w Q) (se (fun (s : Int32) => E PC RX6 cX6_firstWrong 8 3 110 [none, none, none, none, none, some (.int s), none, none] [] w Q) (fun (s : Int32) => E PC RX6 cX6_firstWrong 8 3 144 [none, none, none, none, none, some (.int s), none, none] [] w Q))))) ?_ hw19 ?_
  · intro s9 z9 hf k9
    obtain ⟨x2_10_1, x3_10_1, x4_10_1, x5_10_1⟩ := s9
    dsimp only [lbX6_firstWrong_10_1] at hf
    show E PC RX6 cX6_firstWrong 8 3 10 [some (.ref 59), some (.ref o0), some (.int x2_10_1), some (.int x3_10_1), some (.int x4_10_1), some (.int x5_10_1), none, none] [] w Q
    refine E_iload (v := x5_10_1) dX6_firstWrong_10 rfl ?_
    refine E_aload_n (v := 59) dX6_firstWrong_12 rfl ?_
    refine E_getI fg_RX6_15 dX6_firstWrong_13 sC_59 rfl ?_
    refine E_icmp_ge 155 dX6_firstWrong_16 (by decide) (fun hc1 => ?_) (fun hc1 => ?_)
    · rw [if_pos hc1] at hf
      obtain rfl := Option.some.inj hf
      refine E.fewer (ls' := [some (.ref 59), some (.ref o0), none, none, none, none, none, none]) ⟨Or.inr rfl, ⟨Or.inr rfl, ⟨Or.inl rfl, ⟨Or.inl rfl, ⟨Or.inl rfl, ⟨Or.inl rfl, ⟨Or.inl rfl, ⟨Or.inl rfl, trivial⟩⟩⟩⟩⟩⟩⟩⟩ ?_
      exact k9
    · rw [if_neg hc1] at hf
      refine E_aload_n (v := 59) dX6_firstWrong_19 rfl ?_
      refine E_getR fg_RX6_11 dX6_firstWrong_20 sC_59 rfl rC_59_1 (Nat.succ_ne_zero _) ?_
      refine E_iload (v := x5_10_1) dX6_firstWrong_23 rfl ?_
      refine E_iconst 3 dX6_firstWrong_25 ic_3 ?_
      refine E_imul dX6_firstWrong_26 ?_
      obtain ⟨hi2, hf⟩ := gd_some hf
      refine E_iald (n := 18) dX6_firstWrong_27 sC_60 (by decide) (inb_in hi2) ?_
      obtain ⟨v3, ev3, hf⟩ := lw_some hf
      try dsimp only at hf
      rw [← ev3]
      refine E_istore (ls' := [some (.ref 59), some (.ref o0), some (.int x2_10_1), some (.int x3_10_1), some (.int x4_10_1), some (.int x5_10_1), some (.int v3), none]) dX6_firstWrong_28 rfl rfl rfl ?_
      refine E_aload_n (v := o0) dX6_firstWrong_30 rfl ?_
      refine E_iload (v := v3) dX6_firstWrong_31 rfl ?_
      obtain ⟨r5, hc4, hf⟩ := bd_some hf
      try dsimp only at hf
      refine E_callVi (rest := []) (ci := 4) cv_RX6_46 dX6_firstWrong_33 (MX4_has ho0 hc4) rfl (J_s0 ho0) rfl (by decide) rfl rfl (fun _ => Nat.le_of_ble_eq_true rfl) ?_
      refine E_if_eq 49 dX6_firstWrong_36 (by decide) (fun hc6 => ?_) (fun hc6 => ?_)
      · rw [if_pos hc6] at hf
        obtain rfl := Option.some.inj hf
        refine E.fewer (ls' := [none, none, none, none, none, some (.int x5_10_1), none, none]) ⟨Or.inl rfl, ⟨Or.inl rfl, ⟨Or.inl rfl, ⟨Or.inl rfl, ⟨Or.inl rfl, ⟨Or.inr rfl, ⟨Or.inl rfl, ⟨Or.inl rfl, trivial⟩⟩⟩⟩⟩⟩⟩⟩ ?_
        exact k9
      · rw [if_neg hc6] at hf
        refine E_iload (v := x4_10_1) dX6_firstWrong_39 rfl ?_
        refine E_iload (v := v3) dX6_firstWrong_41 rfl ?_
        refine E_ishr dX6_firstWrong_43 ?_
        refine E_iconst 1 dX6_firstWrong_44 ic_1 ?_
        refine E_iand dX6_firstWrong_45 ?_
        refine E_if_eq 54 dX6_firstWrong_46 (by decide) (fun hc7 => ?_) (fun hc7 => ?_)
        · rw [if_pos hc7] at hf
          refine E_iload (v := x4_10_1) dX6_firstWrong_54 rfl ?_
          refine E_iconst 1 dX6_firstWrong_56 ic_1 ?_
          refine E_iload (v := v3) dX6_firstWrong_57 rfl ?_
          refine E_ishl dX6_firstWrong_59 ?_
          refine E_ior dX6_firstWrong_60 ?_
          refine E_istore (ls' := [some (.ref 59), some (.ref o0), some (.int x2_10_1), some (.int x3_10_1), some (.int (x4_10_1 ||| (1 <<< (v3 &&& 31)))), some (.int x5_10_1), some (.int v3), none]) dX6_firstWrong_61 rfl rfl rfl ?_
          refine E_aload_n (v := 59) dX6_firstWrong_63 rfl ?_
          refine E_getR fg_RX6_19 dX6_firstWrong_64 sC_59 rfl rC_59_0 (Nat.succ_ne_zero _) ?_
          refine E_iload_n (v := x2_10_1) dX6_firstWrong_67 rfl ?_
          refine E_iload_n (v := x3_10_1) dX6_firstWrong_68 rfl ?_
          refine E_aload_n (v := o0) dX6_firstWrong_69 rfl ?_
          refine E_iload (v := v3) dX6_firstWrong_70 rfl ?_
          obtain ⟨r9, hc8, hf⟩ := bd_some hf
          try dsimp only at hf
          refine E_callVi (rest := []) (ci := 3) cv_RX6_50 dX6_firstWrong_72 (MX3_usedBehind ho0 hc8) rfl sC_46 rfl (by decide) rfl rfl (fun _ => Nat.le_of_ble_eq_true rfl) ?_
          refine E_istore_n (ls' := [some (.ref 59), some (.ref o0), some (.int r9), some (.int x3_10_1), some (.int (x4_10_1 ||| (1 <<< (v3 &&& 31)))), some (.int x5_10_1), some (.int v3), none]) dX6_firstWrong_75 rfl rfl rfl ?_
          refine E_aload_n (v := o0) dX6_firstWrong_76 rfl ?_
          refine E_getR fg_RX6_54 dX6_firstWrong_77 (J_s0 ho0) rfl (J_r0_3 ho0) (Nat.succ_ne_zero _) ?_
          refine E_iload (v := v3) dX6_firstWrong_80 rfl ?_
          obtain ⟨hi10, hf⟩ := gd_some hf
          refine E_iald (n := 6) dX6_firstWrong_82 (J_s3 ho0) (by decide) (inb_in hi10) ?_
          refine E_istore_n (ls' := [some (.ref 59), some (.ref o0), some (.int r9), some (.int (w.1 (o0 + 3) v3.toNatClampNeg)), some (.int (x4_10_1 ||| (1 <<< (v3 &&& 31)))), some (.int x5_10_1), some (.int v3), none]) dX6_firstWrong_83 rfl rfl rfl ?_
          refine E_aload_n (v := 59) dX6_firstWrong_84 rfl ?_
          refine E_getR fg_RX6_19 dX6_firstWrong_85 sC_59 rfl rC_59_0 (Nat.succ_ne_zero _) ?_
          refine E_iload_n (v := r9) dX6_firstWrong_88 rfl ?_
          obtain ⟨r12, hc11, hf⟩ := bd_some hf
          try dsimp only at hf
          refine E_callVi (rest := []) (ci := 3) cv_RX6_57 dX6_firstWrong_89 (MX3_dayAt hc11) rfl sC_46 rfl (by decide) rfl rfl (fun _ => Nat.le_of_ble_eq_true rfl) ?_
          refine E_istore (ls' := [some (.ref 59), some (.ref o0), some (.int r9), some (.int (w.1 (o0 + 3) v3.toNatClampNeg)), some (.int (x4_10_1 ||| (1 <<< (v3 &&& 31)))), some (.int x5_10_1), some (.int v3), some (.int r12)]) dX6_firstWrong_92 rfl rfl rfl ?_
          refine E_aload_n (v := 59) dX6_firstWrong_94 rfl ?_
          refine E_getR fg_RX6_11 dX6_firstWrong_95 sC_59 rfl rC_59_1 (Nat.succ_ne_zero _) ?_
          refine E_iload (v := x5_10_1) dX6_firstWrong_98 rfl ?_
          refine E_iconst 3 dX6_firstWrong_100 ic_3 ?_
          refine E_imul dX6_firstWrong_101 ?_
          refine E_iconst 1 dX6_firstWrong_102 ic_1 ?_
          refine E_iadd dX6_firstWrong_103 ?_
          obtain ⟨hi13, hf⟩ := gd_some hf
          refine E_iald (n := 18) dX6_firstWrong_104 sC_60 (by decide) (inb_in hi13) ?_
          refine E_iload (v := r12) dX6_firstWrong_105 rfl ?_
          refine E_icmp_eq 115 dX6_firstWrong_107 (by decide) (fun hc14 => ?_) (fun hc14 => ?_)
          · rw [if_pos hc14] at hf
            refine E_aload_n (v := 59) dX6_firstWrong_115 rfl ?_
            refine E_getR fg_RX6_11 dX6_firstWrong_116 sC_59 rfl rC_59_1 (Nat.succ_ne_zero _) ?_
            refine E_iload (v := x5_10_1) dX6_firstWrong_119 rfl ?_
            refine E_iconst 3 dX6_firstWrong_121 ic_3 ?_
            refine E_imul dX6_firstWrong_122 ?_
            refine E_iconst 2 dX6_firstWrong_123 ic_2 ?_
            refine E_iadd dX6_firstWrong_124 ?_
            obtain ⟨hi15, hf⟩ := gd_some hf
            refine E_iald (n := 18) dX6_firstWrong_125 sC_60 (by decide) (inb_in hi15) ?_
            refine E_aload_n (v := o0) dX6_firstWrong_126 rfl ?_
            refine E_iload (v := v3) dX6_firstWrong_127 rfl ?_
            refine E_iload (v := r12) dX6_firstWrong_129 rfl ?_
            refine E_aload_n (v := 59) dX6_firstWrong_131 rfl ?_
            refine E_getR fg_RX6_19 dX6_firstWrong_132 sC_59 rfl rC_59_0 (Nat.succ_ne_zero _) ?_
            refine E_getI fg_RX6_39 dX6_firstWrong_135 sC_46 rfl ?_
            obtain ⟨r17, hc16, hf⟩ := bd_some hf
            try dsimp only at hf
            refine E_callVi (rest := [.int (w.1 60 ((x5_10_1 * 3) + 2).toNatClampNeg)]) (ci := 4) cv_RX6_42 dX6_firstWrong_138 (MX4_valueOf ho0 hc16) rfl (J_s0 ho0) rfl (by decide) rfl rfl (fun _ => Nat.le_of_ble_eq_true rfl) ?_
            refine E_icmp_eq 149 dX6_firstWrong_141 (by decide) (fun hc18 => ?_) (fun hc18 => ?_)
            · rw [if_pos hc18] at hf
              refine E_iinc (ls' := [some (.ref 59), some (.ref o0), some (.int r9), some (.int (w.1 (o0 + 3) v3.toNatClampNeg)), some (.int (x4_10_1 ||| (1 <<< (v3 &&& 31)))), some (.int (x5_10_1 + 1)), some (.int v3), some (.int r12)]) 1 dX6_firstWrong_149 rfl ic_1 rfl rfl rfl ?_
              refine E_goto 10 dX6_firstWrong_152 (by decide) ?_
              obtain rfl := Option.some.inj hf
              refine E.fewer (ls' := [some (.ref 59), some (.ref o0), some (.int r9), some (.int (w.1 (o0 + 3) v3.toNatClampNeg)), some (.int (x4_10_1 ||| (1 <<< (v3 &&& 31)))), some (.int (x5_10_1 + 1)), none, none]) ⟨Or.inr rfl, ⟨Or.inr rfl, ⟨Or.inr rfl, ⟨Or.inr rfl, ⟨Or.inr rfl, ⟨Or.inr rfl, ⟨Or.inl rfl, ⟨Or.inl rfl, trivial⟩⟩⟩⟩⟩⟩⟩⟩ ?_
              exact k9
            · rw [if_neg hc18] at hf
              obtain rfl := Option.some.inj hf
              refine E.fewer (ls' := [none, none, none, none, none, some (.int x5_10_1), none, none]) ⟨Or.inl rfl, ⟨Or.inl rfl, ⟨Or.inl rfl, ⟨Or.inl rfl, ⟨Or.inl rfl, ⟨Or.inr rfl, ⟨Or.inl rfl, ⟨Or.inl rfl, trivial⟩⟩⟩⟩⟩⟩⟩⟩ ?_
              exact k9
          · rw [if_neg hc14] at hf
            obtain rfl := Option.some.inj hf
            refine E.fewer (ls' := [none, none, none, none, none, some (.int x5_10_1), none, none]) ⟨Or.inl rfl, ⟨Or.inl rfl, ⟨Or.inl rfl, ⟨Or.inl rfl, ⟨Or.inl rfl, ⟨Or.inr rfl, ⟨Or.inl rfl, ⟨Or.inl rfl, trivial⟩⟩⟩⟩⟩⟩⟩⟩ ?_
            exact k9
        · rw [if_neg hc7] at hf
          obtain rfl := Option.some.inj hf
          refine E.fewer (ls' := [none, none, none, none, none, some (.int x5_10_1), none, none]) ⟨Or.inl rfl, ⟨Or.inl rfl, ⟨Or.inl rfl, ⟨Or.inl rfl, ⟨Or.inl rfl, ⟨Or.inr rfl, ⟨Or.inl rfl, ⟨Or.inl rfl, trivial⟩⟩⟩⟩⟩⟩⟩⟩ ?_
          exact k9
  · skip
    rcases q with q | q
    · dsimp only [se] at hf
      try dsimp only at hf
      show E PC RX6 cX6_firstWrong 8 3 155 [some (.ref 59), some (.ref o0), none, none, none, none, none, none] [] w Q
      refine E_aload_n (v := 59) dX6_firstWrong_155 rfl ?_
      refine E_getI fg_RX6_15 dX6_firstWrong_156 sC_59 rfl ?_
      refine E_aload_n (v := o0) dX6_firstWrong_159 rfl ?_
      refine E_getI fg_RX6_33 dX6_firstWrong_160 (J_s0 ho0) rfl ?_
      refine E_icmp_ge 172 dX6_firstWrong_163 (by decide) (fun hc20 => ?_) (fun hc20 => ?_)
      · rw [if_pos hc20] at hf
        refine E_iconst 0 dX6_firstWrong_172 ic_0 ?_
        obtain rfl := Option.some.inj hf
        exact E.done (by rw [eQ]; exact ⟨rfl, Or.inl ⟨_, _, rfl, rfl, dX6_firstWrong_173, rfl, rfl⟩⟩)
      · rw [if_neg hc20] at hf
        refine E_sipush 222 dX6_firstWrong_166 sp_222 ?_
        refine E_goto 173 dX6_firstWrong_169 (by decide) ?_
        obtain rfl := Option.some.inj hf
        exact E.done (by rw [eQ]; exact ⟨rfl, Or.inl ⟨_, _, rfl, rfl, dX6_firstWrong_173, rfl, rfl⟩⟩)
    · dsimp only [se] at hf
      rcases q with q | q
      · dsimp only [se] at hf
        obtain ⟨y21, hq9⟩ : ∃ a, a = q := ⟨_, rfl⟩
        subst hq9
        try dsimp only at hf
        show E PC RX6 cX6_firstWrong 8 3 49 [none, none, none, none, none, some (.int y21), none, none] [] w Q
        refine E_iload (v := y21) dX6_firstWrong_49 rfl ?_
        refine E_iconst 1 dX6_firstWrong_51 ic_1 ?_
        refine E_iadd dX6_firstWrong_52 ?_
        obtain rfl := Option.some.inj hf
        exact E.done (by rw [eQ]; exact ⟨rfl, Or.inl ⟨_, _, rfl, rfl, dX6_firstWrong_53, rfl, rfl⟩⟩)
      · dsimp only [se] at hf
        rcases q with q | q
        · dsimp only [se] at hf
          obtain ⟨y22, hq9⟩ : ∃ a, a = q := ⟨_, rfl⟩
          subst hq9
          try dsimp only at hf
          show E PC RX6 cX6_firstWrong 8 3 110 [none, none, none, none, none, some (.int y22), none, none] [] w Q
          refine E_iload (v := y22) dX6_firstWrong_110 rfl ?_
          refine E_iconst 1 dX6_firstWrong_112 ic_1 ?_
          refine E_iadd dX6_firstWrong_113 ?_
          obtain rfl := Option.some.inj hf
          exact E.done (by rw [eQ]; exact ⟨rfl, Or.inl ⟨_, _, rfl, rfl, dX6_firstWrong_114, rfl, rfl⟩⟩)
        · dsimp only [se] at hf
          obtain ⟨y23, hq9⟩ : ∃ a, a = q := ⟨_, rfl⟩
          subst hq9
          try dsimp only at hf
          show E PC RX6 cX6_firstWrong 8 3 144 [none, none, none, none, none, some (.int y23), none, none] [] w Q
          refine E_iload (v := y23) dX6_firstWrong_144 rfl ?_
          refine E_iconst 1 dX6_firstWrong_146 ic_1 ?_
          refine E_iadd dX6_firstWrong_147 ?_
          obtain rfl := Option.some.inj hf
          exact E.done (by rw [eQ]; exact ⟨rfl, Or.inl ⟨_, _, rfl, rfl, dX6_firstWrong_148, rfl, rfl⟩⟩)
set_option maxRecDepth 10000 in
set_option maxHeartbeats 2000000 in
theorem MX11_judge {N : Nat} {w : AW} {rZ : Int32} {wZ : AW} (hf : fX11_judge N w = some (rZ, wZ)) : CallOK PC yX11_judge cX11_judge 1 (some .int) 4 [.ref 0] w (some (.int rZ)) wZ := by
  refine CallOK.of (ls := [some (.ref 0)]) (by decide) (by simp) rfl rfl ?_
  obtain ⟨Q, eQ⟩ : ∃ Q, Q = Qret cX11_judge (some .int) (some (.int rZ)) wZ := ⟨_, rfl⟩
  rw [← eQ]
  unfold fX11_judge at hf
  refine E_aload_n (v := 0) dX11_judge_0 rfl ?_
  refine E_getR fg_RX11_43 dX11_judge_1 sC_0 rfl rC_0_6 (Nat.succ_ne_zero _) ?_
  refine E_aload_n (v := 0) dX11_judge_4 rfl ?_
  refine E_getR fg_RX11_10 dX11_judge_5 sC_0 rfl rC_0_0 (Nat.succ_ne_zero _) ?_
  refine E_iconst 0 dX11_judge_8 ic_0 ?_
  obtain ⟨w2, hc1, hf⟩ := bd_some hf
  try dsimp only at hf
  refine E_callVv (rest := []) (ci := 3) cv_RX11_208 dX11_judge_9 (MX3_measure B_is1 hc1) rfl sC_46 rfl (by decide) rfl rfl (fun _ => Nat.le_of_ble_eq_true rfl) ?_
  refine E_aload_n (v := 0) dX11_judge_12 rfl ?_
  refine E_getR fg_RX11_75 dX11_judge_13 sC_0 rfl rC_0_10 (Nat.succ_ne_zero _) ?_
  refine E_aload_n (v := 0) dX11_judge_16 rfl ?_
  refine E_getR fg_RX11_10 dX11_judge_17 sC_0 rfl rC_0_0 (Nat.succ_ne_zero _) ?_
  refine E_getR fg_RX11_130 dX11_judge_20 sC_1 rfl rC_1_0 (Nat.succ_ne_zero _) ?_
  obtain ⟨r4, hc3, hf⟩ := bd_some hf
  try dsimp only at hf
  refine E_callVi (rest := []) (ci := 6) cv_RX11_296 dX11_judge_23 (MX6_firstWrong J_is2 hc3) rfl sC_59 rfl (by decide) rfl rfl (fun _ => Nat.le_of_ble_eq_true rfl) ?_
  obtain ⟨rfl, rfl⟩ := ret2 hf
  exact E.done (by rw [eQ]; exact ⟨rfl, Or.inl ⟨_, _, rfl, rfl, dX11_judge_26, rfl, rfl⟩⟩)
set_option maxRecDepth 10000 in
set_option maxHeartbeats 2000000 in
theorem MX11_keep {N : Nat} {w : AW} {rZ : Int32} {wZ : AW} (hf : fX11_keep N w = some (rZ, wZ)) : CallOK PC yX11_keep cX11_keep 1 (some .int) 3 [.ref 0] w (some (.int rZ)) wZ := by
  refine CallOK.of (ls := [some (.ref 0)]) (by decide) (by simp) rfl rfl ?_
  obtain ⟨Q, eQ⟩ : ∃ Q, Q = Qret cX11_keep (some .int) (some (.int rZ)) wZ := ⟨_, rfl⟩
  rw [← eQ]
  unfold fX11_keep at hf
  refine E_aload_n (v := 0) dX11_keep_0 rfl ?_
  refine E_getR fg_RX11_16 dX11_keep_1 sC_0 rfl rC_0_1 (Nat.succ_ne_zero _) ?_
  refine E_aload_n (v := 0) dX11_keep_4 rfl ?_
  refine E_getR fg_RX11_10 dX11_keep_5 sC_0 rfl rC_0_0 (Nat.succ_ne_zero _) ?_
  obtain ⟨w2, hc1, hf⟩ := bd_some hf
  try dsimp only at hf
  refine E_callVv (rest := []) (ci := 1) cv_RX11_360 dX11_keep_8 (MX1_copy B_is12 B_is1 hc1) rfl sC_12 rfl (by decide) rfl rfl (fun _ => Nat.le_of_ble_eq_true rfl) ?_
  refine E_aload_n (v := 0) dX11_keep_11 rfl ?_
  refine E_getR fg_RX11_26 dX11_keep_12 sC_0 rfl rC_0_3 (Nat.succ_ne_zero _) ?_
  refine E_aload_n (v := 0) dX11_keep_15 rfl ?_
  refine E_getR fg_RX11_22 dX11_keep_16 sC_0 rfl rC_0_2 (Nat.succ_ne_zero _) ?_
  obtain ⟨w4, hc3, hf⟩ := bd_some hf
  try dsimp only at hf
  refine E_callVv (rest := []) (ci := 10) cv_RX11_363 dX11_keep_19 (MX10_copy T_is30 T_is23 hc3) rfl sC_30 rfl (by decide) rfl rfl (fun _ => Nat.le_of_ble_eq_true rfl) ?_
  refine E_aload_n (v := 0) dX11_keep_22 rfl ?_
  refine E_iconst 1 dX11_keep_23 ic_1 ?_
  obtain ⟨w5, ew5, hf⟩ := lw_some hf
  try dsimp only at hf
  refine E_putI fp_RX11_29 dX11_keep_24 sC_0 rfl rfl rfl ?_
  rw [← ew5]
  refine E_iconst 1 dX11_keep_27 ic_1 ?_
  obtain ⟨rfl, rfl⟩ := ret2 hf
  exact E.done (by rw [eQ]; exact ⟨rfl, Or.inl ⟨_, _, rfl, rfl, dX11_keep_28, rfl, rfl⟩⟩)
set_option maxRecDepth 10000 in
set_option maxHeartbeats 2000000 in
theorem MX11_late {N : Nat} {w : AW} {rZ : Int32} {wZ : AW} (hf : fX11_late N w = some (rZ, wZ)) : CallOK PC yX11_late cX11_late 3 (some .int) 5 [.ref 0] w (some (.int rZ)) wZ := by
  refine CallOK.of (ls := [some (.ref 0), none, none]) (by decide) (by simp) rfl rfl ?_
  obtain ⟨Q, eQ⟩ : ∃ Q, Q = Qret cX11_late (some .int) (some (.int rZ)) wZ := ⟨_, rfl⟩
  rw [← eQ]
  unfold fX11_late at hf
  refine E_aload_n (v := 0) dX11_late_0 rfl ?_
  obtain ⟨w2, hc1, hf⟩ := bd_some hf
  try dsimp only at hf
  refine E_callVv (rest := []) (ci := 11) cv_RX11_194 dX11_late_1 (MX11_followPlan hc1) rfl sC_0 rfl (by decide) rfl rfl (fun _ => Nat.le_of_ble_eq_true rfl) ?_
  refine E_iconst 0 dX11_late_4 ic_0 ?_
  refine E_istore_n (ls' := [some (.ref 0), some (.int 0), none]) dX11_late_5 rfl rfl rfl ?_
  refine E_iconst 0 dX11_late_6 ic_0 ?_
  refine E_istore_n (ls' := [some (.ref 0), some (.int 0), some (.int 0)]) dX11_late_7 rfl rfl rfl ?_
  obtain ⟨q, hw6, hf⟩ := bd_some hf
  try dsimp only at hf
  show (fun (s : Int32 × Int32) => E PC RX11 cX11_late 3 5 8 [some (.ref 0), some (.int s.1), some (.int s.2)] [] w2 Q) (0, 0)
  refine wh_E (K := (fun (s : Int32 × Int32) => E PC RX11 cX11_late 3 5 8 [some (.ref 0), some (.int s.1), some (.int s.2)] [] w2 Q)) (X := (fun (s : Int32) => E PC RX11 cX11_late 3 5 58 [none, some (.int s), none] [] w2 Q)) ?_ hw6 ?_
  · intro s9 z9 hf k9
    obtain ⟨x1_8_1, x2_8_1⟩ := s9
    dsimp only [lbX11_late_8_1] at hf
    show E PC RX11 cX11_late 3 5 8 [some (.ref 0), some (.int x1_8_1), some (.int x2_8_1)] [] w2 Q
    refine E_iload_n (v := x2_8_1) dX11_late_8 rfl ?_
    refine E_aload_n (v := 0) dX11_late_9 rfl ?_
    refine E_getR fg_RX11_10 dX11_late_10 sC_0 rfl rC_0_0 (Nat.succ_ne_zero _) ?_
    refine E_getR fg_RX11_130 dX11_late_13 sC_1 rfl rC_1_0 (Nat.succ_ne_zero _) ?_
    refine E_getI fg_RX11_131 dX11_late_16 sC_2 rfl ?_
    refine E_icmp_ge 58 dX11_late_19 (by decide) (fun hc3 => ?_) (fun hc3 => ?_)
    · rw [if_pos hc3] at hf
      obtain rfl := Option.some.inj hf
      refine E.fewer (ls' := [none, some (.int x1_8_1), none]) ⟨Or.inl rfl, ⟨Or.inr rfl, ⟨Or.inl rfl, trivial⟩⟩⟩ ?_
      exact k9
    · rw [if_neg hc3] at hf
      refine E_aload_n (v := 0) dX11_late_22 rfl ?_
      refine E_getR fg_RX11_43 dX11_late_23 sC_0 rfl rC_0_6 (Nat.succ_ne_zero _) ?_
      refine E_getR fg_RX11_197 dX11_late_26 sC_46 rfl rC_46_1 (Nat.succ_ne_zero _) ?_
      refine E_iload_n (v := x2_8_1) dX11_late_29 rfl ?_
      obtain ⟨hi4, hf⟩ := gd_some hf
      refine E_iald (n := 6) dX11_late_30 sC_48 (by decide) (inb_in hi4) ?_
      refine E_aload_n (v := 0) dX11_late_31 rfl ?_
      refine E_getR fg_RX11_10 dX11_late_32 sC_0 rfl rC_0_0 (Nat.succ_ne_zero _) ?_
      refine E_getR fg_RX11_130 dX11_late_35 sC_1 rfl rC_1_0 (Nat.succ_ne_zero _) ?_
      refine E_getR fg_RX11_153 dX11_late_38 sC_2 rfl rC_2_4 (Nat.succ_ne_zero _) ?_
      refine E_iload_n (v := x2_8_1) dX11_late_41 rfl ?_
      refine E_iald (n := 6) dX11_late_42 sC_6 (by decide) (inb_in hi4) ?_
      refine E_icmp_le 52 dX11_late_43 (by decide) (fun hc5 => ?_) (fun hc5 => ?_)
      · rw [if_pos hc5] at hf
        refine E_iinc (ls' := [some (.ref 0), some (.int x1_8_1), some (.int (x2_8_1 + 1))]) 1 dX11_late_52 rfl ic_1 rfl rfl rfl ?_
        refine E_goto 8 dX11_late_55 (by decide) ?_
        obtain rfl := Option.some.inj hf
        exact k9
      · rw [if_neg hc5] at hf
        refine E_iload_n (v := x1_8_1) dX11_late_46 rfl ?_
        refine E_iconst 1 dX11_late_47 ic_1 ?_
        refine E_iload_n (v := x2_8_1) dX11_late_48 rfl ?_
        refine E_ishl dX11_late_49 ?_
        refine E_ior dX11_late_50 ?_
        refine E_istore_n (ls' := [some (.ref 0), some (.int (x1_8_1 ||| (1 <<< (x2_8_1 &&& 31)))), some (.int x2_8_1)]) dX11_late_51 rfl rfl rfl ?_
        refine E_iinc (ls' := [some (.ref 0), some (.int (x1_8_1 ||| (1 <<< (x2_8_1 &&& 31)))), some (.int (x2_8_1 + 1))]) 1 dX11_late_52 rfl ic_1 rfl rfl rfl ?_
        refine E_goto 8 dX11_late_55 (by decide) ?_
        obtain rfl := Option.some.inj hf
        exact k9
  · skip
    obtain ⟨y7, hq9⟩ : ∃ a, a = q := ⟨_, rfl⟩
    subst hq9
    try dsimp only at hf
    show E PC RX11 cX11_late 3 5 58 [none, some (.int y7), none] [] w2 Q
    refine E_iload_n (v := y7) dX11_late_58 rfl ?_
    obtain ⟨rfl, rfl⟩ := ret2 hf
    exact E.done (by rw [eQ]; exact ⟨rfl, Or.inl ⟨_, _, rfl, rfl, dX11_late_59, rfl, rfl⟩⟩)
set_option maxRecDepth 10000 in
set_option maxHeartbeats 2000000 in
theorem MX11_lose {a0 : Int32} {a1 : Int32} {w : AW} {rZ : Int32} {wZ : AW} (hf : fX11_lose a0 a1 w = some (rZ, wZ)) : CallOK PC yX11_lose cX11_lose 4 (some .int) 2 [.ref 0, .int a0, .int a1] w (some (.int rZ)) wZ := by
  refine CallOK.of (ls := [some (.ref 0), some (.int a0), some (.int a1), none]) (by decide) (by simp) rfl rfl ?_
  obtain ⟨Q, eQ⟩ : ∃ Q, Q = Qret cX11_lose (some .int) (some (.int rZ)) wZ := ⟨_, rfl⟩
  rw [← eQ]
  unfold fX11_lose at hf
  refine E_iload_n (v := a0) dX11_lose_0 rfl ?_
  refine E_iconst 0 dX11_lose_1 ic_0 ?_
  refine E_bipush 60 dX11_lose_2 bp_60 ?_
  obtain ⟨r2, hc1, hf⟩ := bd_some hf
  try dsimp only at hf
  refine E_callSi (rest := []) cs_RX11_100 dX11_lose_4 (MX11_within hc1) rfl rfl rfl (fun _ => Nat.le_of_ble_eq_true rfl) ?_
  refine E_if_eq 20 dX11_lose_7 (by decide) (fun hc3 => ?_) (fun hc3 => ?_)
  · rw [if_pos hc3] at hf
    refine E_iconst (-1) dX11_lose_20 ic_m1 ?_
    obtain ⟨rfl, rfl⟩ := ret2 hf
    exact E.done (by rw [eQ]; exact ⟨rfl, Or.inl ⟨_, _, rfl, rfl, dX11_lose_21, rfl, rfl⟩⟩)
  · rw [if_neg hc3] at hf
    refine E_iload_n (v := a1) dX11_lose_10 rfl ?_
    refine E_iconst 0 dX11_lose_11 ic_0 ?_
    refine E_bipush 9 dX11_lose_12 bp_9 ?_
    obtain ⟨r5, hc4, hf⟩ := bd_some hf
    try dsimp only at hf
    refine E_callSi (rest := []) cs_RX11_100 dX11_lose_14 (MX11_within hc4) rfl rfl rfl (fun _ => Nat.le_of_ble_eq_true rfl) ?_
    refine E_if_ne 22 dX11_lose_17 (by decide) (fun hc6 => ?_) (fun hc6 => ?_)
    · rw [if_pos hc6] at hf
      refine E_iconst (-1) dX11_lose_20 ic_m1 ?_
      obtain ⟨rfl, rfl⟩ := ret2 hf
      exact E.done (by rw [eQ]; exact ⟨rfl, Or.inl ⟨_, _, rfl, rfl, dX11_lose_21, rfl, rfl⟩⟩)
    · rw [if_neg hc6] at hf
      refine E_aload_n (v := 0) dX11_lose_22 rfl ?_
      refine E_getR fg_RX11_10 dX11_lose_23 sC_0 rfl rC_0_0 (Nat.succ_ne_zero _) ?_
      refine E_getR fg_RX11_170 dX11_lose_26 sC_1 rfl rC_1_2 (Nat.succ_ne_zero _) ?_
      refine E_iload_n (v := a0) dX11_lose_29 rfl ?_
      obtain ⟨hi7, hf⟩ := gd_some hf
      refine E_iald (n := 61) dX11_lose_30 sC_9 (by decide) (inb_in hi7) ?_
      refine E_istore_n (ls' := [some (.ref 0), some (.int a0), some (.int a1), some (.int (w.1 9 a0.toNatClampNeg))]) dX11_lose_31 rfl rfl rfl ?_
      refine E_aload_n (v := 0) dX11_lose_32 rfl ?_
      refine E_getR fg_RX11_10 dX11_lose_33 sC_0 rfl rC_0_0 (Nat.succ_ne_zero _) ?_
      refine E_getR fg_RX11_170 dX11_lose_36 sC_1 rfl rC_1_2 (Nat.succ_ne_zero _) ?_
      refine E_iload_n (v := a0) dX11_lose_39 rfl ?_
      refine E_iload_n (v := a1) dX11_lose_40 rfl ?_
      obtain ⟨w8, ew8, hf⟩ := lw_some hf
      try dsimp only at hf
      refine E_iast (n := 61) dX11_lose_41 sC_9 (by decide) (inb_in hi7) ?_
      rw [← ew8]
      refine E_iload_n (v := (w.1 9 a0.toNatClampNeg)) dX11_lose_42 rfl ?_
      obtain ⟨rfl, rfl⟩ := ret2 hf
      exact E.done (by rw [eQ]; exact ⟨rfl, Or.inl ⟨_, _, rfl, rfl, dX11_lose_43, rfl, rfl⟩⟩)
set_option maxRecDepth 10000 in
set_option maxHeartbeats 2000000 in
theorem MX11_many {a0 : Int32} {w : AW} {rZ : Int32} (hf : fX11_many a0 w = some rZ) : CallOK PC yX11_many cX11_many 2 (some .int) 1 [.ref 0, .int a0] w (some (.int rZ)) w := by
  refine CallOK.of (ls := [some (.ref 0), some (.int a0)]) (by decide) (by simp) rfl rfl ?_
  obtain ⟨Q, eQ⟩ : ∃ Q, Q = Qret cX11_many (some .int) (some (.int rZ)) w := ⟨_, rfl⟩
  rw [← eQ]
  unfold fX11_many at hf
  refine E_iload_n (v := a0) dX11_many_0 rfl ?_
  by_cases hc1 : a0 = 0
  · rw [if_pos hc1] at hf
    refine E_tableIn 36 dX11_many_1 (by rw [hc1]; decide) (by rw [hc1]; decide) (by rw [hc1]; rfl) (by decide) ?_
    refine E_aload_n (v := 0) dX11_many_36 rfl ?_
    refine E_getR fg_RX11_10 dX11_many_37 sC_0 rfl rC_0_0 (Nat.succ_ne_zero _) ?_
    refine E_getR fg_RX11_130 dX11_many_40 sC_1 rfl rC_1_0 (Nat.succ_ne_zero _) ?_
    refine E_getI fg_RX11_131 dX11_many_43 sC_2 rfl ?_
    obtain rfl := Option.some.inj hf
    exact E.done (by rw [eQ]; exact ⟨rfl, Or.inl ⟨_, _, rfl, rfl, dX11_many_46, rfl, rfl⟩⟩)
  · rw [if_neg hc1] at hf
    by_cases hc2 : a0 = 1
    · rw [if_pos hc2] at hf
      refine E_tableIn 47 dX11_many_1 (by rw [hc2]; decide) (by rw [hc2]; decide) (by rw [hc2]; rfl) (by decide) ?_
      refine E_aload_n (v := 0) dX11_many_47 rfl ?_
      refine E_getR fg_RX11_22 dX11_many_48 sC_0 rfl rC_0_2 (Nat.succ_ne_zero _) ?_
      refine E_getI fg_RX11_258 dX11_many_51 sC_23 rfl ?_
      obtain rfl := Option.some.inj hf
      exact E.done (by rw [eQ]; exact ⟨rfl, Or.inl ⟨_, _, rfl, rfl, dX11_many_54, rfl, rfl⟩⟩)
    · rw [if_neg hc2] at hf
      by_cases hc3 : a0 = 2
      · rw [if_pos hc3] at hf
        refine E_tableIn 55 dX11_many_1 (by rw [hc3]; decide) (by rw [hc3]; decide) (by rw [hc3]; rfl) (by decide) ?_
        refine E_aload_n (v := 0) dX11_many_55 rfl ?_
        refine E_getR fg_RX11_75 dX11_many_56 sC_0 rfl rC_0_10 (Nat.succ_ne_zero _) ?_
        refine E_getI fg_RX11_126 dX11_many_59 sC_59 rfl ?_
        obtain rfl := Option.some.inj hf
        exact E.done (by rw [eQ]; exact ⟨rfl, Or.inl ⟨_, _, rfl, rfl, dX11_many_62, rfl, rfl⟩⟩)
      · rw [if_neg hc3] at hf
        by_cases hc4 : a0 = 3
        · rw [if_pos hc4] at hf
          refine E_tableIn 63 dX11_many_1 (by rw [hc4]; decide) (by rw [hc4]; decide) (by rw [hc4]; rfl) (by decide) ?_
          refine E_aload_n (v := 0) dX11_many_63 rfl ?_
          refine E_getR fg_RX11_36 dX11_many_64 sC_0 rfl rC_0_5 (Nat.succ_ne_zero _) ?_
          refine E_getI fg_RX11_359 dX11_many_67 sC_37 rfl ?_
          obtain rfl := Option.some.inj hf
          exact E.done (by rw [eQ]; exact ⟨rfl, Or.inl ⟨_, _, rfl, rfl, dX11_many_70, rfl, rfl⟩⟩)
        · rw [if_neg hc4] at hf
          by_cases hc5 : a0 = 4
          · rw [if_pos hc5] at hf
            refine E_tableIn 71 dX11_many_1 (by rw [hc5]; decide) (by rw [hc5]; decide) (by rw [hc5]; rfl) (by decide) ?_
            refine E_aload_n (v := 0) dX11_many_71 rfl ?_
            refine E_getR fg_RX11_96 dX11_many_72 sC_0 rfl rC_0_13 (Nat.succ_ne_zero _) ?_
            refine E_getI fg_RX11_353 dX11_many_75 sC_74 rfl ?_
            obtain rfl := Option.some.inj hf
            exact E.done (by rw [eQ]; exact ⟨rfl, Or.inl ⟨_, _, rfl, rfl, dX11_many_78, rfl, rfl⟩⟩)
          · rw [if_neg hc5] at hf
            refine E_tableOut 79 dX11_many_1 (tb_0_4 hc1 hc2 hc3 hc4 hc5) (by decide) ?_
            refine E_iconst (-1) dX11_many_79 ic_m1 ?_
            obtain rfl := Option.some.inj hf
            exact E.done (by rw [eQ]; exact ⟨rfl, Or.inl ⟨_, _, rfl, rfl, dX11_many_80, rfl, rfl⟩⟩)
set_option maxRecDepth 10000 in
set_option maxHeartbeats 2000000 in
theorem MX2_begin {o0 : Nat} {a1 : Int32} {w : AW} {wZ : AW} (ho0 : isJ o0) (hf : fX2_begin o0 a1 w = some wZ) : CallOK PC yX2_begin cX2_begin 3 none 1 [.ref 52, .ref o0, .int a1] w none wZ := by
  refine CallOK.of (ls := [some (.ref 52), some (.ref o0), some (.int a1)]) (by decide) (by simp) rfl rfl ?_
  obtain ⟨Q, eQ⟩ : ∃ Q, Q = Qret cX2_begin none none wZ := ⟨_, rfl⟩
  rw [← eQ]
  unfold fX2_begin at hf
  refine E_aload_n (v := 52) dX2_begin_0 rfl ?_
  refine E_aload_n (v := o0) dX2_begin_1 rfl ?_
  obtain ⟨w1, ew1, hf⟩ := lw_some hf
  try dsimp only at hf
  refine E_putD fp_RX2_27 dX2_begin_2 sC_52 rfl (J_nz ho0) (J_lt ho0) ?_
  rw [← ew1]
  refine E_aload_n (v := 52) dX2_begin_5 rfl ?_
  refine E_iload_n (v := a1) dX2_begin_6 rfl ?_
  obtain ⟨hb3, hf⟩ := gd_some hf
  obtain ⟨w2, ew2, hf⟩ := lw_some hf
  try dsimp only at hf
  refine E_putI fp_RX2_31 dX2_begin_7 sC_52 rfl (isb_n hb3) (isb_f hb3) ?_
  rw [← ew2]
  refine E_aload_n (v := 52) dX2_begin_10 rfl ?_
  refine E_getR fg_RX2_11 dX2_begin_11 sC_52 rfl rC_52_1 (Nat.succ_ne_zero _) ?_
  refine E_iconst 1 dX2_begin_14 ic_1 ?_
  refine E_iconst 0 dX2_begin_15 ic_0 ?_
  obtain ⟨w4, ew4, hf⟩ := lw_some hf
  try dsimp only at hf
  refine E_iast (n := 128) dX2_begin_16 sC_53 (by decide) (inb_in (by decide)) ?_
  rw [← ew4]
  refine E_aload_n (v := 52) dX2_begin_17 rfl ?_
  refine E_getR fg_RX2_15 dX2_begin_18 sC_52 rfl rC_52_2 (Nat.succ_ne_zero _) ?_
  refine E_iconst 1 dX2_begin_21 ic_1 ?_
  refine E_iconst 1 dX2_begin_22 ic_1 ?_
  obtain ⟨w5, ew5, hf⟩ := lw_some hf
  try dsimp only at hf
  refine E_iast (n := 128) dX2_begin_23 sC_54 (by decide) (inb_in (by decide)) ?_
  rw [← ew5]
  refine E_aload_n (v := 52) dX2_begin_24 rfl ?_
  refine E_getR fg_RX2_18 dX2_begin_25 sC_52 rfl rC_52_3 (Nat.succ_ne_zero _) ?_
  refine E_iconst 0 dX2_begin_28 ic_0 ?_
  refine E_iconst 1 dX2_begin_29 ic_1 ?_
  obtain ⟨w6, ew6, hf⟩ := lw_some hf
  try dsimp only at hf
  refine E_iast (n := 7) dX2_begin_30 sC_55 (by decide) (inb_in (by decide)) ?_
  rw [← ew6]
  obtain rfl := Option.some.inj hf
  exact E.done (by rw [eQ]; exact ⟨rfl, Or.inr ⟨rfl, rfl, dX2_begin_31, rfl⟩⟩)
set_option maxRecDepth 10000 in
set_option maxHeartbeats 2000000 in
theorem MX2_spread {N : Nat} {a0 : Int32} {a1 : Int32} {a2 : Int32} {w : AW} {rZ : Int32} {wZ : AW} (hf : fX2_spread N a0 a1 a2 w = some (rZ, wZ)) : CallOK PC yX2_spread cX2_spread 13 (some .int) 3 [.ref 52, .int a0, .int a1, .int a2] w (some (.int rZ)) wZ := by
  refine CallOK.of (ls := [some (.ref 52), some (.int a0), some (.int a1), some (.int a2), none, none, none, none, none, none, none, none, none]) (by decide) (by simp) rfl rfl ?_
  obtain ⟨Q, eQ⟩ : ∃ Q, Q = Qret cX2_spread (some .int) (some (.int rZ)) wZ := ⟨_, rfl⟩
  rw [← eQ]
  unfold fX2_spread at hf
  refine E_iconst 1 dX2_spread_0 ic_1 ?_
  refine E_iload_n (v := a0) dX2_spread_1 rfl ?_
  refine E_ishl dX2_spread_2 ?_
  refine E_istore (ls' := [some (.ref 52), some (.int a0), some (.int a1), some (.int a2), some (.int (1 <<< (a0 &&& 31))), none, none, none, none, none, none, none, none]) dX2_spread_3 rfl rfl rfl ?_
  refine E_iload (v := (1 <<< (a0 &&& 31))) dX2_spread_5 rfl ?_
  refine E_iconst 2 dX2_spread_7 ic_2 ?_
  refine E_imul dX2_spread_8 ?_
  refine E_istore (ls' := [some (.ref 52), some (.int a0), some (.int a1), some (.int a2), some (.int (1 <<< (a0 &&& 31))), some (.int ((1 <<< (a0 &&& 31)) * 2)), none, none, none, none, none, none, none]) dX2_spread_9 rfl rfl rfl ?_
  refine E_iconst 0 dX2_spread_11 ic_0 ?_
  refine E_istore (ls' := [some (.ref 52), some (.int a0), some (.int a1), some (.int a2), some (.int (1 <<< (a0 &&& 31))), some (.int ((1 <<< (a0 &&& 31)) * 2)), some (.int 0), none, none, none, none, none, none]) dX2_spread_12 rfl rfl rfl ?_
  refine E_iconst 0 dX2_spread_14 ic_0 ?_
  refine E_istore (ls' := [some (.ref 52), some (.int a0), some (.int a1), some (.int a2), some (.int (1 <<< (a0 &&& 31))), some (.int ((1 <<< (a0 &&& 31)) * 2)), some (.int 0), some (.int 0), none, none, none, none, none]) dX2_spread_15 rfl rfl rfl ?_
  refine E_aload_n (v := 52) dX2_spread_17 rfl ?_
  refine E_iconst 0 dX2_spread_18 ic_0 ?_
  obtain ⟨w1, ew1, hf⟩ := lw_some hf
  try dsimp only at hf
  refine E_putI fp_RX2_35 dX2_spread_19 sC_52 rfl rfl rfl ?_
  rw [← ew1]
  refine E_iconst 0 dX2_spread_22 ic_0 ?_
  refine E_istore (ls' := [some (.ref 52), some (.int a0), some (.int a1), some (.int a2), some (.int (1 <<< (a0 &&& 31))), some (.int ((1 <<< (a0 &&& 31)) * 2)), some (.int 0), some (.int 0), some (.int 0), none, none, none, none]) dX2_spread_23 rfl rfl rfl ?_
  obtain ⟨q, hw79, hf⟩ := bd_some hf
  try dsimp only at hf
  show (fun (s : Int32 × Int32 × Int32 × AW) => E PC RX2 cX2_spread 13 3 25 [some (.ref 52), some (.int a0), some (.int a1), some (.int a2), some (.int (1 <<< (a0 &&& 31))), some (.int ((1 <<< (a0 &&& 31)) * 2)), some (.int s.1), some (.int s.2.1), some (.int s.2.2.1), none, none, none, none] [] s.2.2.2 Q) (0, 0, 0, w1)
  refine wh_E (K := (fun (s : Int32 × Int32 × Int32 × AW) => E PC RX2 cX2_spread 13 3 25 [some (.ref 52), some (.int a0), some (.int a1), some (.int a2), some (.int (1 <<< (a0 &&& 31))), some (.int ((1 <<< (a0 &&& 31)) * 2)), some (.int s.1), some (.int s.2.1), some (.int s.2.2.1), none, none, none, none] [] s.2.2.2 Q)) (X := (fun (s : Int32 × Int32 × AW) => E PC RX2 cX2_spread 13 3 233 [some (.ref 52), some (.int a0), none, none, none, none, some (.int s.1), some (.int s.2.1), none, none, none, none, none] [] s.2.2 Q)) ?_ hw79 ?_
  · intro s9 z9 hf k9
    obtain ⟨x6_25_1, x7_25_1, x8_25_1, w_25_1⟩ := s9
    dsimp only [lbX2_spread_25_1] at hf
    show E PC RX2 cX2_spread 13 3 25 [some (.ref 52), some (.int a0), some (.int a1), some (.int a2), some (.int (1 <<< (a0 &&& 31))), some (.int ((1 <<< (a0 &&& 31)) * 2)), some (.int x6_25_1), some (.int x7_25_1), some (.int x8_25_1), none, none, none, none] [] w_25_1 Q
    refine E_iload (v := x8_25_1) dX2_spread_25 rfl ?_
    refine E_aload_n (v := 52) dX2_spread_27 rfl ?_
    refine E_getR fg_RX2_18 dX2_spread_28 sC_52 rfl rC_52_3 (Nat.succ_ne_zero _) ?_
    refine E_iload_n (v := a0) dX2_spread_31 rfl ?_
    obtain ⟨hi2, hf⟩ := gd_some hf
    refine E_iald (n := 7) dX2_spread_32 sC_55 (by decide) (inb_in hi2) ?_
    refine E_icmp_ge 233 dX2_spread_33 (by decide) (fun hc3 => ?_) (fun hc3 => ?_)
    · rw [if_pos hc3] at hf
      obtain rfl := Option.some.inj hf
      refine E.fewer (ls' := [some (.ref 52), some (.int a0), none, none, none, none, some (.int x6_25_1), some (.int x7_25_1), none, none, none, none, none]) ⟨Or.inr rfl, ⟨Or.inr rfl, ⟨Or.inl rfl, ⟨Or.inl rfl, ⟨Or.inl rfl, ⟨Or.inl rfl, ⟨Or.inr rfl, ⟨Or.inr rfl, ⟨Or.inl rfl, ⟨Or.inl rfl, ⟨Or.inl rfl, ⟨Or.inl rfl, ⟨Or.inl rfl, trivial⟩⟩⟩⟩⟩⟩⟩⟩⟩⟩⟩⟩⟩ ?_
      exact k9
    · rw [if_neg hc3] at hf
      refine E_aload_n (v := 52) dX2_spread_36 rfl ?_
      refine E_getR fg_RX2_42 dX2_spread_37 sC_52 rfl rC_52_0 (Nat.succ_ne_zero _) ?_
      refine E_aload_n (v := 52) dX2_spread_40 rfl ?_
      refine E_getR fg_RX2_11 dX2_spread_41 sC_52 rfl rC_52_1 (Nat.succ_ne_zero _) ?_
      refine E_iload (v := (1 <<< (a0 &&& 31))) dX2_spread_44 rfl ?_
      refine E_iload (v := x8_25_1) dX2_spread_46 rfl ?_
      refine E_iadd dX2_spread_48 ?_
      obtain ⟨hi4, hf⟩ := gd_some hf
      refine E_iald (n := 128) dX2_spread_49 sC_53 (by decide) (inb_in hi4) ?_
      refine E_iload_n (v := a1) dX2_spread_50 rfl ?_
      refine E_aload_n (v := 52) dX2_spread_51 rfl ?_
      obtain ⟨o5, eo5, hf⟩ := lw_some hf
      try dsimp only at hf
      obtain ⟨ho5b, hf⟩ := gd_some hf
      have ho5 := isJb_of ho5b
      refine E_getD (r := o5) fg_RX2_27 dX2_spread_52 sC_52 rfl eo5.symm (J_nz ho5) ?_
      refine E_iload_n (v := a2) dX2_spread_55 rfl ?_
      obtain ⟨r7, hc6, hf⟩ := bd_some hf
      try dsimp only at hf
      refine E_callVi (rest := []) (ci := 3) cv_RX2_72 dX2_spread_56 (MX3_usedBehind ho5 hc6) rfl sC_46 rfl (by decide) rfl rfl (fun _ => Nat.le_of_ble_eq_true rfl) ?_
      refine E_istore (ls' := [some (.ref 52), some (.int a0), some (.int a1), some (.int a2), some (.int (1 <<< (a0 &&& 31))), some (.int ((1 <<< (a0 &&& 31)) * 2)), some (.int x6_25_1), some (.int x7_25_1), some (.int x8_25_1), some (.int r7), none, none, none]) dX2_spread_59 rfl rfl rfl ?_
      refine E_iconst 0 dX2_spread_61 ic_0 ?_
      refine E_istore (ls' := [some (.ref 52), some (.int a0), some (.int a1), some (.int a2), some (.int (1 <<< (a0 &&& 31))), some (.int ((1 <<< (a0 &&& 31)) * 2)), some (.int x6_25_1), some (.int x7_25_1), some (.int x8_25_1), some (.int r7), some (.int 0), none, none]) dX2_spread_62 rfl rfl rfl ?_
      obtain ⟨q, hw75, hf⟩ := bd_some hf
      try dsimp only at hf
      show (fun (s : Int32 × Int32 × Int32 × Int32 × AW) => E PC RX2 cX2_spread 13 3 64 [some (.ref 52), some (.int a0), some (.int a1), some (.int a2), some (.int (1 <<< (a0 &&& 31))), some (.int ((1 <<< (a0 &&& 31)) * 2)), some (.int s.1), some (.int s.2.1), some (.int x8_25_1), some (.int s.2.2.1), some (.int s.2.2.2.1), none, none] [] s.2.2.2.2 Q) (x6_25_1, x7_25_1, r7, 0, w_25_1)
      refine wh_E (K := (fun (s : Int32 × Int32 × Int32 × Int32 × AW) => E PC RX2 cX2_spread 13 3 64 [some (.ref 52), some (.int a0), some (.int a1), some (.int a2), some (.int (1 <<< (a0 &&& 31))), some (.int ((1 <<< (a0 &&& 31)) * 2)), some (.int s.1), some (.int s.2.1), some (.int x8_25_1), some (.int s.2.2.1), some (.int s.2.2.2.1), none, none] [] s.2.2.2.2 Q)) (X := (fun (s : Int32 × Int32 × AW) => E PC RX2 cX2_spread 13 3 227 [some (.ref 52), some (.int a0), some (.int a1), some (.int a2), some (.int (1 <<< (a0 &&& 31))), some (.int ((1 <<< (a0 &&& 31)) * 2)), some (.int s.1), some (.int s.2.1), some (.int x8_25_1), none, none, none, none] [] s.2.2 Q)) ?_ hw75 ?_
      · intro s9 z9 hf k9
        obtain ⟨x6_64_2, x7_64_2, x9_64_2, x10_64_2, w_64_2⟩ := s9
        dsimp only [lbX2_spread_64_2] at hf
        show E PC RX2 cX2_spread 13 3 64 [some (.ref 52), some (.int a0), some (.int a1), some (.int a2), some (.int (1 <<< (a0 &&& 31))), some (.int ((1 <<< (a0 &&& 31)) * 2)), some (.int x6_64_2), some (.int x7_64_2), some (.int x8_25_1), some (.int x9_64_2), some (.int x10_64_2), none, none] [] w_64_2 Q
        refine E_iload (v := x10_64_2) dX2_spread_64 rfl ?_
        refine E_iconst 2 dX2_spread_66 ic_2 ?_
        refine E_icmp_ge 227 dX2_spread_67 (by decide) (fun hc8 => ?_) (fun hc8 => ?_)
        · rw [if_pos hc8] at hf
          obtain rfl := Option.some.inj hf
          refine E.fewer (ls' := [some (.ref 52), some (.int a0), some (.int a1), some (.int a2), some (.int (1 <<< (a0 &&& 31))), some (.int ((1 <<< (a0 &&& 31)) * 2)), some (.int x6_64_2), some (.int x7_64_2), some (.int x8_25_1), none, none, none, none]) ⟨Or.inr rfl, ⟨Or.inr rfl, ⟨Or.inr rfl, ⟨Or.inr rfl, ⟨Or.inr rfl, ⟨Or.inr rfl, ⟨Or.inr rfl, ⟨Or.inr rfl, ⟨Or.inr rfl, ⟨Or.inl rfl, ⟨Or.inl rfl, ⟨Or.inl rfl, ⟨Or.inl rfl, trivial⟩⟩⟩⟩⟩⟩⟩⟩⟩⟩⟩⟩⟩ ?_
          exact k9
        · rw [if_neg hc8] at hf
          refine E_aload_n (v := 52) dX2_spread_70 rfl ?_
          refine E_getR fg_RX2_15 dX2_spread_71 sC_52 rfl rC_52_2 (Nat.succ_ne_zero _) ?_
          refine E_iload (v := (1 <<< (a0 &&& 31))) dX2_spread_74 rfl ?_
          refine E_iload (v := x8_25_1) dX2_spread_76 rfl ?_
          refine E_iadd dX2_spread_78 ?_
          obtain ⟨hi9, hf⟩ := gd_some hf
          refine E_iald (n := 128) dX2_spread_79 sC_54 (by decide) (inb_in hi9) ?_
          refine E_iload (v := x10_64_2) dX2_spread_80 rfl ?_
          refine E_if_ne 97 dX2_spread_82 (by decide) (fun hc10 => ?_) (fun hc10 => ?_)
          · rw [if_pos hc10] at hf
            refine E_iconst 4 dX2_spread_85 ic_4 ?_
            refine E_aload_n (v := 52) dX2_spread_86 rfl ?_
            refine E_getR fg_RX2_42 dX2_spread_87 sC_52 rfl rC_52_0 (Nat.succ_ne_zero _) ?_
            refine E_getI fg_RX2_78 dX2_spread_90 sC_46 rfl ?_
            refine E_isub dX2_spread_93 ?_
            refine E_goto 104 dX2_spread_94 (by decide) ?_
            refine E_imul dX2_spread_104 ?_
            obtain ⟨v11, ev11, hf⟩ := lw_some hf
            try dsimp only at hf
            rw [← ev11]
            refine E_istore (ls' := [some (.ref 52), some (.int a0), some (.int a1), some (.int a2), some (.int (1 <<< (a0 &&& 31))), some (.int ((1 <<< (a0 &&& 31)) * 2)), some (.int x6_64_2), some (.int x7_64_2), some (.int x8_25_1), some (.int x9_64_2), some (.int x10_64_2), some (.int v11), none]) dX2_spread_105 rfl rfl rfl ?_
            refine E_aload_n (v := 52) dX2_spread_107 rfl ?_
            refine E_getR fg_RX2_42 dX2_spread_108 sC_52 rfl rC_52_0 (Nat.succ_ne_zero _) ?_
            refine E_iload (v := x9_64_2) dX2_spread_111 rfl ?_
            obtain ⟨r13, hc12, hf⟩ := bd_some hf
            try dsimp only at hf
            refine E_callVi (rest := []) (ci := 3) cv_RX2_81 dX2_spread_113 (MX3_dayAt hc12) rfl sC_46 rfl (by decide) rfl rfl (fun _ => Nat.le_of_ble_eq_true rfl) ?_
            refine E_istore (ls' := [some (.ref 52), some (.int a0), some (.int a1), some (.int a2), some (.int (1 <<< (a0 &&& 31))), some (.int ((1 <<< (a0 &&& 31)) * 2)), some (.int x6_64_2), some (.int x7_64_2), some (.int x8_25_1), some (.int x9_64_2), some (.int x10_64_2), some (.int v11), some (.int r13)]) dX2_spread_116 rfl rfl rfl ?_
            refine E_iload (v := v11) dX2_spread_118 rfl ?_
            refine E_if_le 207 dX2_spread_120 (by decide) (fun hc14 => ?_) (fun hc14 => ?_)
            · rw [if_pos hc14] at hf
              refine E_iload (v := x9_64_2) dX2_spread_207 rfl ?_
              refine E_aload_n (v := 52) dX2_spread_209 rfl ?_
              obtain ⟨o15, eo15, hf⟩ := lw_some hf
              try dsimp only at hf
              obtain ⟨ho15b, hf⟩ := gd_some hf
              have ho15 := isJb_of ho15b
              refine E_getD (r := o15) fg_RX2_27 dX2_spread_210 sC_52 rfl eo15.symm (J_nz ho15) ?_
              refine E_getR fg_RX2_94 dX2_spread_213 (J_s0 ho15) rfl (J_r0_2 ho15) (Nat.succ_ne_zero _) ?_
              refine E_iload_n (v := a2) dX2_spread_216 rfl ?_
              obtain ⟨hi16, hf⟩ := gd_some hf
              refine E_iald (n := 6) dX2_spread_217 (J_s2 ho15) (by decide) (inb_in hi16) ?_
              refine E_iadd dX2_spread_218 ?_
              obtain ⟨v17, ev17, hf⟩ := lw_some hf
              try dsimp only at hf
              rw [← ev17]
              refine E_istore (ls' := [some (.ref 52), some (.int a0), some (.int a1), some (.int a2), some (.int (1 <<< (a0 &&& 31))), some (.int ((1 <<< (a0 &&& 31)) * 2)), some (.int x6_64_2), some (.int x7_64_2), some (.int x8_25_1), some (.int v17), some (.int x10_64_2), some (.int v11), some (.int r13)]) dX2_spread_219 rfl rfl rfl ?_
              refine E_iinc (ls' := [some (.ref 52), some (.int a0), some (.int a1), some (.int a2), some (.int (1 <<< (a0 &&& 31))), some (.int ((1 <<< (a0 &&& 31)) * 2)), some (.int x6_64_2), some (.int x7_64_2), some (.int x8_25_1), some (.int v17), some (.int (x10_64_2 + 1)), some (.int v11), some (.int r13)]) 1 dX2_spread_221 rfl ic_1 rfl rfl rfl ?_
              refine E_goto 64 dX2_spread_224 (by decide) ?_
              obtain rfl := Option.some.inj hf
              refine E.fewer (ls' := [some (.ref 52), some (.int a0), some (.int a1), some (.int a2), some (.int (1 <<< (a0 &&& 31))), some (.int ((1 <<< (a0 &&& 31)) * 2)), some (.int x6_64_2), some (.int x7_64_2), some (.int x8_25_1), some (.int v17), some (.int (x10_64_2 + 1)), none, none]) ⟨Or.inr rfl, ⟨Or.inr rfl, ⟨Or.inr rfl, ⟨Or.inr rfl, ⟨Or.inr rfl, ⟨Or.inr rfl, ⟨Or.inr rfl, ⟨Or.inr rfl, ⟨Or.inr rfl, ⟨Or.inr rfl, ⟨Or.inr rfl, ⟨Or.inl rfl, ⟨Or.inl rfl, trivial⟩⟩⟩⟩⟩⟩⟩⟩⟩⟩⟩⟩⟩ ?_
              exact k9
            · rw [if_neg hc14] at hf
              refine E_aload_n (v := 52) dX2_spread_123 rfl ?_
              refine E_getI fg_RX2_31 dX2_spread_124 sC_52 rfl ?_
              refine E_if_ne 144 dX2_spread_127 (by decide) (fun hc18 => ?_) (fun hc18 => ?_)
              · rw [if_pos hc18] at hf
                refine E_iload (v := r13) dX2_spread_130 rfl ?_
                refine E_aload_n (v := 52) dX2_spread_132 rfl ?_
                obtain ⟨o19, eo19, hf⟩ := lw_some hf
                try dsimp only at hf
                obtain ⟨ho19b, hf⟩ := gd_some hf
                have ho19 := isJb_of ho19b
                refine E_getD (r := o19) fg_RX2_27 dX2_spread_133 sC_52 rfl eo19.symm (J_nz ho19) ?_
                refine E_getR fg_RX2_85 dX2_spread_136 (J_s0 ho19) rfl (J_r0_4 ho19) (Nat.succ_ne_zero _) ?_
                refine E_iload_n (v := a2) dX2_spread_139 rfl ?_
                obtain ⟨hi20, hf⟩ := gd_some hf
                refine E_iald (n := 6) dX2_spread_140 (J_s4 ho19) (by decide) (inb_in hi20) ?_
                refine E_icmp_gt 207 dX2_spread_141 (by decide) (fun hc21 => ?_) (fun hc21 => ?_)
                · rw [if_pos hc21] at hf
                  refine E_iload (v := x9_64_2) dX2_spread_207 rfl ?_
                  refine E_aload_n (v := 52) dX2_spread_209 rfl ?_
                  obtain ⟨o22, eo22, hf⟩ := lw_some hf
                  try dsimp only at hf
                  obtain ⟨ho22b, hf⟩ := gd_some hf
                  have ho22 := isJb_of ho22b
                  refine E_getD (r := o22) fg_RX2_27 dX2_spread_210 sC_52 rfl eo22.symm (J_nz ho22) ?_
                  refine E_getR fg_RX2_94 dX2_spread_213 (J_s0 ho22) rfl (J_r0_2 ho22) (Nat.succ_ne_zero _) ?_
                  refine E_iload_n (v := a2) dX2_spread_216 rfl ?_
                  refine E_iald (n := 6) dX2_spread_217 (J_s2 ho22) (by decide) (inb_in hi20) ?_
                  refine E_iadd dX2_spread_218 ?_
                  obtain ⟨v23, ev23, hf⟩ := lw_some hf
                  try dsimp only at hf
                  rw [← ev23]
                  refine E_istore (ls' := [some (.ref 52), some (.int a0), some (.int a1), some (.int a2), some (.int (1 <<< (a0 &&& 31))), some (.int ((1 <<< (a0 &&& 31)) * 2)), some (.int x6_64_2), some (.int x7_64_2), some (.int x8_25_1), some (.int v23), some (.int x10_64_2), some (.int v11), some (.int r13)]) dX2_spread_219 rfl rfl rfl ?_
                  refine E_iinc (ls' := [some (.ref 52), some (.int a0), some (.int a1), some (.int a2), some (.int (1 <<< (a0 &&& 31))), some (.int ((1 <<< (a0 &&& 31)) * 2)), some (.int x6_64_2), some (.int x7_64_2), some (.int x8_25_1), some (.int v23), some (.int (x10_64_2 + 1)), some (.int v11), some (.int r13)]) 1 dX2_spread_221 rfl ic_1 rfl rfl rfl ?_
                  refine E_goto 64 dX2_spread_224 (by decide) ?_
                  obtain rfl := Option.some.inj hf
                  refine E.fewer (ls' := [some (.ref 52), some (.int a0), some (.int a1), some (.int a2), some (.int (1 <<< (a0 &&& 31))), some (.int ((1 <<< (a0 &&& 31)) * 2)), some (.int x6_64_2), some (.int x7_64_2), some (.int x8_25_1), some (.int v23), some (.int (x10_64_2 + 1)), none, none]) ⟨Or.inr rfl, ⟨Or.inr rfl, ⟨Or.inr rfl, ⟨Or.inr rfl, ⟨Or.inr rfl, ⟨Or.inr rfl, ⟨Or.inr rfl, ⟨Or.inr rfl, ⟨Or.inr rfl, ⟨Or.inr rfl, ⟨Or.inr rfl, ⟨Or.inl rfl, ⟨Or.inl rfl, trivial⟩⟩⟩⟩⟩⟩⟩⟩⟩⟩⟩⟩⟩ ?_
                  exact k9
                · rw [if_neg hc21] at hf
                  refine E_aload_n (v := 52) dX2_spread_144 rfl ?_
                  refine E_getR fg_RX2_11 dX2_spread_145 sC_52 rfl rC_52_1 (Nat.succ_ne_zero _) ?_
                  refine E_iload (v := ((1 <<< (a0 &&& 31)) * 2)) dX2_spread_148 rfl ?_
                  refine E_iload (v := x6_64_2) dX2_spread_150 rfl ?_
                  refine E_iadd dX2_spread_152 ?_
                  refine E_iload (v := x9_64_2) dX2_spread_153 rfl ?_
                  obtain ⟨hi24, hf⟩ := gd_some hf
                  obtain ⟨w25, ew25, hf⟩ := lw_some hf
                  try dsimp only at hf
                  refine E_iast (n := 128) dX2_spread_155 sC_53 (by decide) (inb_in hi24) ?_
                  rw [← ew25]
                  refine E_aload_n (v := 52) dX2_spread_156 rfl ?_
                  refine E_getR fg_RX2_15 dX2_spread_157 sC_52 rfl rC_52_2 (Nat.succ_ne_zero _) ?_
                  refine E_iload (v := ((1 <<< (a0 &&& 31)) * 2)) dX2_spread_160 rfl ?_
                  refine E_iload (v := x6_64_2) dX2_spread_162 rfl ?_
                  refine E_iadd dX2_spread_164 ?_
                  refine E_iload (v := v11) dX2_spread_165 rfl ?_
                  obtain ⟨w26, ew26, hf⟩ := lw_some hf
                  try dsimp only at hf
                  refine E_iast (n := 128) dX2_spread_167 sC_54 (by decide) (inb_in hi24) ?_
                  rw [← ew26]
                  refine E_iinc (ls' := [some (.ref 52), some (.int a0), some (.int a1), some (.int a2), some (.int (1 <<< (a0 &&& 31))), some (.int ((1 <<< (a0 &&& 31)) * 2)), some (.int (x6_64_2 + 1)), some (.int x7_64_2), some (.int x8_25_1), some (.int x9_64_2), some (.int x10_64_2), some (.int v11), some (.int r13)]) 1 dX2_spread_168 rfl ic_1 rfl rfl rfl ?_
                  refine E_iload (v := x7_64_2) dX2_spread_171 rfl ?_
                  refine E_iload (v := v11) dX2_spread_173 rfl ?_
                  refine E_iadd dX2_spread_175 ?_
                  refine E_istore (ls' := [some (.ref 52), some (.int a0), some (.int a1), some (.int a2), some (.int (1 <<< (a0 &&& 31))), some (.int ((1 <<< (a0 &&& 31)) * 2)), some (.int (x6_64_2 + 1)), some (.int (x7_64_2 + v11)), some (.int x8_25_1), some (.int x9_64_2), some (.int x10_64_2), some (.int v11), some (.int r13)]) dX2_spread_176 rfl rfl rfl ?_
                  refine E_aload_n (v := 52) dX2_spread_178 rfl ?_
                  refine E_dup_r dX2_spread_179 ?_
                  refine E_getI fg_RX2_35 dX2_spread_180 sC_52 rfl ?_
                  refine E_iload (v := v11) dX2_spread_183 rfl ?_
                  refine E_aload_n (v := 52) dX2_spread_185 rfl ?_
                  obtain ⟨o27, eo27, hf⟩ := lw_some hf
                  try dsimp only at hf
                  obtain ⟨ho27b, hf⟩ := gd_some hf
                  have ho27 := isJb_of ho27b
                  refine E_getD (r := o27) fg_RX2_27 dX2_spread_186 sC_52 rfl eo27.symm (J_nz ho27) ?_
                  refine E_iload_n (v := a2) dX2_spread_189 rfl ?_
                  refine E_iload (v := r13) dX2_spread_190 rfl ?_
                  refine E_aload_n (v := 52) dX2_spread_192 rfl ?_
                  refine E_getR fg_RX2_42 dX2_spread_193 sC_52 rfl rC_52_0 (Nat.succ_ne_zero _) ?_
                  refine E_getI fg_RX2_88 dX2_spread_196 sC_46 rfl ?_
                  obtain ⟨r29, hc28, hf⟩ := bd_some hf
                  try dsimp only at hf
                  refine E_callVi (rest := [.int v11, .int (w26.1 52 8), .ref 52]) (ci := 4) cv_RX2_91 dX2_spread_199 (MX4_valueOf ho27 hc28) rfl (J_s0 ho27) rfl (by decide) rfl rfl (fun _ => Nat.le_of_ble_eq_true rfl) ?_
                  refine E_imul dX2_spread_202 ?_
                  refine E_iadd dX2_spread_203 ?_
                  obtain ⟨w30, ew30, hf⟩ := lw_some hf
                  try dsimp only at hf
                  refine E_putI fp_RX2_35 dX2_spread_204 sC_52 rfl rfl rfl ?_
                  rw [← ew30]
                  refine E_iload (v := x9_64_2) dX2_spread_207 rfl ?_
                  refine E_aload_n (v := 52) dX2_spread_209 rfl ?_
                  obtain ⟨o31, eo31, hf⟩ := lw_some hf
                  try dsimp only at hf
                  obtain ⟨ho31b, hf⟩ := gd_some hf
                  have ho31 := isJb_of ho31b
                  refine E_getD (r := o31) fg_RX2_27 dX2_spread_210 sC_52 rfl eo31.symm (J_nz ho31) ?_
                  refine E_getR fg_RX2_94 dX2_spread_213 (J_s0 ho31) rfl (J_r0_2 ho31) (Nat.succ_ne_zero _) ?_
                  refine E_iload_n (v := a2) dX2_spread_216 rfl ?_
                  refine E_iald (n := 6) dX2_spread_217 (J_s2 ho31) (by decide) (inb_in hi20) ?_
                  refine E_iadd dX2_spread_218 ?_
                  obtain ⟨v32, ev32, hf⟩ := lw_some hf
                  try dsimp only at hf
                  rw [← ev32]
                  refine E_istore (ls' := [some (.ref 52), some (.int a0), some (.int a1), some (.int a2), some (.int (1 <<< (a0 &&& 31))), some (.int ((1 <<< (a0 &&& 31)) * 2)), some (.int (x6_64_2 + 1)), some (.int (x7_64_2 + v11)), some (.int x8_25_1), some (.int v32), some (.int x10_64_2), some (.int v11), some (.int r13)]) dX2_spread_219 rfl rfl rfl ?_
                  refine E_iinc (ls' := [some (.ref 52), some (.int a0), some (.int a1), some (.int a2), some (.int (1 <<< (a0 &&& 31))), some (.int ((1 <<< (a0 &&& 31)) * 2)), some (.int (x6_64_2 + 1)), some (.int (x7_64_2 + v11)), some (.int x8_25_1), some (.int v32), some (.int (x10_64_2 + 1)), some (.int v11), some (.int r13)]) 1 dX2_spread_221 rfl ic_1 rfl rfl rfl ?_
                  refine E_goto 64 dX2_spread_224 (by decide) ?_
                  obtain rfl := Option.some.inj hf
                  refine E.fewer (ls' := [some (.ref 52), some (.int a0), some (.int a1), some (.int a2), some (.int (1 <<< (a0 &&& 31))), some (.int ((1 <<< (a0 &&& 31)) * 2)), some (.int (x6_64_2 + 1)), some (.int (x7_64_2 + v11)), some (.int x8_25_1), some (.int v32), some (.int (x10_64_2 + 1)), none, none]) ⟨Or.inr rfl, ⟨Or.inr rfl, ⟨Or.inr rfl, ⟨Or.inr rfl, ⟨Or.inr rfl, ⟨Or.inr rfl, ⟨Or.inr rfl, ⟨Or.inr rfl, ⟨Or.inr rfl, ⟨Or.inr rfl, ⟨Or.inr rfl, ⟨Or.inl rfl, ⟨Or.inl rfl, trivial⟩⟩⟩⟩⟩⟩⟩⟩⟩⟩⟩⟩⟩ ?_
                  exact k9
              · rw [if_neg hc18] at hf
                refine E_aload_n (v := 52) dX2_spread_144 rfl ?_
                refine E_getR fg_RX2_11 dX2_spread_145 sC_52 rfl rC_52_1 (Nat.succ_ne_zero _) ?_
                refine E_iload (v := ((1 <<< (a0 &&& 31)) * 2)) dX2_spread_148 rfl ?_
                refine E_iload (v := x6_64_2) dX2_spread_150 rfl ?_
                refine E_iadd dX2_spread_152 ?_
                refine E_iload (v := x9_64_2) dX2_spread_153 rfl ?_
                obtain ⟨hi33, hf⟩ := gd_some hf
                obtain ⟨w34, ew34, hf⟩ := lw_some hf
                try dsimp only at hf
                refine E_iast (n := 128) dX2_spread_155 sC_53 (by decide) (inb_in hi33) ?_
                rw [← ew34]
                refine E_aload_n (v := 52) dX2_spread_156 rfl ?_
                refine E_getR fg_RX2_15 dX2_spread_157 sC_52 rfl rC_52_2 (Nat.succ_ne_zero _) ?_
                refine E_iload (v := ((1 <<< (a0 &&& 31)) * 2)) dX2_spread_160 rfl ?_
                refine E_iload (v := x6_64_2) dX2_spread_162 rfl ?_
                refine E_iadd dX2_spread_164 ?_
                refine E_iload (v := v11) dX2_spread_165 rfl ?_
                obtain ⟨w35, ew35, hf⟩ := lw_some hf
                try dsimp only at hf
                refine E_iast (n := 128) dX2_spread_167 sC_54 (by decide) (inb_in hi33) ?_
                rw [← ew35]
                refine E_iinc (ls' := [some (.ref 52), some (.int a0), some (.int a1), some (.int a2), some (.int (1 <<< (a0 &&& 31))), some (.int ((1 <<< (a0 &&& 31)) * 2)), some (.int (x6_64_2 + 1)), some (.int x7_64_2), some (.int x8_25_1), some (.int x9_64_2), some (.int x10_64_2), some (.int v11), some (.int r13)]) 1 dX2_spread_168 rfl ic_1 rfl rfl rfl ?_
                refine E_iload (v := x7_64_2) dX2_spread_171 rfl ?_
                refine E_iload (v := v11) dX2_spread_173 rfl ?_
                refine E_iadd dX2_spread_175 ?_
                refine E_istore (ls' := [some (.ref 52), some (.int a0), some (.int a1), some (.int a2), some (.int (1 <<< (a0 &&& 31))), some (.int ((1 <<< (a0 &&& 31)) * 2)), some (.int (x6_64_2 + 1)), some (.int (x7_64_2 + v11)), some (.int x8_25_1), some (.int x9_64_2), some (.int x10_64_2), some (.int v11), some (.int r13)]) dX2_spread_176 rfl rfl rfl ?_
                refine E_aload_n (v := 52) dX2_spread_178 rfl ?_
                refine E_dup_r dX2_spread_179 ?_
                refine E_getI fg_RX2_35 dX2_spread_180 sC_52 rfl ?_
                refine E_iload (v := v11) dX2_spread_183 rfl ?_
                refine E_aload_n (v := 52) dX2_spread_185 rfl ?_
                obtain ⟨o36, eo36, hf⟩ := lw_some hf
                try dsimp only at hf
                obtain ⟨ho36b, hf⟩ := gd_some hf
                have ho36 := isJb_of ho36b
                refine E_getD (r := o36) fg_RX2_27 dX2_spread_186 sC_52 rfl eo36.symm (J_nz ho36) ?_
                refine E_iload_n (v := a2) dX2_spread_189 rfl ?_
                refine E_iload (v := r13) dX2_spread_190 rfl ?_
                refine E_aload_n (v := 52) dX2_spread_192 rfl ?_
                refine E_getR fg_RX2_42 dX2_spread_193 sC_52 rfl rC_52_0 (Nat.succ_ne_zero _) ?_
                refine E_getI fg_RX2_88 dX2_spread_196 sC_46 rfl ?_
                obtain ⟨r38, hc37, hf⟩ := bd_some hf
                try dsimp only at hf
                refine E_callVi (rest := [.int v11, .int (w35.1 52 8), .ref 52]) (ci := 4) cv_RX2_91 dX2_spread_199 (MX4_valueOf ho36 hc37) rfl (J_s0 ho36) rfl (by decide) rfl rfl (fun _ => Nat.le_of_ble_eq_true rfl) ?_
                refine E_imul dX2_spread_202 ?_
                refine E_iadd dX2_spread_203 ?_
                obtain ⟨w39, ew39, hf⟩ := lw_some hf
                try dsimp only at hf
                refine E_putI fp_RX2_35 dX2_spread_204 sC_52 rfl rfl rfl ?_
                rw [← ew39]
                refine E_iload (v := x9_64_2) dX2_spread_207 rfl ?_
                refine E_aload_n (v := 52) dX2_spread_209 rfl ?_
                obtain ⟨o40, eo40, hf⟩ := lw_some hf
                try dsimp only at hf
                obtain ⟨ho40b, hf⟩ := gd_some hf
                have ho40 := isJb_of ho40b
                refine E_getD (r := o40) fg_RX2_27 dX2_spread_210 sC_52 rfl eo40.symm (J_nz ho40) ?_
                refine E_getR fg_RX2_94 dX2_spread_213 (J_s0 ho40) rfl (J_r0_2 ho40) (Nat.succ_ne_zero _) ?_
                refine E_iload_n (v := a2) dX2_spread_216 rfl ?_
                obtain ⟨hi41, hf⟩ := gd_some hf
                refine E_iald (n := 6) dX2_spread_217 (J_s2 ho40) (by decide) (inb_in hi41) ?_
                refine E_iadd dX2_spread_218 ?_
                obtain ⟨v42, ev42, hf⟩ := lw_some hf
                try dsimp only at hf
                rw [← ev42]
                refine E_istore (ls' := [some (.ref 52), some (.int a0), some (.int a1), some (.int a2), some (.int (1 <<< (a0 &&& 31))), some (.int ((1 <<< (a0 &&& 31)) * 2)), some (.int (x6_64_2 + 1)), some (.int (x7_64_2 + v11)), some (.int x8_25_1), some (.int v42), some (.int x10_64_2), some (.int v11), some (.int r13)]) dX2_spread_219 rfl rfl rfl ?_
                refine E_iinc (ls' := [some (.ref 52), some (.int a0), some (.int a1), some (.int a2), some (.int (1 <<< (a0 &&& 31))), some (.int ((1 <<< (a0 &&& 31)) * 2)), some (.int (x6_64_2 + 1)), some (.int (x7_64_2 + v11)), some (.int x8_25_1), some (.int v42), some (.int (x10_64_2 + 1)), some (.int v11), some (.int r13)]) 1 dX2_spread_221 rfl ic_1 rfl rfl rfl ?_
                refine E_goto 64 dX2_spread_224 (by decide) ?_
                obtain rfl := Option.some.inj hf
                refine E.fewer (ls' := [some (.ref 52), some (.int a0), some (.int a1), some (.int a2), some (.int (1 <<< (a0 &&& 31))), some (.int ((1 <<< (a0 &&& 31)) * 2)), some (.int (x6_64_2 + 1)), some (.int (x7_64_2 + v11)), some (.int x8_25_1), some (.int v42), some (.int (x10_64_2 + 1)), none, none]) ⟨Or.inr rfl, ⟨Or.inr rfl, ⟨Or.inr rfl, ⟨Or.inr rfl, ⟨Or.inr rfl, ⟨Or.inr rfl, ⟨Or.inr rfl, ⟨Or.inr rfl, ⟨Or.inr rfl, ⟨Or.inr rfl, ⟨Or.inr rfl, ⟨Or.inl rfl, ⟨Or.inl rfl, trivial⟩⟩⟩⟩⟩⟩⟩⟩⟩⟩⟩⟩⟩ ?_
                exact k9
          · rw [if_neg hc10] at hf
            refine E_aload_n (v := 52) dX2_spread_97 rfl ?_
            refine E_getR fg_RX2_42 dX2_spread_98 sC_52 rfl rC_52_0 (Nat.succ_ne_zero _) ?_
            refine E_getI fg_RX2_78 dX2_spread_101 sC_46 rfl ?_
            refine E_imul dX2_spread_104 ?_
            obtain ⟨v43, ev43, hf⟩ := lw_some hf
            try dsimp only at hf
            rw [← ev43]
            refine E_istore (ls' := [some (.ref 52), some (.int a0), some (.int a1), some (.int a2), some (.int (1 <<< (a0 &&& 31))), some (.int ((1 <<< (a0 &&& 31)) * 2)), some (.int x6_64_2), some (.int x7_64_2), some (.int x8_25_1), some (.int x9_64_2), some (.int x10_64_2), some (.int v43), none]) dX2_spread_105 rfl rfl rfl ?_
            refine E_aload_n (v := 52) dX2_spread_107 rfl ?_
            refine E_getR fg_RX2_42 dX2_spread_108 sC_52 rfl rC_52_0 (Nat.succ_ne_zero _) ?_
            refine E_iload (v := x9_64_2) dX2_spread_111 rfl ?_
            obtain ⟨r45, hc44, hf⟩ := bd_some hf
            try dsimp only at hf
            refine E_callVi (rest := []) (ci := 3) cv_RX2_81 dX2_spread_113 (MX3_dayAt hc44) rfl sC_46 rfl (by decide) rfl rfl (fun _ => Nat.le_of_ble_eq_true rfl) ?_
            refine E_istore (ls' := [some (.ref 52), some (.int a0), some (.int a1), some (.int a2), some (.int (1 <<< (a0 &&& 31))), some (.int ((1 <<< (a0 &&& 31)) * 2)), some (.int x6_64_2), some (.int x7_64_2), some (.int x8_25_1), some (.int x9_64_2), some (.int x10_64_2), some (.int v43), some (.int r45)]) dX2_spread_116 rfl rfl rfl ?_
            refine E_iload (v := v43) dX2_spread_118 rfl ?_
            refine E_if_le 207 dX2_spread_120 (by decide) (fun hc46 => ?_) (fun hc46 => ?_)
            · rw [if_pos hc46] at hf
              refine E_iload (v := x9_64_2) dX2_spread_207 rfl ?_
              refine E_aload_n (v := 52) dX2_spread_209 rfl ?_
              obtain ⟨o47, eo47, hf⟩ := lw_some hf
              try dsimp only at hf
              obtain ⟨ho47b, hf⟩ := gd_some hf
              have ho47 := isJb_of ho47b
              refine E_getD (r := o47) fg_RX2_27 dX2_spread_210 sC_52 rfl eo47.symm (J_nz ho47) ?_
              refine E_getR fg_RX2_94 dX2_spread_213 (J_s0 ho47) rfl (J_r0_2 ho47) (Nat.succ_ne_zero _) ?_
              refine E_iload_n (v := a2) dX2_spread_216 rfl ?_
              obtain ⟨hi48, hf⟩ := gd_some hf
              refine E_iald (n := 6) dX2_spread_217 (J_s2 ho47) (by decide) (inb_in hi48) ?_
              refine E_iadd dX2_spread_218 ?_
              obtain ⟨v49, ev49, hf⟩ := lw_some hf
              try dsimp only at hf
              rw [← ev49]
              refine E_istore (ls' := [some (.ref 52), some (.int a0), some (.int a1), some (.int a2), some (.int (1 <<< (a0 &&& 31))), some (.int ((1 <<< (a0 &&& 31)) * 2)), some (.int x6_64_2), some (.int x7_64_2), some (.int x8_25_1), some (.int v49), some (.int x10_64_2), some (.int v43), some (.int r45)]) dX2_spread_219 rfl rfl rfl ?_
              refine E_iinc (ls' := [some (.ref 52), some (.int a0), some (.int a1), some (.int a2), some (.int (1 <<< (a0 &&& 31))), some (.int ((1 <<< (a0 &&& 31)) * 2)), some (.int x6_64_2), some (.int x7_64_2), some (.int x8_25_1), some (.int v49), some (.int (x10_64_2 + 1)), some (.int v43), some (.int r45)]) 1 dX2_spread_221 rfl ic_1 rfl rfl rfl ?_
              refine E_goto 64 dX2_spread_224 (by decide) ?_
              obtain rfl := Option.some.inj hf
              refine E.fewer (ls' := [some (.ref 52), some (.int a0), some (.int a1), some (.int a2), some (.int (1 <<< (a0 &&& 31))), some (.int ((1 <<< (a0 &&& 31)) * 2)), some (.int x6_64_2), some (.int x7_64_2), some (.int x8_25_1), some (.int v49), some (.int (x10_64_2 + 1)), none, none]) ⟨Or.inr rfl, ⟨Or.inr rfl, ⟨Or.inr rfl, ⟨Or.inr rfl, ⟨Or.inr rfl, ⟨Or.inr rfl, ⟨Or.inr rfl, ⟨Or.inr rfl, ⟨Or.inr rfl, ⟨Or.inr rfl, ⟨Or.inr rfl, ⟨Or.inl rfl, ⟨Or.inl rfl, trivial⟩⟩⟩⟩⟩⟩⟩⟩⟩⟩⟩⟩⟩ ?_
              exact k9
            · rw [if_neg hc46] at hf
              refine E_aload_n (v := 52) dX2_spread_123 rfl ?_
              refine E_getI fg_RX2_31 dX2_spread_124 sC_52 rfl ?_
              refine E_if_ne 144 dX2_spread_127 (by decide) (fun hc50 => ?_) (fun hc50 => ?_)
              · rw [if_pos hc50] at hf
                refine E_iload (v := r45) dX2_spread_130 rfl ?_
                refine E_aload_n (v := 52) dX2_spread_132 rfl ?_
                obtain ⟨o51, eo51, hf⟩ := lw_some hf
                try dsimp only at hf
                obtain ⟨ho51b, hf⟩ := gd_some hf
                have ho51 := isJb_of ho51b
                refine E_getD (r := o51) fg_RX2_27 dX2_spread_133 sC_52 rfl eo51.symm (J_nz ho51) ?_
                refine E_getR fg_RX2_85 dX2_spread_136 (J_s0 ho51) rfl (J_r0_4 ho51) (Nat.succ_ne_zero _) ?_
                refine E_iload_n (v := a2) dX2_spread_139 rfl ?_
                obtain ⟨hi52, hf⟩ := gd_some hf
                refine E_iald (n := 6) dX2_spread_140 (J_s4 ho51) (by decide) (inb_in hi52) ?_
                refine E_icmp_gt 207 dX2_spread_141 (by decide) (fun hc53 => ?_) (fun hc53 => ?_)
                · rw [if_pos hc53] at hf
                  refine E_iload (v := x9_64_2) dX2_spread_207 rfl ?_
                  refine E_aload_n (v := 52) dX2_spread_209 rfl ?_
                  obtain ⟨o54, eo54, hf⟩ := lw_some hf
                  try dsimp only at hf
                  obtain ⟨ho54b, hf⟩ := gd_some hf
                  have ho54 := isJb_of ho54b
                  refine E_getD (r := o54) fg_RX2_27 dX2_spread_210 sC_52 rfl eo54.symm (J_nz ho54) ?_
                  refine E_getR fg_RX2_94 dX2_spread_213 (J_s0 ho54) rfl (J_r0_2 ho54) (Nat.succ_ne_zero _) ?_
                  refine E_iload_n (v := a2) dX2_spread_216 rfl ?_
                  refine E_iald (n := 6) dX2_spread_217 (J_s2 ho54) (by decide) (inb_in hi52) ?_
                  refine E_iadd dX2_spread_218 ?_
                  obtain ⟨v55, ev55, hf⟩ := lw_some hf
                  try dsimp only at hf
                  rw [← ev55]
                  refine E_istore (ls' := [some (.ref 52), some (.int a0), some (.int a1), some (.int a2), some (.int (1 <<< (a0 &&& 31))), some (.int ((1 <<< (a0 &&& 31)) * 2)), some (.int x6_64_2), some (.int x7_64_2), some (.int x8_25_1), some (.int v55), some (.int x10_64_2), some (.int v43), some (.int r45)]) dX2_spread_219 rfl rfl rfl ?_
                  refine E_iinc (ls' := [some (.ref 52), some (.int a0), some (.int a1), some (.int a2), some (.int (1 <<< (a0 &&& 31))), some (.int ((1 <<< (a0 &&& 31)) * 2)), some (.int x6_64_2), some (.int x7_64_2), some (.int x8_25_1), some (.int v55), some (.int (x10_64_2 + 1)), some (.int v43), some (.int r45)]) 1 dX2_spread_221 rfl ic_1 rfl rfl rfl ?_
                  refine E_goto 64 dX2_spread_224 (by decide) ?_
                  obtain rfl := Option.some.inj hf
                  refine E.fewer (ls' := [some (.ref 52), some (.int a0), some (.int a1), some (.int a2), some (.int (1 <<< (a0 &&& 31))), some (.int ((1 <<< (a0 &&& 31)) * 2)), some (.int x6_64_2), some (.int x7_64_2), some (.int x8_25_1), some (.int v55), some (.int (x10_64_2 + 1)), none, none]) ⟨Or.inr rfl, ⟨Or.inr rfl, ⟨Or.inr rfl, ⟨Or.inr rfl, ⟨Or.inr rfl, ⟨Or.inr rfl, ⟨Or.inr rfl, ⟨Or.inr rfl, ⟨Or.inr rfl, ⟨Or.inr rfl, ⟨Or.inr rfl, ⟨Or.inl rfl, ⟨Or.inl rfl, trivial⟩⟩⟩⟩⟩⟩⟩⟩⟩⟩⟩⟩⟩ ?_
                  exact k9
                · rw [if_neg hc53] at hf
                  refine E_aload_n (v := 52) dX2_spread_144 rfl ?_
                  refine E_getR fg_RX2_11 dX2_spread_145 sC_52 rfl rC_52_1 (Nat.succ_ne_zero _) ?_
                  refine E_iload (v := ((1 <<< (a0 &&& 31)) * 2)) dX2_spread_148 rfl ?_
                  refine E_iload (v := x6_64_2) dX2_spread_150 rfl ?_
                  refine E_iadd dX2_spread_152 ?_
                  refine E_iload (v := x9_64_2) dX2_spread_153 rfl ?_
                  obtain ⟨hi56, hf⟩ := gd_some hf
                  obtain ⟨w57, ew57, hf⟩ := lw_some hf
                  try dsimp only at hf
                  refine E_iast (n := 128) dX2_spread_155 sC_53 (by decide) (inb_in hi56) ?_
                  rw [← ew57]
                  refine E_aload_n (v := 52) dX2_spread_156 rfl ?_
                  refine E_getR fg_RX2_15 dX2_spread_157 sC_52 rfl rC_52_2 (Nat.succ_ne_zero _) ?_
                  refine E_iload (v := ((1 <<< (a0 &&& 31)) * 2)) dX2_spread_160 rfl ?_
                  refine E_iload (v := x6_64_2) dX2_spread_162 rfl ?_
                  refine E_iadd dX2_spread_164 ?_
                  refine E_iload (v := v43) dX2_spread_165 rfl ?_
                  obtain ⟨w58, ew58, hf⟩ := lw_some hf
                  try dsimp only at hf
                  refine E_iast (n := 128) dX2_spread_167 sC_54 (by decide) (inb_in hi56) ?_
                  rw [← ew58]
                  refine E_iinc (ls' := [some (.ref 52), some (.int a0), some (.int a1), some (.int a2), some (.int (1 <<< (a0 &&& 31))), some (.int ((1 <<< (a0 &&& 31)) * 2)), some (.int (x6_64_2 + 1)), some (.int x7_64_2), some (.int x8_25_1), some (.int x9_64_2), some (.int x10_64_2), some (.int v43), some (.int r45)]) 1 dX2_spread_168 rfl ic_1 rfl rfl rfl ?_
                  refine E_iload (v := x7_64_2) dX2_spread_171 rfl ?_
                  refine E_iload (v := v43) dX2_spread_173 rfl ?_
                  refine E_iadd dX2_spread_175 ?_
                  refine E_istore (ls' := [some (.ref 52), some (.int a0), some (.int a1), some (.int a2), some (.int (1 <<< (a0 &&& 31))), some (.int ((1 <<< (a0 &&& 31)) * 2)), some (.int (x6_64_2 + 1)), some (.int (x7_64_2 + v43)), some (.int x8_25_1), some (.int x9_64_2), some (.int x10_64_2), some (.int v43), some (.int r45)]) dX2_spread_176 rfl rfl rfl ?_
                  refine E_aload_n (v := 52) dX2_spread_178 rfl ?_
                  refine E_dup_r dX2_spread_179 ?_
                  refine E_getI fg_RX2_35 dX2_spread_180 sC_52 rfl ?_
                  refine E_iload (v := v43) dX2_spread_183 rfl ?_
                  refine E_aload_n (v := 52) dX2_spread_185 rfl ?_
                  obtain ⟨o59, eo59, hf⟩ := lw_some hf
                  try dsimp only at hf
                  obtain ⟨ho59b, hf⟩ := gd_some hf
                  have ho59 := isJb_of ho59b
                  refine E_getD (r := o59) fg_RX2_27 dX2_spread_186 sC_52 rfl eo59.symm (J_nz ho59) ?_
                  refine E_iload_n (v := a2) dX2_spread_189 rfl ?_
                  refine E_iload (v := r45) dX2_spread_190 rfl ?_
                  refine E_aload_n (v := 52) dX2_spread_192 rfl ?_
                  refine E_getR fg_RX2_42 dX2_spread_193 sC_52 rfl rC_52_0 (Nat.succ_ne_zero _) ?_
                  refine E_getI fg_RX2_88 dX2_spread_196 sC_46 rfl ?_
                  obtain ⟨r61, hc60, hf⟩ := bd_some hf
                  try dsimp only at hf
                  refine E_callVi (rest := [.int v43, .int (w58.1 52 8), .ref 52]) (ci := 4) cv_RX2_91 dX2_spread_199 (MX4_valueOf ho59 hc60) rfl (J_s0 ho59) rfl (by decide) rfl rfl (fun _ => Nat.le_of_ble_eq_true rfl) ?_
                  refine E_imul dX2_spread_202 ?_
                  refine E_iadd dX2_spread_203 ?_
                  obtain ⟨w62, ew62, hf⟩ := lw_some hf
                  try dsimp only at hf
                  refine E_putI fp_RX2_35 dX2_spread_204 sC_52 rfl rfl rfl ?_
                  rw [← ew62]
                  refine E_iload (v := x9_64_2) dX2_spread_207 rfl ?_
                  refine E_aload_n (v := 52) dX2_spread_209 rfl ?_
                  obtain ⟨o63, eo63, hf⟩ := lw_some hf
                  try dsimp only at hf
                  obtain ⟨ho63b, hf⟩ := gd_some hf
                  have ho63 := isJb_of ho63b
                  refine E_getD (r := o63) fg_RX2_27 dX2_spread_210 sC_52 rfl eo63.symm (J_nz ho63) ?_
                  refine E_getR fg_RX2_94 dX2_spread_213 (J_s0 ho63) rfl (J_r0_2 ho63) (Nat.succ_ne_zero _) ?_
                  refine E_iload_n (v := a2) dX2_spread_216 rfl ?_
                  refine E_iald (n := 6) dX2_spread_217 (J_s2 ho63) (by decide) (inb_in hi52) ?_
                  refine E_iadd dX2_spread_218 ?_
                  obtain ⟨v64, ev64, hf⟩ := lw_some hf
                  try dsimp only at hf
                  rw [← ev64]
                  refine E_istore (ls' := [some (.ref 52), some (.int a0), some (.int a1), some (.int a2), some (.int (1 <<< (a0 &&& 31))), some (.int ((1 <<< (a0 &&& 31)) * 2)), some (.int (x6_64_2 + 1)), some (.int (x7_64_2 + v43)), some (.int x8_25_1), some (.int v64), some (.int x10_64_2), some (.int v43), some (.int r45)]) dX2_spread_219 rfl rfl rfl ?_
                  refine E_iinc (ls' := [some (.ref 52), some (.int a0), some (.int a1), some (.int a2), some (.int (1 <<< (a0 &&& 31))), some (.int ((1 <<< (a0 &&& 31)) * 2)), some (.int (x6_64_2 + 1)), some (.int (x7_64_2 + v43)), some (.int x8_25_1), some (.int v64), some (.int (x10_64_2 + 1)), some (.int v43), some (.int r45)]) 1 dX2_spread_221 rfl ic_1 rfl rfl rfl ?_
                  refine E_goto 64 dX2_spread_224 (by decide) ?_
                  obtain rfl := Option.some.inj hf
                  refine E.fewer (ls' := [some (.ref 52), some (.int a0), some (.int a1), some (.int a2), some (.int (1 <<< (a0 &&& 31))), some (.int ((1 <<< (a0 &&& 31)) * 2)), some (.int (x6_64_2 + 1)), some (.int (x7_64_2 + v43)), some (.int x8_25_1), some (.int v64), some (.int (x10_64_2 + 1)), none, none]) ⟨Or.inr rfl, ⟨Or.inr rfl, ⟨Or.inr rfl, ⟨Or.inr rfl, ⟨Or.inr rfl, ⟨Or.inr rfl, ⟨Or.inr rfl, ⟨Or.inr rfl, ⟨Or.inr rfl, ⟨Or.inr rfl, ⟨Or.inr rfl, ⟨Or.inl rfl, ⟨Or.inl rfl, trivial⟩⟩⟩⟩⟩⟩⟩⟩⟩⟩⟩⟩⟩ ?_
                  exact k9
              · rw [if_neg hc50] at hf
                refine E_aload_n (v := 52) dX2_spread_144 rfl ?_
                refine E_getR fg_RX2_11 dX2_spread_145 sC_52 rfl rC_52_1 (Nat.succ_ne_zero _) ?_
                refine E_iload (v := ((1 <<< (a0 &&& 31)) * 2)) dX2_spread_148 rfl ?_
                refine E_iload (v := x6_64_2) dX2_spread_150 rfl ?_
                refine E_iadd dX2_spread_152 ?_
                refine E_iload (v := x9_64_2) dX2_spread_153 rfl ?_
                obtain ⟨hi65, hf⟩ := gd_some hf
                obtain ⟨w66, ew66, hf⟩ := lw_some hf
                try dsimp only at hf
                refine E_iast (n := 128) dX2_spread_155 sC_53 (by decide) (inb_in hi65) ?_
                rw [← ew66]
                refine E_aload_n (v := 52) dX2_spread_156 rfl ?_
                refine E_getR fg_RX2_15 dX2_spread_157 sC_52 rfl rC_52_2 (Nat.succ_ne_zero _) ?_
                refine E_iload (v := ((1 <<< (a0 &&& 31)) * 2)) dX2_spread_160 rfl ?_
                refine E_iload (v := x6_64_2) dX2_spread_162 rfl ?_
                refine E_iadd dX2_spread_164 ?_
                refine E_iload (v := v43) dX2_spread_165 rfl ?_
                obtain ⟨w67, ew67, hf⟩ := lw_some hf
                try dsimp only at hf
                refine E_iast (n := 128) dX2_spread_167 sC_54 (by decide) (inb_in hi65) ?_
                rw [← ew67]
                refine E_iinc (ls' := [some (.ref 52), some (.int a0), some (.int a1), some (.int a2), some (.int (1 <<< (a0 &&& 31))), some (.int ((1 <<< (a0 &&& 31)) * 2)), some (.int (x6_64_2 + 1)), some (.int x7_64_2), some (.int x8_25_1), some (.int x9_64_2), some (.int x10_64_2), some (.int v43), some (.int r45)]) 1 dX2_spread_168 rfl ic_1 rfl rfl rfl ?_
                refine E_iload (v := x7_64_2) dX2_spread_171 rfl ?_
                refine E_iload (v := v43) dX2_spread_173 rfl ?_
                refine E_iadd dX2_spread_175 ?_
                refine E_istore (ls' := [some (.ref 52), some (.int a0), some (.int a1), some (.int a2), some (.int (1 <<< (a0 &&& 31))), some (.int ((1 <<< (a0 &&& 31)) * 2)), some (.int (x6_64_2 + 1)), some (.int (x7_64_2 + v43)), some (.int x8_25_1), some (.int x9_64_2), some (.int x10_64_2), some (.int v43), some (.int r45)]) dX2_spread_176 rfl rfl rfl ?_
                refine E_aload_n (v := 52) dX2_spread_178 rfl ?_
                refine E_dup_r dX2_spread_179 ?_
                refine E_getI fg_RX2_35 dX2_spread_180 sC_52 rfl ?_
                refine E_iload (v := v43) dX2_spread_183 rfl ?_
                refine E_aload_n (v := 52) dX2_spread_185 rfl ?_
                obtain ⟨o68, eo68, hf⟩ := lw_some hf
                try dsimp only at hf
                obtain ⟨ho68b, hf⟩ := gd_some hf
                have ho68 := isJb_of ho68b
                refine E_getD (r := o68) fg_RX2_27 dX2_spread_186 sC_52 rfl eo68.symm (J_nz ho68) ?_
                refine E_iload_n (v := a2) dX2_spread_189 rfl ?_
                refine E_iload (v := r45) dX2_spread_190 rfl ?_
                refine E_aload_n (v := 52) dX2_spread_192 rfl ?_
                refine E_getR fg_RX2_42 dX2_spread_193 sC_52 rfl rC_52_0 (Nat.succ_ne_zero _) ?_
                refine E_getI fg_RX2_88 dX2_spread_196 sC_46 rfl ?_
                obtain ⟨r70, hc69, hf⟩ := bd_some hf
                try dsimp only at hf
                refine E_callVi (rest := [.int v43, .int (w67.1 52 8), .ref 52]) (ci := 4) cv_RX2_91 dX2_spread_199 (MX4_valueOf ho68 hc69) rfl (J_s0 ho68) rfl (by decide) rfl rfl (fun _ => Nat.le_of_ble_eq_true rfl) ?_
                refine E_imul dX2_spread_202 ?_
                refine E_iadd dX2_spread_203 ?_
                obtain ⟨w71, ew71, hf⟩ := lw_some hf
                try dsimp only at hf
                refine E_putI fp_RX2_35 dX2_spread_204 sC_52 rfl rfl rfl ?_
                rw [← ew71]
                refine E_iload (v := x9_64_2) dX2_spread_207 rfl ?_
                refine E_aload_n (v := 52) dX2_spread_209 rfl ?_
                obtain ⟨o72, eo72, hf⟩ := lw_some hf
                try dsimp only at hf
                obtain ⟨ho72b, hf⟩ := gd_some hf
                have ho72 := isJb_of ho72b
                refine E_getD (r := o72) fg_RX2_27 dX2_spread_210 sC_52 rfl eo72.symm (J_nz ho72) ?_
                refine E_getR fg_RX2_94 dX2_spread_213 (J_s0 ho72) rfl (J_r0_2 ho72) (Nat.succ_ne_zero _) ?_
                refine E_iload_n (v := a2) dX2_spread_216 rfl ?_
                obtain ⟨hi73, hf⟩ := gd_some hf
                refine E_iald (n := 6) dX2_spread_217 (J_s2 ho72) (by decide) (inb_in hi73) ?_
                refine E_iadd dX2_spread_218 ?_
                obtain ⟨v74, ev74, hf⟩ := lw_some hf
                try dsimp only at hf
                rw [← ev74]
                refine E_istore (ls' := [some (.ref 52), some (.int a0), some (.int a1), some (.int a2), some (.int (1 <<< (a0 &&& 31))), some (.int ((1 <<< (a0 &&& 31)) * 2)), some (.int (x6_64_2 + 1)), some (.int (x7_64_2 + v43)), some (.int x8_25_1), some (.int v74), some (.int x10_64_2), some (.int v43), some (.int r45)]) dX2_spread_219 rfl rfl rfl ?_
                refine E_iinc (ls' := [some (.ref 52), some (.int a0), some (.int a1), some (.int a2), some (.int (1 <<< (a0 &&& 31))), some (.int ((1 <<< (a0 &&& 31)) * 2)), some (.int (x6_64_2 + 1)), some (.int (x7_64_2 + v43)), some (.int x8_25_1), some (.int v74), some (.int (x10_64_2 + 1)), some (.int v43), some (.int r45)]) 1 dX2_spread_221 rfl ic_1 rfl rfl rfl ?_
                refine E_goto 64 dX2_spread_224 (by decide) ?_
                obtain rfl := Option.some.inj hf
                refine E.fewer (ls' := [some (.ref 52), some (.int a0), some (.int a1), some (.int a2), some (.int (1 <<< (a0 &&& 31))), some (.int ((1 <<< (a0 &&& 31)) * 2)), some (.int (x6_64_2 + 1)), some (.int (x7_64_2 + v43)), some (.int x8_25_1), some (.int v74), some (.int (x10_64_2 + 1)), none, none]) ⟨Or.inr rfl, ⟨Or.inr rfl, ⟨Or.inr rfl, ⟨Or.inr rfl, ⟨Or.inr rfl, ⟨Or.inr rfl, ⟨Or.inr rfl, ⟨Or.inr rfl, ⟨Or.inr rfl, ⟨Or.inr rfl, ⟨Or.inr rfl, ⟨Or.inl rfl, ⟨Or.inl rfl, trivial⟩⟩⟩⟩⟩⟩⟩⟩⟩⟩⟩⟩⟩ ?_
                exact k9
      · skip
        obtain ⟨y76, y77, w78⟩ := q
        try dsimp only at hf
        show E PC RX2 cX2_spread 13 3 227 [some (.ref 52), some (.int a0), some (.int a1), some (.int a2), some (.int (1 <<< (a0 &&& 31))), some (.int ((1 <<< (a0 &&& 31)) * 2)), some (.int y76), some (.int y77), some (.int x8_25_1), none, none, none, none] [] w78 Q
        refine E_iinc (ls' := [some (.ref 52), some (.int a0), some (.int a1), some (.int a2), some (.int (1 <<< (a0 &&& 31))), some (.int ((1 <<< (a0 &&& 31)) * 2)), some (.int y76), some (.int y77), some (.int (x8_25_1 + 1)), none, none, none, none]) 1 dX2_spread_227 rfl ic_1 rfl rfl rfl ?_
        refine E_goto 25 dX2_spread_230 (by decide) ?_
        obtain rfl := Option.some.inj hf
        exact k9
  · skip
    obtain ⟨y80, y81, w82⟩ := q
    try dsimp only at hf
    show E PC RX2 cX2_spread 13 3 233 [some (.ref 52), some (.int a0), none, none, none, none, some (.int y80), some (.int y81), none, none, none, none, none] [] w82 Q
    refine E_aload_n (v := 52) dX2_spread_233 rfl ?_
    refine E_getR fg_RX2_18 dX2_spread_234 sC_52 rfl rC_52_3 (Nat.succ_ne_zero _) ?_
    refine E_iload_n (v := a0) dX2_spread_237 rfl ?_
    refine E_iconst 1 dX2_spread_238 ic_1 ?_
    refine E_iadd dX2_spread_239 ?_
    refine E_iload (v := y80) dX2_spread_240 rfl ?_
    obtain ⟨hi83, hf⟩ := gd_some hf
    obtain ⟨w84, ew84, hf⟩ := lw_some hf
    try dsimp only at hf
    refine E_iast (n := 7) dX2_spread_242 sC_55 (by decide) (inb_in hi83) ?_
    rw [← ew84]
    refine E_iload (v := y81) dX2_spread_243 rfl ?_
    obtain ⟨rfl, rfl⟩ := ret2 hf
    exact E.done (by rw [eQ]; exact ⟨rfl, Or.inl ⟨_, _, rfl, rfl, dX2_spread_245, rfl, rfl⟩⟩)
