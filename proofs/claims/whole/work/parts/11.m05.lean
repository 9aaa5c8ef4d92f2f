set_option maxRecDepth 10000 in
set_option maxHeartbeats 2000000 in
theorem MX11_sure {N : Nat} {a0 : Int32} {w : AW} {rZ : Int32} {wZ : AW} (hf : fX11_sure N a0 w = some (rZ, wZ)) : CallOK PC yX11_sure cX11_sure 2 (some .int) 5 [.ref 0, .int a0] w (some (.int rZ)) wZ := by
  refine CallOK.of (ls := [some (.ref 0), some (.int a0)]) (by decide) (by simp) rfl rfl ?_
  obtain ⟨Q, eQ⟩ : ∃ Q, Q = Qret cX11_sure (some .int) (some (.int rZ)) wZ := ⟨_, rfl⟩
  rw [← eQ]
  unfold fX11_sure at hf
  refine E_iload_n (v := a0) dX11_sure_0 rfl ?_
  refine E_iconst 0 dX11_sure_1 ic_0 ?_
  refine E_iconst 1 dX11_sure_2 ic_1 ?_
  obtain ⟨r2, hc1, hf⟩ := bd_some hf
  try dsimp only at hf
  refine E_callSi (rest := []) cs_RX11_100 dX11_sure_3 (MX11_within hc1) rfl rfl rfl (fun _ => Nat.le_of_ble_eq_true rfl) ?_
  refine E_if_ne 11 dX11_sure_6 (by decide) (fun hc3 => ?_) (fun hc3 => ?_)
  · rw [if_pos hc3] at hf
    refine E_iconst (-1) dX11_sure_9 ic_m1 ?_
    obtain ⟨rfl, rfl⟩ := ret2 hf
    exact E.done (by rw [eQ]; exact ⟨rfl, Or.inl ⟨_, _, rfl, rfl, dX11_sure_10, rfl, rfl⟩⟩)
  · rw [if_neg hc3] at hf
    refine E_aload_n (v := 0) dX11_sure_11 rfl ?_
    refine E_getR fg_RX11_43 dX11_sure_12 sC_0 rfl rC_0_6 (Nat.succ_ne_zero _) ?_
    refine E_aload_n (v := 0) dX11_sure_15 rfl ?_
    refine E_getR fg_RX11_10 dX11_sure_16 sC_0 rfl rC_0_0 (Nat.succ_ne_zero _) ?_
    refine E_iconst 0 dX11_sure_19 ic_0 ?_
    obtain ⟨w5, hc4, hf⟩ := bd_some hf
    try dsimp only at hf
    refine E_callVv (rest := []) (ci := 3) cv_RX11_208 dX11_sure_20 (MX3_measure B_is1 hc4) rfl sC_46 rfl (by decide) rfl rfl (fun _ => Nat.le_of_ble_eq_true rfl) ?_
    refine E_aload_n (v := 0) dX11_sure_23 rfl ?_
    refine E_getR fg_RX11_59 dX11_sure_24 sC_0 rfl rC_0_8 (Nat.succ_ne_zero _) ?_
    refine E_aload_n (v := 0) dX11_sure_27 rfl ?_
    refine E_getR fg_RX11_10 dX11_sure_28 sC_0 rfl rC_0_0 (Nat.succ_ne_zero _) ?_
    refine E_getR fg_RX11_130 dX11_sure_31 sC_1 rfl rC_1_0 (Nat.succ_ne_zero _) ?_
    refine E_aload_n (v := 0) dX11_sure_34 rfl ?_
    refine E_getR fg_RX11_10 dX11_sure_35 sC_0 rfl rC_0_0 (Nat.succ_ne_zero _) ?_
    refine E_getR fg_RX11_183 dX11_sure_38 sC_1 rfl rC_1_4 (Nat.succ_ne_zero _) ?_
    obtain ⟨r7, w8, hc6, hf⟩ := bd2_some hf
    try dsimp only at hf
    refine E_callVi (rest := []) (ci := 2) cv_RX11_238 dX11_sure_41 (MX2_sureOf J_is2 sC_11 hc6) rfl sC_52 rfl (by decide) rfl rfl (fun _ => Nat.le_of_ble_eq_true rfl) ?_
    refine E_iconst 2 dX11_sure_44 ic_2 ?_
    refine E_aload_n (v := 0) dX11_sure_45 rfl ?_
    refine E_getR fg_RX11_10 dX11_sure_46 sC_0 rfl rC_0_0 (Nat.succ_ne_zero _) ?_
    refine E_getR fg_RX11_130 dX11_sure_49 sC_1 rfl rC_1_0 (Nat.succ_ne_zero _) ?_
    refine E_getI fg_RX11_131 dX11_sure_52 sC_2 rfl ?_
    refine E_imul dX11_sure_55 ?_
    refine E_iload_n (v := a0) dX11_sure_56 rfl ?_
    obtain ⟨r11, hc10, hf⟩ := bd_some hf
    try dsimp only at hf
    refine E_callSi (rest := []) cs_RX11_242 dX11_sure_57 (MX11_partOf hc10) rfl rfl rfl (fun _ => Nat.le_of_ble_eq_true rfl) ?_
    obtain ⟨rfl, rfl⟩ := ret2 hf
    exact E.done (by rw [eQ]; exact ⟨rfl, Or.inl ⟨_, _, rfl, rfl, dX11_sure_60, rfl, rfl⟩⟩)
set_option maxRecDepth 10000 in
set_option maxHeartbeats 2000000 in
theorem MX7_holdsRow {a0 : Int32} {w : AW} {rZ : Int32} (hf : fX7_holdsRow a0 w = some rZ) : CallOK PC yX7_holdsRow cX7_holdsRow 2 (some .boolean) 1 [.ref 67, .int a0] w (some (.int rZ)) w := by
  refine CallOK.of (ls := [some (.ref 67), some (.int a0)]) (by decide) (by simp) rfl rfl ?_
  obtain ⟨Q, eQ⟩ : ∃ Q, Q = Qret cX7_holdsRow (some .boolean) (some (.int rZ)) w := ⟨_, rfl⟩
  rw [← eQ]
  unfold fX7_holdsRow at hf
  refine E_aload_n (v := 67) dX7_holdsRow_0 rfl ?_
  refine E_getR fg_RX7_21 dX7_holdsRow_1 sC_67 rfl rC_67_3 (Nat.succ_ne_zero _) ?_
  refine E_iload_n (v := a0) dX7_holdsRow_4 rfl ?_
  obtain ⟨hi1, hf⟩ := gd_some hf
  refine E_iald (n := 4) dX7_holdsRow_5 sC_71 (by decide) (inb_in hi1) ?_
  refine E_iconst 2 dX7_holdsRow_6 ic_2 ?_
  refine E_icmp_ne 14 dX7_holdsRow_7 (by decide) (fun hc2 => ?_) (fun hc2 => ?_)
  · rw [if_pos hc2] at hf
    refine E_iconst 1 dX7_holdsRow_10 ic_1 ?_
    refine E_goto 15 dX7_holdsRow_11 (by decide) ?_
    obtain rfl := Option.some.inj hf
    exact E.done (by rw [eQ]; exact ⟨rfl, Or.inl ⟨_, _, rfl, rfl, dX7_holdsRow_15, rfl, rfl⟩⟩)
  · rw [if_neg hc2] at hf
    refine E_iconst 0 dX7_holdsRow_14 ic_0 ?_
    obtain rfl := Option.some.inj hf
    exact E.done (by rw [eQ]; exact ⟨rfl, Or.inl ⟨_, _, rfl, rfl, dX7_holdsRow_15, rfl, rfl⟩⟩)
set_option maxRecDepth 10000 in
set_option maxHeartbeats 2000000 in
theorem BX11_taken_31 (p1_31 : Int32) (p2_31 : Int32) (p3_31 : Int32) (w : AW) (rZ : Int32) {Q : Nat → List (Option Value) → List Value → AW → Prop} (eQ : Q = Qret cX11_taken (some .int) (some (.int rZ)) w) (hf : bX11_taken_31 p1_31 p2_31 p3_31 w = some rZ) : E PC RX11 cX11_taken 5 3 31 [some (.ref 0), some (.int p1_31), some (.int p2_31), some (.int p3_31), none] [] w Q := by
  unfold bX11_taken_31 at hf
  refine E_aload_n (v := 0) dX11_taken_31 rfl ?_
  refine E_getR fg_RX11_89 dX11_taken_32 sC_0 rfl rC_0_12 (Nat.succ_ne_zero _) ?_
  refine E_iload_n (v := p1_31) dX11_taken_35 rfl ?_
  obtain ⟨r11, hc10, hf⟩ := bd_some hf
  try dsimp only at hf
  refine E_callVi (rest := []) (ci := 7) cv_RX11_329 dX11_taken_36 (MX7_jobOn hc10) rfl sC_67 rfl (by decide) rfl rfl (fun _ => Nat.le_of_ble_eq_true rfl) ?_
  refine E_istore (ls' := [some (.ref 0), some (.int p1_31), some (.int p2_31), some (.int p3_31), some (.int r11)]) dX11_taken_39 rfl rfl rfl ?_
  refine E_aload_n (v := 0) dX11_taken_41 rfl ?_
  refine E_getR fg_RX11_89 dX11_taken_42 sC_0 rfl rC_0_12 (Nat.succ_ne_zero _) ?_
  refine E_iload_n (v := p1_31) dX11_taken_45 rfl ?_
  obtain ⟨r13, hc12, hf⟩ := bd_some hf
  try dsimp only at hf
  refine E_callVi (rest := []) (ci := 7) cv_RX11_332 dX11_taken_46 (MX7_holdsRow hc12) rfl sC_67 rfl (by decide) rfl rfl (fun _ => Nat.le_of_ble_eq_true rfl) ?_
  refine E_if_eq 87 dX11_taken_49 (by decide) (fun hc14 => ?_) (fun hc14 => ?_)
  · rw [if_pos hc14] at hf
    refine E_aload_n (v := 0) dX11_taken_87 rfl ?_
    refine E_getR fg_RX11_10 dX11_taken_88 sC_0 rfl rC_0_0 (Nat.succ_ne_zero _) ?_
    refine E_getR fg_RX11_130 dX11_taken_91 sC_1 rfl rC_1_0 (Nat.succ_ne_zero _) ?_
    refine E_iload (v := r11) dX11_taken_94 rfl ?_
    obtain ⟨r16, hc15, hf⟩ := bd_some hf
    try dsimp only at hf
    refine E_callVi (rest := []) (ci := 4) cv_RX11_140 dX11_taken_96 (MX4_has J_is2 hc15) rfl sC_2 rfl (by decide) rfl rfl (fun _ => Nat.le_of_ble_eq_true rfl) ?_
    refine E_if_ne 105 dX11_taken_99 (by decide) (fun hc17 => ?_) (fun hc17 => ?_)
    · rw [if_pos hc17] at hf
      refine E_bipush (-11) dX11_taken_102 bp_m11 ?_
      obtain rfl := Option.some.inj hf
      exact E.done (by rw [eQ]; exact ⟨rfl, Or.inl ⟨_, _, rfl, rfl, dX11_taken_104, rfl, rfl⟩⟩)
    · rw [if_neg hc17] at hf
      refine E_iload_n (v := p3_31) dX11_taken_105 rfl ?_
      refine E_if_ne 134 dX11_taken_106 (by decide) (fun hc18 => ?_) (fun hc18 => ?_)
      · rw [if_pos hc18] at hf
        refine E_aload_n (v := 0) dX11_taken_109 rfl ?_
        refine E_getR fg_RX11_10 dX11_taken_110 sC_0 rfl rC_0_0 (Nat.succ_ne_zero _) ?_
        refine E_getR fg_RX11_130 dX11_taken_113 sC_1 rfl rC_1_0 (Nat.succ_ne_zero _) ?_
        refine E_getR fg_RX11_144 dX11_taken_116 sC_2 rfl rC_2_1 (Nat.succ_ne_zero _) ?_
        refine E_iload (v := r11) dX11_taken_119 rfl ?_
        obtain ⟨hi19, hf⟩ := gd_some hf
        refine E_iald (n := 6) dX11_taken_121 sC_3 (by decide) (inb_in hi19) ?_
        refine E_iload_n (v := p2_31) dX11_taken_122 rfl ?_
        obtain ⟨r21, hc20, hf⟩ := bd_some hf
        try dsimp only at hf
        refine E_callSi (rest := []) cs_RX11_341 dX11_taken_123 (MX11_isUnder hc20) rfl rfl rfl (fun _ => Nat.le_of_ble_eq_true rfl) ?_
        refine E_if_eq 134 dX11_taken_126 (by decide) (fun hc22 => ?_) (fun hc22 => ?_)
        · rw [if_pos hc22] at hf
          refine E_bipush (-13) dX11_taken_134 bp_m13 ?_
          obtain rfl := Option.some.inj hf
          exact E.done (by rw [eQ]; exact ⟨rfl, Or.inl ⟨_, _, rfl, rfl, dX11_taken_136, rfl, rfl⟩⟩)
        · rw [if_neg hc22] at hf
          refine E_iload (v := r11) dX11_taken_129 rfl ?_
          refine E_goto 136 dX11_taken_131 (by decide) ?_
          obtain rfl := Option.some.inj hf
          exact E.done (by rw [eQ]; exact ⟨rfl, Or.inl ⟨_, _, rfl, rfl, dX11_taken_136, rfl, rfl⟩⟩)
      · rw [if_neg hc18] at hf
        refine E_bipush (-13) dX11_taken_134 bp_m13 ?_
        obtain rfl := Option.some.inj hf
        exact E.done (by rw [eQ]; exact ⟨rfl, Or.inl ⟨_, _, rfl, rfl, dX11_taken_136, rfl, rfl⟩⟩)
  · rw [if_neg hc14] at hf
    refine E_iload_n (v := p3_31) dX11_taken_52 rfl ?_
    refine E_if_eq 84 dX11_taken_53 (by decide) (fun hc23 => ?_) (fun hc23 => ?_)
    · rw [if_pos hc23] at hf
      refine E_bipush (-13) dX11_taken_84 bp_m13 ?_
      obtain rfl := Option.some.inj hf
      exact E.done (by rw [eQ]; exact ⟨rfl, Or.inl ⟨_, _, rfl, rfl, dX11_taken_86, rfl, rfl⟩⟩)
    · rw [if_neg hc23] at hf
      refine E_aload_n (v := 0) dX11_taken_56 rfl ?_
      refine E_getR fg_RX11_89 dX11_taken_57 sC_0 rfl rC_0_12 (Nat.succ_ne_zero _) ?_
      refine E_getR fg_RX11_335 dX11_taken_60 sC_67 rfl rC_67_4 (Nat.succ_ne_zero _) ?_
      refine E_iload_n (v := p1_31) dX11_taken_63 rfl ?_
      obtain ⟨hi24, hf⟩ := gd_some hf
      refine E_iald (n := 4) dX11_taken_64 sC_72 (by decide) (inb_in hi24) ?_
      refine E_iload_n (v := p2_31) dX11_taken_65 rfl ?_
      refine E_bipush 10 dX11_taken_66 bp_10 ?_
      refine E_isub dX11_taken_68 ?_
      refine E_icmp_ne 84 dX11_taken_69 (by decide) (fun hc25 => ?_) (fun hc25 => ?_)
      · rw [if_pos hc25] at hf
        refine E_aload_n (v := 0) dX11_taken_72 rfl ?_
        refine E_getR fg_RX11_89 dX11_taken_73 sC_0 rfl rC_0_12 (Nat.succ_ne_zero _) ?_
        refine E_getR fg_RX11_338 dX11_taken_76 sC_67 rfl rC_67_5 (Nat.succ_ne_zero _) ?_
        refine E_iload_n (v := p1_31) dX11_taken_79 rfl ?_
        refine E_iald (n := 4) dX11_taken_80 sC_73 (by decide) (inb_in hi24) ?_
        refine E_goto 86 dX11_taken_81 (by decide) ?_
        obtain rfl := Option.some.inj hf
        exact E.done (by rw [eQ]; exact ⟨rfl, Or.inl ⟨_, _, rfl, rfl, dX11_taken_86, rfl, rfl⟩⟩)
      · rw [if_neg hc25] at hf
        refine E_bipush (-13) dX11_taken_84 bp_m13 ?_
        obtain rfl := Option.some.inj hf
        exact E.done (by rw [eQ]; exact ⟨rfl, Or.inl ⟨_, _, rfl, rfl, dX11_taken_86, rfl, rfl⟩⟩)
set_option maxRecDepth 10000 in
set_option maxHeartbeats 2000000 in
theorem MX11_taken {a0 : Int32} {a1 : Int32} {w : AW} {rZ : Int32} (hf : fX11_taken a0 a1 w = some rZ) : CallOK PC yX11_taken cX11_taken 5 (some .int) 3 [.ref 0, .int a0, .int a1] w (some (.int rZ)) w := by
  refine CallOK.of (ls := [some (.ref 0), some (.int a0), some (.int a1), none, none]) (by decide) (by simp) rfl rfl ?_
  obtain ⟨Q, eQ⟩ : ∃ Q, Q = Qret cX11_taken (some .int) (some (.int rZ)) w := ⟨_, rfl⟩
  rw [← eQ]
  unfold fX11_taken at hf
  refine E_iload_n (v := a1) dX11_taken_0 rfl ?_
  refine E_bipush 10 dX11_taken_1 bp_10 ?_
  refine E_bipush 13 dX11_taken_3 bp_13 ?_
  obtain ⟨r2, hc1, hf⟩ := bd_some hf
  try dsimp only at hf
  refine E_callSi (rest := []) cs_RX11_100 dX11_taken_5 (MX11_within hc1) rfl rfl rfl (fun _ => Nat.le_of_ble_eq_true rfl) ?_
  refine E_istore_n (ls' := [some (.ref 0), some (.int a0), some (.int a1), some (.int r2), none]) dX11_taken_8 rfl rfl rfl ?_
  refine E_iload_n (v := a0) dX11_taken_9 rfl ?_
  obtain ⟨r4, hc3, hf⟩ := bd_some hf
  try dsimp only at hf
  refine E_callSi (rest := []) cs_RX11_299 dX11_taken_10 (MX7_isPlace hc3) rfl rfl rfl (fun _ => Nat.le_of_ble_eq_true rfl) ?_
  refine E_if_eq 29 dX11_taken_13 (by decide) (fun hc5 => ?_) (fun hc5 => ?_)
  · rw [if_pos hc5] at hf
    refine E_iconst (-1) dX11_taken_29 ic_m1 ?_
    obtain rfl := Option.some.inj hf
    exact E.done (by rw [eQ]; exact ⟨rfl, Or.inl ⟨_, _, rfl, rfl, dX11_taken_30, rfl, rfl⟩⟩)
  · rw [if_neg hc5] at hf
    refine E_iload_n (v := r2) dX11_taken_16 rfl ?_
    refine E_if_ne 31 dX11_taken_17 (by decide) (fun hc6 => ?_) (fun hc6 => ?_)
    · rw [if_pos hc6] at hf
      refine E_iload_n (v := a1) dX11_taken_20 rfl ?_
      refine E_iconst 0 dX11_taken_21 ic_0 ?_
      refine E_iconst 5 dX11_taken_22 ic_5 ?_
      obtain ⟨r8, hc7, hf⟩ := bd_some hf
      try dsimp only at hf
      refine E_callSi (rest := []) cs_RX11_100 dX11_taken_23 (MX11_within hc7) rfl rfl rfl (fun _ => Nat.le_of_ble_eq_true rfl) ?_
      refine E_if_ne 31 dX11_taken_26 (by decide) (fun hc9 => ?_) (fun hc9 => ?_)
      · rw [if_pos hc9] at hf
        refine E_iconst (-1) dX11_taken_29 ic_m1 ?_
        obtain rfl := Option.some.inj hf
        exact E.done (by rw [eQ]; exact ⟨rfl, Or.inl ⟨_, _, rfl, rfl, dX11_taken_30, rfl, rfl⟩⟩)
      · rw [if_neg hc9] at hf
        exact BX11_taken_31 a0 a1 r2 w  rZ eQ hf
    · rw [if_neg hc6] at hf
      exact BX11_taken_31 a0 a1 r2 w  rZ eQ hf
set_option maxRecDepth 10000 in
set_option maxHeartbeats 2000000 in
theorem MX11_till {w : AW} {rZ : Int32} (hf : fX11_till w = some rZ) : CallOK PC yX11_till cX11_till 1 (some .int) 1 [.ref 0] w (some (.int rZ)) w := by
  refine CallOK.of (ls := [some (.ref 0)]) (by decide) (by simp) rfl rfl ?_
  obtain ⟨Q, eQ⟩ : ∃ Q, Q = Qret cX11_till (some .int) (some (.int rZ)) w := ⟨_, rfl⟩
  rw [← eQ]
  unfold fX11_till at hf
  refine E_aload_n (v := 0) dX11_till_0 rfl ?_
  refine E_getR fg_RX11_10 dX11_till_1 sC_0 rfl rC_0_0 (Nat.succ_ne_zero _) ?_
  refine E_getI fg_RX11_284 dX11_till_4 sC_1 rfl ?_
  obtain rfl := Option.some.inj hf
  exact E.done (by rw [eQ]; exact ⟨rfl, Or.inl ⟨_, _, rfl, rfl, dX11_till_7, rfl, rfl⟩⟩)
set_option maxRecDepth 10000 in
set_option maxHeartbeats 2000000 in
theorem MX11_trace {a0 : Int32} {w : AW} {rZ : Int32} (hf : fX11_trace a0 w = some rZ) : CallOK PC yX11_trace cX11_trace 2 (some .int) 2 [.ref 0, .int a0] w (some (.int rZ)) w := by
  refine CallOK.of (ls := [some (.ref 0), some (.int a0)]) (by decide) (by simp) rfl rfl ?_
  obtain ⟨Q, eQ⟩ : ∃ Q, Q = Qret cX11_trace (some .int) (some (.int rZ)) w := ⟨_, rfl⟩
  rw [← eQ]
  unfold fX11_trace at hf
  refine E_iload_n (v := a0) dX11_trace_0 rfl ?_
  refine E_iconst 0 dX11_trace_1 ic_0 ?_
  refine E_aload_n (v := 0) dX11_trace_2 rfl ?_
  refine E_getR fg_RX11_96 dX11_trace_3 sC_0 rfl rC_0_13 (Nat.succ_ne_zero _) ?_
  refine E_getI fg_RX11_353 dX11_trace_6 sC_74 rfl ?_
  refine E_iconst 1 dX11_trace_9 ic_1 ?_
  refine E_isub dX11_trace_10 ?_
  obtain ⟨r2, hc1, hf⟩ := bd_some hf
  try dsimp only at hf
  refine E_callSi (rest := []) cs_RX11_100 dX11_trace_11 (MX11_within hc1) rfl rfl rfl (fun _ => Nat.le_of_ble_eq_true rfl) ?_
  refine E_if_ne 20 dX11_trace_14 (by decide) (fun hc3 => ?_) (fun hc3 => ?_)
  · rw [if_pos hc3] at hf
    refine E_bipush (-3) dX11_trace_17 bp_m3 ?_
    obtain rfl := Option.some.inj hf
    exact E.done (by rw [eQ]; exact ⟨rfl, Or.inl ⟨_, _, rfl, rfl, dX11_trace_19, rfl, rfl⟩⟩)
  · rw [if_neg hc3] at hf
    refine E_aload_n (v := 0) dX11_trace_20 rfl ?_
    refine E_getR fg_RX11_96 dX11_trace_21 sC_0 rfl rC_0_13 (Nat.succ_ne_zero _) ?_
    refine E_getR fg_RX11_356 dX11_trace_24 sC_74 rfl rC_74_4 (Nat.succ_ne_zero _) ?_
    refine E_iload_n (v := a0) dX11_trace_27 rfl ?_
    obtain ⟨hi4, hf⟩ := gd_some hf
    refine E_iald (n := 30) dX11_trace_28 sC_75 (by decide) (inb_in hi4) ?_
    obtain rfl := Option.some.inj hf
    exact E.done (by rw [eQ]; exact ⟨rfl, Or.inl ⟨_, _, rfl, rfl, dX11_trace_29, rfl, rfl⟩⟩)
set_option maxRecDepth 10000 in
set_option maxHeartbeats 2000000 in
theorem MX10_add {t : Nat} {a0 : Int32} {a1 : Int32} {a2 : Int32} {a3 : Int32} {a4 : Int32} {a5 : Int32} {w : AW} {rZ : Int32} {wZ : AW} (ht : isT t) (hf : fX10_add t a0 a1 a2 a3 a4 a5 w = some (rZ, wZ)) : CallOK PC yX10_add cX10_add 7 (some .int) 1 [.ref t, .int a0, .int a1, .int a2, .int a3, .int a4, .int a5] w (some (.int rZ)) wZ := by
  refine CallOK.of (ls := [some (.ref t), some (.int a0), some (.int a1), some (.int a2), some (.int a3), some (.int a4), some (.int a5)]) (by decide) (by simp) rfl rfl ?_
  obtain ⟨Q, eQ⟩ : ∃ Q, Q = Qret cX10_add (some .int) (some (.int rZ)) wZ := ⟨_, rfl⟩
  rw [← eQ]
  unfold fX10_add at hf
  refine E_aload_n (v := t) dX10_add_0 rfl ?_
  refine E_getI fg_RX10_9 dX10_add_1 (T_s0 ht) rfl ?_
  refine E_iconst 3 dX10_add_4 ic_3 ?_
  refine E_icmp_lt 11 dX10_add_5 (by decide) (fun hc1 => ?_) (fun hc1 => ?_)
  · rw [if_pos hc1] at hf
    refine E_aload_n (v := t) dX10_add_11 rfl ?_
    refine E_getR fg_RX10_18 dX10_add_12 (T_s0 ht) rfl (T_r0_2 ht) (Nat.succ_ne_zero _) ?_
    refine E_aload_n (v := t) dX10_add_15 rfl ?_
    refine E_getI fg_RX10_9 dX10_add_16 (T_s0 ht) rfl ?_
    refine E_iload_n (v := a0) dX10_add_19 rfl ?_
    obtain ⟨hi2, hf⟩ := gd_some hf
    obtain ⟨w3, ew3, hf⟩ := lw_some hf
    try dsimp only at hf
    refine E_iast (n := 3) dX10_add_20 (T_s1 ht) (by decide) (inb_in hi2) ?_
    rw [← ew3]
    refine E_aload_n (v := t) dX10_add_21 rfl ?_
    refine E_getR fg_RX10_22 dX10_add_22 (T_s0 ht) rfl (T_r0_3 ht) (Nat.succ_ne_zero _) ?_
    refine E_aload_n (v := t) dX10_add_25 rfl ?_
    refine E_getI fg_RX10_9 dX10_add_26 (T_s0 ht) rfl ?_
    refine E_iload_n (v := a1) dX10_add_29 rfl ?_
    obtain ⟨hi4, hf⟩ := gd_some hf
    obtain ⟨w5, ew5, hf⟩ := lw_some hf
    try dsimp only at hf
    refine E_iast (n := 3) dX10_add_30 (T_s2 ht) (by decide) (inb_in hi4) ?_
    rw [← ew5]
    refine E_aload_n (v := t) dX10_add_31 rfl ?_
    refine E_getR fg_RX10_25 dX10_add_32 (T_s0 ht) rfl (T_r0_4 ht) (Nat.succ_ne_zero _) ?_
    refine E_aload_n (v := t) dX10_add_35 rfl ?_
    refine E_getI fg_RX10_9 dX10_add_36 (T_s0 ht) rfl ?_
    refine E_iload_n (v := a2) dX10_add_39 rfl ?_
    obtain ⟨hi6, hf⟩ := gd_some hf
    obtain ⟨w7, ew7, hf⟩ := lw_some hf
    try dsimp only at hf
    refine E_iast (n := 3) dX10_add_40 (T_s3 ht) (by decide) (inb_in hi6) ?_
    rw [← ew7]
    refine E_aload_n (v := t) dX10_add_41 rfl ?_
    refine E_getR fg_RX10_28 dX10_add_42 (T_s0 ht) rfl (T_r0_5 ht) (Nat.succ_ne_zero _) ?_
    refine E_aload_n (v := t) dX10_add_45 rfl ?_
    refine E_getI fg_RX10_9 dX10_add_46 (T_s0 ht) rfl ?_
    refine E_iload (v := a3) dX10_add_49 rfl ?_
    obtain ⟨hi8, hf⟩ := gd_some hf
    obtain ⟨w9, ew9, hf⟩ := lw_some hf
    try dsimp only at hf
    refine E_iast (n := 3) dX10_add_51 (T_s4 ht) (by decide) (inb_in hi8) ?_
    rw [← ew9]
    refine E_aload_n (v := t) dX10_add_52 rfl ?_
    refine E_getR fg_RX10_31 dX10_add_53 (T_s0 ht) rfl (T_r0_6 ht) (Nat.succ_ne_zero _) ?_
    refine E_aload_n (v := t) dX10_add_56 rfl ?_
    refine E_getI fg_RX10_9 dX10_add_57 (T_s0 ht) rfl ?_
    refine E_iload (v := a4) dX10_add_60 rfl ?_
    obtain ⟨hi10, hf⟩ := gd_some hf
    obtain ⟨w11, ew11, hf⟩ := lw_some hf
    try dsimp only at hf
    refine E_iast (n := 3) dX10_add_62 (T_s5 ht) (by decide) (inb_in hi10) ?_
    rw [← ew11]
    refine E_aload_n (v := t) dX10_add_63 rfl ?_
    refine E_getR fg_RX10_34 dX10_add_64 (T_s0 ht) rfl (T_r0_7 ht) (Nat.succ_ne_zero _) ?_
    refine E_aload_n (v := t) dX10_add_67 rfl ?_
    refine E_getI fg_RX10_9 dX10_add_68 (T_s0 ht) rfl ?_
    refine E_iload (v := a5) dX10_add_71 rfl ?_
    obtain ⟨hi12, hf⟩ := gd_some hf
    obtain ⟨w13, ew13, hf⟩ := lw_some hf
    try dsimp only at hf
    refine E_iast (n := 3) dX10_add_73 (T_s6 ht) (by decide) (inb_in hi12) ?_
    rw [← ew13]
    refine E_aload_n (v := t) dX10_add_74 rfl ?_
    refine E_dup_r dX10_add_75 ?_
    refine E_getI fg_RX10_9 dX10_add_76 (T_s0 ht) rfl ?_
    refine E_iconst 1 dX10_add_79 ic_1 ?_
    refine E_iadd dX10_add_80 ?_
    obtain ⟨w14, ew14, hf⟩ := lw_some hf
    try dsimp only at hf
    refine E_putI fp_RX10_9 dX10_add_81 (T_s0 ht) rfl rfl rfl ?_
    rw [← ew14]
    refine E_aload_n (v := t) dX10_add_84 rfl ?_
    refine E_getI fg_RX10_9 dX10_add_85 (T_s0 ht) rfl ?_
    refine E_iconst 1 dX10_add_88 ic_1 ?_
    refine E_isub dX10_add_89 ?_
    obtain ⟨rfl, rfl⟩ := ret2 hf
    exact E.done (by rw [eQ]; exact ⟨rfl, Or.inl ⟨_, _, rfl, rfl, dX10_add_90, rfl, rfl⟩⟩)
  · rw [if_neg hc1] at hf
    refine E_bipush (-2) dX10_add_8 bp_m2 ?_
    obtain ⟨rfl, rfl⟩ := ret2 hf
    exact E.done (by rw [eQ]; exact ⟨rfl, Or.inl ⟨_, _, rfl, rfl, dX10_add_10, rfl, rfl⟩⟩)
set_option maxRecDepth 10000 in
set_option maxHeartbeats 2000000 in
theorem MX11_type {N : Nat} {a0 : Int32} {a1 : Int32} {a2 : Int32} {a3 : Int32} {a4 : Int32} {a5 : Int32} {w : AW} {rZ : Int32} {wZ : AW} (hf : fX11_type N a0 a1 a2 a3 a4 a5 w = some (rZ, wZ)) : CallOK PC yX11_type cX11_type 7 (some .int) 3 [.ref 0, .int a0, .int a1, .int a2, .int a3, .int a4, .int a5] w (some (.int rZ)) wZ := by
  refine CallOK.of (ls := [some (.ref 0), some (.int a0), some (.int a1), some (.int a2), some (.int a3), some (.int a4), some (.int a5)]) (by decide) (by simp) rfl rfl ?_
  obtain ⟨Q, eQ⟩ : ∃ Q, Q = Qret cX11_type (some .int) (some (.int rZ)) wZ := ⟨_, rfl⟩
  rw [← eQ]
  unfold fX11_type at hf
  refine E_iload_n (v := a0) dX11_type_0 rfl ?_
  refine E_iload_n (v := a1) dX11_type_1 rfl ?_
  refine E_iload_n (v := a2) dX11_type_2 rfl ?_
  refine E_iconst 0 dX11_type_3 ic_0 ?_
  refine E_iload (v := a4) dX11_type_4 rfl ?_
  obtain ⟨r2, hc1, hf⟩ := bd_some hf
  try dsimp only at hf
  refine E_callSi (rest := []) cs_RX11_132 dX11_type_6 (MX11_isJob hc1) rfl rfl rfl (fun _ => Nat.le_of_ble_eq_true rfl) ?_
  refine E_if_ne 14 dX11_type_9 (by decide) (fun hc3 => ?_) (fun hc3 => ?_)
  · rw [if_pos hc3] at hf
    refine E_iconst (-1) dX11_type_12 ic_m1 ?_
    obtain ⟨rfl, rfl⟩ := ret2 hf
    exact E.done (by rw [eQ]; exact ⟨rfl, Or.inl ⟨_, _, rfl, rfl, dX11_type_13, rfl, rfl⟩⟩)
  · rw [if_neg hc3] at hf
    refine E_iload (v := a3) dX11_type_14 rfl ?_
    refine E_iconst 0 dX11_type_16 ic_0 ?_
    refine E_bipush 20 dX11_type_17 bp_20 ?_
    obtain ⟨r5, hc4, hf⟩ := bd_some hf
    try dsimp only at hf
    refine E_callSi (rest := []) cs_RX11_100 dX11_type_19 (MX11_within hc4) rfl rfl rfl (fun _ => Nat.le_of_ble_eq_true rfl) ?_
    refine E_if_eq 35 dX11_type_22 (by decide) (fun hc6 => ?_) (fun hc6 => ?_)
    · rw [if_pos hc6] at hf
      refine E_iconst (-1) dX11_type_35 ic_m1 ?_
      obtain ⟨rfl, rfl⟩ := ret2 hf
      exact E.done (by rw [eQ]; exact ⟨rfl, Or.inl ⟨_, _, rfl, rfl, dX11_type_36, rfl, rfl⟩⟩)
    · rw [if_neg hc6] at hf
      refine E_iload (v := a5) dX11_type_25 rfl ?_
      refine E_iconst 1 dX11_type_27 ic_1 ?_
      refine E_iconst 4 dX11_type_28 ic_4 ?_
      obtain ⟨r8, hc7, hf⟩ := bd_some hf
      try dsimp only at hf
      refine E_callSi (rest := []) cs_RX11_100 dX11_type_29 (MX11_within hc7) rfl rfl rfl (fun _ => Nat.le_of_ble_eq_true rfl) ?_
      refine E_if_ne 37 dX11_type_32 (by decide) (fun hc9 => ?_) (fun hc9 => ?_)
      · rw [if_pos hc9] at hf
        refine E_iconst (-1) dX11_type_35 ic_m1 ?_
        obtain ⟨rfl, rfl⟩ := ret2 hf
        exact E.done (by rw [eQ]; exact ⟨rfl, Or.inl ⟨_, _, rfl, rfl, dX11_type_36, rfl, rfl⟩⟩)
      · rw [if_neg hc9] at hf
        refine E_aload_n (v := 0) dX11_type_37 rfl ?_
        refine E_getR fg_RX11_22 dX11_type_38 sC_0 rfl rC_0_2 (Nat.succ_ne_zero _) ?_
        obtain ⟨r11, hc10, hf⟩ := bd_some hf
        try dsimp only at hf
        refine E_callVi (rest := []) (ci := 10) cv_RX11_252 dX11_type_41 (MX10_oddsOfAll T_is23 hc10) rfl sC_23 rfl (by decide) rfl rfl (fun _ => Nat.le_of_ble_eq_true rfl) ?_
        refine E_iload (v := a5) dX11_type_44 rfl ?_
        refine E_iadd dX11_type_46 ?_
        refine E_iconst 4 dX11_type_47 ic_4 ?_
        refine E_icmp_le 54 dX11_type_48 (by decide) (fun hc12 => ?_) (fun hc12 => ?_)
        · rw [if_pos hc12] at hf
          refine E_aload_n (v := 0) dX11_type_54 rfl ?_
          refine E_getR fg_RX11_22 dX11_type_55 sC_0 rfl rC_0_2 (Nat.succ_ne_zero _) ?_
          refine E_iload_n (v := a0) dX11_type_58 rfl ?_
          refine E_iload_n (v := a1) dX11_type_59 rfl ?_
          refine E_iload_n (v := a2) dX11_type_60 rfl ?_
          refine E_iload (v := a3) dX11_type_61 rfl ?_
          refine E_iload (v := a4) dX11_type_63 rfl ?_
          refine E_iload (v := a5) dX11_type_65 rfl ?_
          obtain ⟨r14, w15, hc13, hf⟩ := bd2_some hf
          try dsimp only at hf
          refine E_callVi (rest := []) (ci := 10) cv_RX11_255 dX11_type_67 (MX10_add T_is23 hc13) rfl sC_23 rfl (by decide) rfl rfl (fun _ => Nat.le_of_ble_eq_true rfl) ?_
          obtain ⟨rfl, rfl⟩ := ret2 hf
          exact E.done (by rw [eQ]; exact ⟨rfl, Or.inl ⟨_, _, rfl, rfl, dX11_type_70, rfl, rfl⟩⟩)
        · rw [if_neg hc12] at hf
          refine E_bipush (-4) dX11_type_51 bp_m4 ?_
          obtain ⟨rfl, rfl⟩ := ret2 hf
          exact E.done (by rw [eQ]; exact ⟨rfl, Or.inl ⟨_, _, rfl, rfl, dX11_type_53, rfl, rfl⟩⟩)
set_option maxRecDepth 10000 in
set_option maxHeartbeats 2000000 in
theorem MX11_typeOf {a0 : Int32} {a1 : Int32} {w : AW} {rZ : Int32} (hf : fX11_typeOf a0 a1 w = some rZ) : CallOK PC yX11_typeOf cX11_typeOf 3 (some .int) 2 [.ref 0, .int a0, .int a1] w (some (.int rZ)) w := by
  refine CallOK.of (ls := [some (.ref 0), some (.int a0), some (.int a1)]) (by decide) (by simp) rfl rfl ?_
  obtain ⟨Q, eQ⟩ : ∃ Q, Q = Qret cX11_typeOf (some .int) (some (.int rZ)) w := ⟨_, rfl⟩
  rw [← eQ]
  unfold fX11_typeOf at hf
  refine E_iload_n (v := a0) dX11_typeOf_0 rfl ?_
  refine E_iconst 0 dX11_typeOf_1 ic_0 ?_
  refine E_aload_n (v := 0) dX11_typeOf_2 rfl ?_
  refine E_getR fg_RX11_22 dX11_typeOf_3 sC_0 rfl rC_0_2 (Nat.succ_ne_zero _) ?_
  refine E_getI fg_RX11_258 dX11_typeOf_6 sC_23 rfl ?_
  refine E_iconst 1 dX11_typeOf_9 ic_1 ?_
  refine E_isub dX11_typeOf_10 ?_
  obtain ⟨r2, hc1, hf⟩ := bd_some hf
  try dsimp only at hf
  refine E_callSi (rest := []) cs_RX11_100 dX11_typeOf_11 (MX11_within hc1) rfl rfl rfl (fun _ => Nat.le_of_ble_eq_true rfl) ?_
  refine E_if_ne 19 dX11_typeOf_14 (by decide) (fun hc3 => ?_) (fun hc3 => ?_)
  · rw [if_pos hc3] at hf
    refine E_iconst (-1) dX11_typeOf_17 ic_m1 ?_
    obtain rfl := Option.some.inj hf
    exact E.done (by rw [eQ]; exact ⟨rfl, Or.inl ⟨_, _, rfl, rfl, dX11_typeOf_18, rfl, rfl⟩⟩)
  · rw [if_neg hc3] at hf
    refine E_iload_n (v := a1) dX11_typeOf_19 rfl ?_
    by_cases hc4 : a1 = 0
    · rw [if_pos hc4] at hf
      refine E_tableIn 60 dX11_typeOf_20 (by rw [hc4]; decide) (by rw [hc4]; decide) (by rw [hc4]; rfl) (by decide) ?_
      refine E_aload_n (v := 0) dX11_typeOf_60 rfl ?_
      refine E_getR fg_RX11_22 dX11_typeOf_61 sC_0 rfl rC_0_2 (Nat.succ_ne_zero _) ?_
      refine E_getR fg_RX11_259 dX11_typeOf_64 sC_23 rfl rC_23_2 (Nat.succ_ne_zero _) ?_
      refine E_iload_n (v := a0) dX11_typeOf_67 rfl ?_
      obtain ⟨hi5, hf⟩ := gd_some hf
      refine E_iald (n := 3) dX11_typeOf_68 sC_24 (by decide) (inb_in hi5) ?_
      obtain rfl := Option.some.inj hf
      exact E.done (by rw [eQ]; exact ⟨rfl, Or.inl ⟨_, _, rfl, rfl, dX11_typeOf_69, rfl, rfl⟩⟩)
    · rw [if_neg hc4] at hf
      by_cases hc6 : a1 = 1
      · rw [if_pos hc6] at hf
        refine E_tableIn 70 dX11_typeOf_20 (by rw [hc6]; decide) (by rw [hc6]; decide) (by rw [hc6]; rfl) (by decide) ?_
        refine E_aload_n (v := 0) dX11_typeOf_70 rfl ?_
        refine E_getR fg_RX11_22 dX11_typeOf_71 sC_0 rfl rC_0_2 (Nat.succ_ne_zero _) ?_
        refine E_getR fg_RX11_260 dX11_typeOf_74 sC_23 rfl rC_23_3 (Nat.succ_ne_zero _) ?_
        refine E_iload_n (v := a0) dX11_typeOf_77 rfl ?_
        obtain ⟨hi7, hf⟩ := gd_some hf
        refine E_iald (n := 3) dX11_typeOf_78 sC_25 (by decide) (inb_in hi7) ?_
        obtain rfl := Option.some.inj hf
        exact E.done (by rw [eQ]; exact ⟨rfl, Or.inl ⟨_, _, rfl, rfl, dX11_typeOf_79, rfl, rfl⟩⟩)
      · rw [if_neg hc6] at hf
        by_cases hc8 : a1 = 2
        · rw [if_pos hc8] at hf
          refine E_tableIn 80 dX11_typeOf_20 (by rw [hc8]; decide) (by rw [hc8]; decide) (by rw [hc8]; rfl) (by decide) ?_
          refine E_aload_n (v := 0) dX11_typeOf_80 rfl ?_
          refine E_getR fg_RX11_22 dX11_typeOf_81 sC_0 rfl rC_0_2 (Nat.succ_ne_zero _) ?_
          refine E_getR fg_RX11_263 dX11_typeOf_84 sC_23 rfl rC_23_4 (Nat.succ_ne_zero _) ?_
          refine E_iload_n (v := a0) dX11_typeOf_87 rfl ?_
          obtain ⟨hi9, hf⟩ := gd_some hf
          refine E_iald (n := 3) dX11_typeOf_88 sC_26 (by decide) (inb_in hi9) ?_
          obtain rfl := Option.some.inj hf
          exact E.done (by rw [eQ]; exact ⟨rfl, Or.inl ⟨_, _, rfl, rfl, dX11_typeOf_89, rfl, rfl⟩⟩)
        · rw [if_neg hc8] at hf
          by_cases hc10 : a1 = 3
          · rw [if_pos hc10] at hf
            refine E_tableIn 90 dX11_typeOf_20 (by rw [hc10]; decide) (by rw [hc10]; decide) (by rw [hc10]; rfl) (by decide) ?_
            refine E_aload_n (v := 0) dX11_typeOf_90 rfl ?_
            refine E_getR fg_RX11_22 dX11_typeOf_91 sC_0 rfl rC_0_2 (Nat.succ_ne_zero _) ?_
            refine E_getR fg_RX11_264 dX11_typeOf_94 sC_23 rfl rC_23_5 (Nat.succ_ne_zero _) ?_
            refine E_iload_n (v := a0) dX11_typeOf_97 rfl ?_
            obtain ⟨hi11, hf⟩ := gd_some hf
            refine E_iald (n := 3) dX11_typeOf_98 sC_27 (by decide) (inb_in hi11) ?_
            obtain rfl := Option.some.inj hf
            exact E.done (by rw [eQ]; exact ⟨rfl, Or.inl ⟨_, _, rfl, rfl, dX11_typeOf_99, rfl, rfl⟩⟩)
          · rw [if_neg hc10] at hf
            by_cases hc12 : a1 = 4
            · rw [if_pos hc12] at hf
              refine E_tableIn 100 dX11_typeOf_20 (by rw [hc12]; decide) (by rw [hc12]; decide) (by rw [hc12]; rfl) (by decide) ?_
              refine E_aload_n (v := 0) dX11_typeOf_100 rfl ?_
              refine E_getR fg_RX11_22 dX11_typeOf_101 sC_0 rfl rC_0_2 (Nat.succ_ne_zero _) ?_
              refine E_getR fg_RX11_267 dX11_typeOf_104 sC_23 rfl rC_23_6 (Nat.succ_ne_zero _) ?_
              refine E_iload_n (v := a0) dX11_typeOf_107 rfl ?_
              obtain ⟨hi13, hf⟩ := gd_some hf
              refine E_iald (n := 3) dX11_typeOf_108 sC_28 (by decide) (inb_in hi13) ?_
              obtain rfl := Option.some.inj hf
              exact E.done (by rw [eQ]; exact ⟨rfl, Or.inl ⟨_, _, rfl, rfl, dX11_typeOf_109, rfl, rfl⟩⟩)
            · rw [if_neg hc12] at hf
              by_cases hc14 : a1 = 5
              · rw [if_pos hc14] at hf
                refine E_tableIn 110 dX11_typeOf_20 (by rw [hc14]; decide) (by rw [hc14]; decide) (by rw [hc14]; rfl) (by decide) ?_
                refine E_aload_n (v := 0) dX11_typeOf_110 rfl ?_
                refine E_getR fg_RX11_22 dX11_typeOf_111 sC_0 rfl rC_0_2 (Nat.succ_ne_zero _) ?_
                refine E_getR fg_RX11_268 dX11_typeOf_114 sC_23 rfl rC_23_7 (Nat.succ_ne_zero _) ?_
                refine E_iload_n (v := a0) dX11_typeOf_117 rfl ?_
                obtain ⟨hi15, hf⟩ := gd_some hf
                refine E_iald (n := 3) dX11_typeOf_118 sC_29 (by decide) (inb_in hi15) ?_
                obtain rfl := Option.some.inj hf
                exact E.done (by rw [eQ]; exact ⟨rfl, Or.inl ⟨_, _, rfl, rfl, dX11_typeOf_119, rfl, rfl⟩⟩)
              · rw [if_neg hc14] at hf
                refine E_tableOut 120 dX11_typeOf_20 (tb_0_5 hc4 hc6 hc8 hc10 hc12 hc14) (by decide) ?_
                refine E_iconst (-1) dX11_typeOf_120 ic_m1 ?_
                obtain rfl := Option.some.inj hf
                exact E.done (by rw [eQ]; exact ⟨rfl, Or.inl ⟨_, _, rfl, rfl, dX11_typeOf_121, rfl, rfl⟩⟩)
set_option maxRecDepth 10000 in
set_option maxHeartbeats 2000000 in
theorem MX11_worth {N : Nat} {w : AW} {rZ : Int32} {wZ : AW} (hf : fX11_worth N w = some (rZ, wZ)) : CallOK PC yX11_worth cX11_worth 3 (some .int) 5 [.ref 0] w (some (.int rZ)) wZ := by
  refine CallOK.of (ls := [some (.ref 0), none, none]) (by decide) (by simp) rfl rfl ?_
  obtain ⟨Q, eQ⟩ : ∃ Q, Q = Qret cX11_worth (some .int) (some (.int rZ)) wZ := ⟨_, rfl⟩
  rw [← eQ]
  unfold fX11_worth at hf
  refine E_aload_n (v := 0) dX11_worth_0 rfl ?_
  obtain ⟨w2, hc1, hf⟩ := bd_some hf
  try dsimp only at hf
  refine E_callVv (rest := []) (ci := 11) cv_RX11_194 dX11_worth_1 (MX11_followPlan hc1) rfl sC_0 rfl (by decide) rfl rfl (fun _ => Nat.le_of_ble_eq_true rfl) ?_
  refine E_iconst 0 dX11_worth_4 ic_0 ?_
  refine E_istore_n (ls' := [some (.ref 0), some (.int 0), none]) dX11_worth_5 rfl rfl rfl ?_
  refine E_iconst 0 dX11_worth_6 ic_0 ?_
  refine E_istore_n (ls' := [some (.ref 0), some (.int 0), some (.int 0)]) dX11_worth_7 rfl rfl rfl ?_
  obtain ⟨q, hw7, hf⟩ := bd_some hf
  try dsimp only at hf
  show (fun (s : Int32 × Int32) => E PC RX11 cX11_worth 3 5 8 [some (.ref 0), some (.int s.1), some (.int s.2)] [] w2 Q) (0, 0)
  refine wh_E (K := (fun (s : Int32 × Int32) => E PC RX11 cX11_worth 3 5 8 [some (.ref 0), some (.int s.1), some (.int s.2)] [] w2 Q)) (X := (fun (s : Int32) => E PC RX11 cX11_worth 3 5 58 [none, some (.int s), none] [] w2 Q)) ?_ hw7 ?_
  · intro s9 z9 hf k9
    obtain ⟨x1_8_1, x2_8_1⟩ := s9
    dsimp only [lbX11_worth_8_1] at hf
    show E PC RX11 cX11_worth 3 5 8 [some (.ref 0), some (.int x1_8_1), some (.int x2_8_1)] [] w2 Q
    refine E_iload_n (v := x2_8_1) dX11_worth_8 rfl ?_
    refine E_aload_n (v := 0) dX11_worth_9 rfl ?_
    refine E_getR fg_RX11_10 dX11_worth_10 sC_0 rfl rC_0_0 (Nat.succ_ne_zero _) ?_
    refine E_getR fg_RX11_130 dX11_worth_13 sC_1 rfl rC_1_0 (Nat.succ_ne_zero _) ?_
    refine E_getI fg_RX11_131 dX11_worth_16 sC_2 rfl ?_
    refine E_icmp_ge 58 dX11_worth_19 (by decide) (fun hc3 => ?_) (fun hc3 => ?_)
    · rw [if_pos hc3] at hf
      obtain rfl := Option.some.inj hf
      refine E.fewer (ls' := [none, some (.int x1_8_1), none]) ⟨Or.inl rfl, ⟨Or.inr rfl, ⟨Or.inl rfl, trivial⟩⟩⟩ ?_
      exact k9
    · rw [if_neg hc3] at hf
      refine E_iload_n (v := x1_8_1) dX11_worth_22 rfl ?_
      refine E_aload_n (v := 0) dX11_worth_23 rfl ?_
      refine E_getR fg_RX11_10 dX11_worth_24 sC_0 rfl rC_0_0 (Nat.succ_ne_zero _) ?_
      refine E_getR fg_RX11_130 dX11_worth_27 sC_1 rfl rC_1_0 (Nat.succ_ne_zero _) ?_
      refine E_iload_n (v := x2_8_1) dX11_worth_30 rfl ?_
      refine E_aload_n (v := 0) dX11_worth_31 rfl ?_
      refine E_getR fg_RX11_43 dX11_worth_32 sC_0 rfl rC_0_6 (Nat.succ_ne_zero _) ?_
      refine E_getR fg_RX11_197 dX11_worth_35 sC_46 rfl rC_46_1 (Nat.succ_ne_zero _) ?_
      refine E_iload_n (v := x2_8_1) dX11_worth_38 rfl ?_
      obtain ⟨hi4, hf⟩ := gd_some hf
      refine E_iald (n := 6) dX11_worth_39 sC_48 (by decide) (inb_in hi4) ?_
      refine E_aload_n (v := 0) dX11_worth_40 rfl ?_
      refine E_getR fg_RX11_43 dX11_worth_41 sC_0 rfl rC_0_6 (Nat.succ_ne_zero _) ?_
      refine E_getI fg_RX11_200 dX11_worth_44 sC_46 rfl ?_
      obtain ⟨r6, hc5, hf⟩ := bd_some hf
      try dsimp only at hf
      refine E_callVi (rest := [.int x1_8_1]) (ci := 4) cv_RX11_203 dX11_worth_47 (MX4_valueOf J_is2 hc5) rfl sC_2 rfl (by decide) rfl rfl (fun _ => Nat.le_of_ble_eq_true rfl) ?_
      refine E_iadd dX11_worth_50 ?_
      refine E_istore_n (ls' := [some (.ref 0), some (.int (x1_8_1 + r6)), some (.int x2_8_1)]) dX11_worth_51 rfl rfl rfl ?_
      refine E_iinc (ls' := [some (.ref 0), some (.int (x1_8_1 + r6)), some (.int (x2_8_1 + 1))]) 1 dX11_worth_52 rfl ic_1 rfl rfl rfl ?_
      refine E_goto 8 dX11_worth_55 (by decide) ?_
      obtain rfl := Option.some.inj hf
      exact k9
  · skip
    obtain ⟨y8, hq9⟩ : ∃ a, a = q := ⟨_, rfl⟩
    subst hq9
    try dsimp only at hf
    show E PC RX11 cX11_worth 3 5 58 [none, some (.int y8), none] [] w2 Q
    refine E_iload_n (v := y8) dX11_worth_58 rfl ?_
    obtain ⟨rfl, rfl⟩ := ret2 hf
    exact E.done (by rw [eQ]; exact ⟨rfl, Or.inl ⟨_, _, rfl, rfl, dX11_worth_59, rfl, rfl⟩⟩)
set_option maxRecDepth 10000 in
set_option maxHeartbeats 2000000 in
theorem MX12_in {a0 : Int32} {a1 : Int32} {a2 : Int32} {w : AW} {rZ : Int32} (hf : fX12_in a0 a1 a2 w = some rZ) : CallOK PM yX12_in cX12_in 3 (some .boolean) 1 [.int a0, .int a1, .int a2] w (some (.int rZ)) w := by
  refine CallOK.of (ls := [some (.int a0), some (.int a1), some (.int a2)]) (by decide) (by simp) rfl rfl ?_
  obtain ⟨Q, eQ⟩ : ∃ Q, Q = Qret cX12_in (some .boolean) (some (.int rZ)) w := ⟨_, rfl⟩
  rw [← eQ]
  unfold fX12_in at hf
  refine E_iload_n (v := a0) dX12_in_0 rfl ?_
  refine E_iload_n (v := a1) dX12_in_1 rfl ?_
  refine E_icmp_lt 14 dX12_in_2 (by decide) (fun hc1 => ?_) (fun hc1 => ?_)
  · rw [if_pos hc1] at hf
    refine E_iconst 0 dX12_in_14 ic_0 ?_
    obtain rfl := Option.some.inj hf
    exact E.done (by rw [eQ]; exact ⟨rfl, Or.inl ⟨_, _, rfl, rfl, dX12_in_15, rfl, rfl⟩⟩)
  · rw [if_neg hc1] at hf
    refine E_iload_n (v := a0) dX12_in_5 rfl ?_
    refine E_iload_n (v := a2) dX12_in_6 rfl ?_
    refine E_icmp_gt 14 dX12_in_7 (by decide) (fun hc2 => ?_) (fun hc2 => ?_)
    · rw [if_pos hc2] at hf
      refine E_iconst 0 dX12_in_14 ic_0 ?_
      obtain rfl := Option.some.inj hf
      exact E.done (by rw [eQ]; exact ⟨rfl, Or.inl ⟨_, _, rfl, rfl, dX12_in_15, rfl, rfl⟩⟩)
    · rw [if_neg hc2] at hf
      refine E_iconst 1 dX12_in_10 ic_1 ?_
      refine E_goto 15 dX12_in_11 (by decide) ?_
      obtain rfl := Option.some.inj hf
      exact E.done (by rw [eQ]; exact ⟨rfl, Or.inl ⟨_, _, rfl, rfl, dX12_in_15, rfl, rfl⟩⟩)
set_option maxRecDepth 10000 in
set_option maxHeartbeats 2000000 in
theorem MX12_isSide {a0 : Int32} {w : AW} {rZ : Int32} (hf : fX12_isSide a0 w = some rZ) : CallOK PM yX12_isSide cX12_isSide 1 (some .boolean) 2 [.int a0] w (some (.int rZ)) w := by
  refine CallOK.of (ls := [some (.int a0)]) (by decide) (by simp) rfl rfl ?_
  obtain ⟨Q, eQ⟩ : ∃ Q, Q = Qret cX12_isSide (some .boolean) (some (.int rZ)) w := ⟨_, rfl⟩
  rw [← eQ]
  unfold fX12_isSide at hf
  refine E_iload_n (v := a0) dX12_isSide_0 rfl ?_
  refine E_iconst 0 dX12_isSide_1 ic_0 ?_
  refine E_iconst 1 dX12_isSide_2 ic_1 ?_
  obtain ⟨r2, hc1, hf⟩ := bd_some hf
  try dsimp only at hf
  refine E_callSi (rest := []) cs_RX12_99 dX12_isSide_3 (MX12_in hc1) rfl rfl rfl (fun _ => Nat.le_of_ble_eq_true rfl) ?_
  obtain ⟨hb3, hf⟩ := gd_some hf
  obtain rfl := Option.some.inj hf
  exact E.done (by rw [eQ]; exact ⟨rfl, Or.inl ⟨_, _, rfl, rfl, dX12_isSide_6, rfl, (isb_n hb3)⟩⟩)
set_option maxRecDepth 10000 in
set_option maxHeartbeats 2000000 in
theorem MX12_its {a0 : Int32} {a1 : Int32} {w : AW} {rZ : Int32} (hf : fX12_its a0 a1 w = some rZ) : CallOK PM yX12_its cX12_its 3 (some .int) 1 [.ref 0, .int a0, .int a1] w (some (.int rZ)) w := by
  refine CallOK.of (ls := [some (.ref 0), some (.int a0), some (.int a1)]) (by decide) (by simp) rfl rfl ?_
  obtain ⟨Q, eQ⟩ : ∃ Q, Q = Qret cX12_its (some .int) (some (.int rZ)) w := ⟨_, rfl⟩
  rw [← eQ]
  unfold fX12_its at hf
  refine E_aload_n (v := 0) dX12_its_0 rfl ?_
  refine E_getR fg_RX12_7 dX12_its_1 sM_0 rfl rM_0_1 (Nat.succ_ne_zero _) ?_
  refine E_iconst 5 dX12_its_4 ic_5 ?_
  refine E_iload_n (v := a0) dX12_its_5 rfl ?_
  refine E_imul dX12_its_6 ?_
  refine E_iload_n (v := a1) dX12_its_7 rfl ?_
  refine E_iadd dX12_its_8 ?_
  obtain ⟨hi1, hf⟩ := gd_some hf
  refine E_iald (n := 50) dX12_its_9 sM_1 (by decide) (inb_in hi1) ?_
  obtain rfl := Option.some.inj hf
  exact E.done (by rw [eQ]; exact ⟨rfl, Or.inl ⟨_, _, rfl, rfl, dX12_its_10, rfl, rfl⟩⟩)
set_option maxRecDepth 10000 in
set_option maxHeartbeats 2000000 in
theorem MX12_firstOrder {N : Nat} {a0 : Int32} {a1 : Int32} {w : AW} {rZ : Int32} {wZ : AW} (hf : fX12_firstOrder N a0 a1 w = some (rZ, wZ)) : CallOK PM yX12_firstOrder cX12_firstOrder 5 (some .int) 1 [.ref 0, .int a0, .int a1] w (some (.int rZ)) wZ := by
  refine CallOK.of (ls := [some (.ref 0), some (.int a0), some (.int a1), none, none]) (by decide) (by simp) rfl rfl ?_
  obtain ⟨Q, eQ⟩ : ∃ Q, Q = Qret cX12_firstOrder (some .int) (some (.int rZ)) wZ := ⟨_, rfl⟩
  rw [← eQ]
  unfold fX12_firstOrder at hf
  refine E_iconst 0 dX12_firstOrder_0 ic_0 ?_
  refine E_istore_n (ls' := [some (.ref 0), some (.int a0), some (.int a1), some (.int 0), none]) dX12_firstOrder_1 rfl rfl rfl ?_
  refine E_iconst 0 dX12_firstOrder_2 ic_0 ?_
  refine E_istore (ls' := [some (.ref 0), some (.int a0), some (.int a1), some (.int 0), some (.int 0)]) dX12_firstOrder_3 rfl rfl rfl ?_
  obtain ⟨q, hw5, hf⟩ := bd_some hf
  try dsimp only at hf
  show (fun (s : Int32 × Int32 × AW) => E PM RX12 cX12_firstOrder 5 1 5 [some (.ref 0), some (.int a0), some (.int a1), some (.int s.1), some (.int s.2.1)] [] s.2.2 Q) (0, 0, w)
  refine wh_E (K := (fun (s : Int32 × Int32 × AW) => E PM RX12 cX12_firstOrder 5 1 5 [some (.ref 0), some (.int a0), some (.int a1), some (.int s.1), some (.int s.2.1)] [] s.2.2 Q)) (X := (fun (s : Int32 × AW) => E PM RX12 cX12_firstOrder 5 1 34 [none, none, none, some (.int s.1), none] [] s.2 Q)) ?_ hw5 ?_
  · intro s9 z9 hf k9
    obtain ⟨x3_5_1, x4_5_1, w_5_1⟩ := s9
    dsimp only [lbX12_firstOrder_5_1] at hf
    show E PM RX12 cX12_firstOrder 5 1 5 [some (.ref 0), some (.int a0), some (.int a1), some (.int x3_5_1), some (.int x4_5_1)] [] w_5_1 Q
    refine E_iload (v := x4_5_1) dX12_firstOrder_5 rfl ?_
    refine E_iload_n (v := a0) dX12_firstOrder_7 rfl ?_
    refine E_icmp_ge 34 dX12_firstOrder_8 (by decide) (fun hc1 => ?_) (fun hc1 => ?_)
    · rw [if_pos hc1] at hf
      obtain rfl := Option.some.inj hf
      refine E.fewer (ls' := [none, none, none, some (.int x3_5_1), none]) ⟨Or.inl rfl, ⟨Or.inl rfl, ⟨Or.inl rfl, ⟨Or.inr rfl, ⟨Or.inl rfl, trivial⟩⟩⟩⟩⟩ ?_
      exact k9
    · rw [if_neg hc1] at hf
      refine E_iload (v := x4_5_1) dX12_firstOrder_11 rfl ?_
      refine E_iload_n (v := a1) dX12_firstOrder_13 rfl ?_
      refine E_icmp_eq 28 dX12_firstOrder_14 (by decide) (fun hc2 => ?_) (fun hc2 => ?_)
      · rw [if_pos hc2] at hf
        refine E_iinc (ls' := [some (.ref 0), some (.int a0), some (.int a1), some (.int x3_5_1), some (.int (x4_5_1 + 1))]) 1 dX12_firstOrder_28 rfl ic_1 rfl rfl rfl ?_
        refine E_goto 5 dX12_firstOrder_31 (by decide) ?_
        obtain rfl := Option.some.inj hf
        exact k9
      · rw [if_neg hc2] at hf
        refine E_aload_n (v := 0) dX12_firstOrder_17 rfl ?_
        refine E_getR fg_RX12_47 dX12_firstOrder_18 sM_0 rfl rM_0_26 (Nat.succ_ne_zero _) ?_
        refine E_iload_n (v := x3_5_1) dX12_firstOrder_21 rfl ?_
        refine E_iload (v := x4_5_1) dX12_firstOrder_22 rfl ?_
        obtain ⟨hi3, hf⟩ := gd_some hf
        obtain ⟨w4, ew4, hf⟩ := lw_some hf
        try dsimp only at hf
        refine E_iast (n := 8) dX12_firstOrder_24 sM_12 (by decide) (inb_in hi3) ?_
        rw [← ew4]
        refine E_iinc (ls' := [some (.ref 0), some (.int a0), some (.int a1), some (.int (x3_5_1 + 1)), some (.int x4_5_1)]) 1 dX12_firstOrder_25 rfl ic_1 rfl rfl rfl ?_
        refine E_iinc (ls' := [some (.ref 0), some (.int a0), some (.int a1), some (.int (x3_5_1 + 1)), some (.int (x4_5_1 + 1))]) 1 dX12_firstOrder_28 rfl ic_1 rfl rfl rfl ?_
        refine E_goto 5 dX12_firstOrder_31 (by decide) ?_
        obtain rfl := Option.some.inj hf
        exact k9
  · skip
    obtain ⟨y6, w7⟩ := q
    try dsimp only at hf
    show E PM RX12 cX12_firstOrder 5 1 34 [none, none, none, some (.int y6), none] [] w7 Q
    refine E_iload_n (v := y6) dX12_firstOrder_34 rfl ?_
    obtain ⟨rfl, rfl⟩ := ret2 hf
    exact E.done (by rw [eQ]; exact ⟨rfl, Or.inl ⟨_, _, rfl, rfl, dX12_firstOrder_35, rfl, rfl⟩⟩)
set_option maxRecDepth 10000 in
set_option maxHeartbeats 2000000 in
theorem MX12_keepsOrder {N : Nat} {a0 : Int32} {w : AW} {wZ : AW} (hf : fX12_keepsOrder N a0 w = some wZ) : CallOK PM yX12_keepsOrder cX12_keepsOrder 3 none 1 [.ref 0, .int a0] w none wZ := by
  refine CallOK.of (ls := [some (.ref 0), some (.int a0), none]) (by decide) (by simp) rfl rfl ?_
  obtain ⟨Q, eQ⟩ : ∃ Q, Q = Qret cX12_keepsOrder none none wZ := ⟨_, rfl⟩
  rw [← eQ]
  unfold fX12_keepsOrder at hf
  refine E_iconst 0 dX12_keepsOrder_0 ic_0 ?_
  refine E_istore_n (ls' := [some (.ref 0), some (.int a0), some (.int 0)]) dX12_keepsOrder_1 rfl rfl rfl ?_
  obtain ⟨q, hw4, hf⟩ := bd_some hf
  try dsimp only at hf
  show (fun (s : Int32 × AW) => E PM RX12 cX12_keepsOrder 3 1 2 [some (.ref 0), some (.int a0), some (.int s.1)] [] s.2 Q) (0, w)
  refine wh_E (K := (fun (s : Int32 × AW) => E PM RX12 cX12_keepsOrder 3 1 2 [some (.ref 0), some (.int a0), some (.int s.1)] [] s.2 Q)) (X := (fun (s : AW) => E PM RX12 cX12_keepsOrder 3 1 25 [none, none, none] [] s Q)) ?_ hw4 ?_
  · intro s9 z9 hf k9
    obtain ⟨x2_2_1, w_2_1⟩ := s9
    dsimp only [lbX12_keepsOrder_2_1] at hf
    show E PM RX12 cX12_keepsOrder 3 1 2 [some (.ref 0), some (.int a0), some (.int x2_2_1)] [] w_2_1 Q
    refine E_iload_n (v := x2_2_1) dX12_keepsOrder_2 rfl ?_
    refine E_iload_n (v := a0) dX12_keepsOrder_3 rfl ?_
    refine E_icmp_ge 25 dX12_keepsOrder_4 (by decide) (fun hc1 => ?_) (fun hc1 => ?_)
    · rw [if_pos hc1] at hf
      obtain rfl := Option.some.inj hf
      refine E.fewer (ls' := [none, none, none]) ⟨Or.inl rfl, ⟨Or.inl rfl, ⟨Or.inl rfl, trivial⟩⟩⟩ ?_
      exact k9
    · rw [if_neg hc1] at hf
      refine E_aload_n (v := 0) dX12_keepsOrder_7 rfl ?_
      refine E_getR fg_RX12_56 dX12_keepsOrder_8 sM_0 rfl rM_0_31 (Nat.succ_ne_zero _) ?_
      refine E_iload_n (v := x2_2_1) dX12_keepsOrder_11 rfl ?_
      refine E_aload_n (v := 0) dX12_keepsOrder_12 rfl ?_
      refine E_getR fg_RX12_47 dX12_keepsOrder_13 sM_0 rfl rM_0_26 (Nat.succ_ne_zero _) ?_
      refine E_iload_n (v := x2_2_1) dX12_keepsOrder_16 rfl ?_
      obtain ⟨hi2, hf⟩ := gd_some hf
      refine E_iald (n := 8) dX12_keepsOrder_17 sM_12 (by decide) (inb_in hi2) ?_
      obtain ⟨w3, ew3, hf⟩ := lw_some hf
      try dsimp only at hf
      refine E_iast (n := 8) dX12_keepsOrder_18 sM_15 (by decide) (inb_in hi2) ?_
      rw [← ew3]
      refine E_iinc (ls' := [some (.ref 0), some (.int a0), some (.int (x2_2_1 + 1))]) 1 dX12_keepsOrder_19 rfl ic_1 rfl rfl rfl ?_
      refine E_goto 2 dX12_keepsOrder_22 (by decide) ?_
      obtain rfl := Option.some.inj hf
      exact k9
  · skip
    obtain ⟨w5, hq9⟩ : ∃ a, a = q := ⟨_, rfl⟩
    subst hq9
    try dsimp only at hf
    show E PM RX12 cX12_keepsOrder 3 1 25 [none, none, none] [] w5 Q
    obtain rfl := Option.some.inj hf
    exact E.done (by rw [eQ]; exact ⟨rfl, Or.inr ⟨rfl, rfl, dX12_keepsOrder_25, rfl⟩⟩)
set_option maxRecDepth 10000 in
set_option maxHeartbeats 2000000 in
theorem MX12_swaps {a0 : Int32} {a1 : Int32} {w : AW} {wZ : AW} (hf : fX12_swaps a0 a1 w = some wZ) : CallOK PM yX12_swaps cX12_swaps 4 none 1 [.ref 0, .int a0, .int a1] w none wZ := by
  refine CallOK.of (ls := [some (.ref 0), some (.int a0), some (.int a1), none]) (by decide) (by simp) rfl rfl ?_
  obtain ⟨Q, eQ⟩ : ∃ Q, Q = Qret cX12_swaps none none wZ := ⟨_, rfl⟩
  rw [← eQ]
  unfold fX12_swaps at hf
  refine E_aload_n (v := 0) dX12_swaps_0 rfl ?_
  refine E_getR fg_RX12_47 dX12_swaps_1 sM_0 rfl rM_0_26 (Nat.succ_ne_zero _) ?_
  refine E_iload_n (v := a0) dX12_swaps_4 rfl ?_
  obtain ⟨hi1, hf⟩ := gd_some hf
  refine E_iald (n := 8) dX12_swaps_5 sM_12 (by decide) (inb_in hi1) ?_
  refine E_istore_n (ls' := [some (.ref 0), some (.int a0), some (.int a1), some (.int (w.1 12 a0.toNatClampNeg))]) dX12_swaps_6 rfl rfl rfl ?_
  refine E_aload_n (v := 0) dX12_swaps_7 rfl ?_
  refine E_getR fg_RX12_47 dX12_swaps_8 sM_0 rfl rM_0_26 (Nat.succ_ne_zero _) ?_
  refine E_iload_n (v := a0) dX12_swaps_11 rfl ?_
  refine E_aload_n (v := 0) dX12_swaps_12 rfl ?_
  refine E_getR fg_RX12_47 dX12_swaps_13 sM_0 rfl rM_0_26 (Nat.succ_ne_zero _) ?_
  refine E_iload_n (v := a1) dX12_swaps_16 rfl ?_
  obtain ⟨hi2, hf⟩ := gd_some hf
  refine E_iald (n := 8) dX12_swaps_17 sM_12 (by decide) (inb_in hi2) ?_
  obtain ⟨w3, ew3, hf⟩ := lw_some hf
  try dsimp only at hf
  refine E_iast (n := 8) dX12_swaps_18 sM_12 (by decide) (inb_in hi1) ?_
  rw [← ew3]
  refine E_aload_n (v := 0) dX12_swaps_19 rfl ?_
  refine E_getR fg_RX12_47 dX12_swaps_20 sM_0 rfl rM_0_26 (Nat.succ_ne_zero _) ?_
  refine E_iload_n (v := a1) dX12_swaps_23 rfl ?_
  refine E_iload_n (v := (w.1 12 a0.toNatClampNeg)) dX12_swaps_24 rfl ?_
  obtain ⟨w4, ew4, hf⟩ := lw_some hf
  try dsimp only at hf
  refine E_iast (n := 8) dX12_swaps_25 sM_12 (by decide) (inb_in hi2) ?_
  rw [← ew4]
  obtain rfl := Option.some.inj hf
  exact E.done (by rw [eQ]; exact ⟨rfl, Or.inr ⟨rfl, rfl, dX12_swaps_26, rfl⟩⟩)
set_option maxRecDepth 10000 in
set_option maxHeartbeats 2000000 in
theorem MX12_nextOrder {N : Nat} {a0 : Int32} {w : AW} {rZ : Int32} {wZ : AW} (hf : fX12_nextOrder N a0 w = some (rZ, wZ)) : CallOK PM yX12_nextOrder cX12_nextOrder 5 (some .boolean) 2 [.ref 0, .int a0] w (some (.int rZ)) wZ := by
  refine CallOK.of (ls := [some (.ref 0), some (.int a0), none, none, none]) (by decide) (by simp) rfl rfl ?_
  obtain ⟨Q, eQ⟩ : ∃ Q, Q = Qret cX12_nextOrder (some .boolean) (some (.int rZ)) wZ := ⟨_, rfl⟩
  rw [← eQ]
  unfold fX12_nextOrder at hf
  refine E_iload_n (v := a0) dX12_nextOrder_0 rfl ?_
  refine E_iconst 2 dX12_nextOrder_1 ic_2 ?_
  refine E_isub dX12_nextOrder_2 ?_
  refine E_istore_n (ls' := [some (.ref 0), some (.int a0), some (.int (a0 - 2)), none, none]) dX12_nextOrder_3 rfl rfl rfl ?_
  obtain ⟨q, hw5, hf⟩ := bd_some hf
  try dsimp only at hf
  show (fun (s : Int32) => E PM RX12 cX12_nextOrder 5 2 4 [some (.ref 0), some (.int a0), some (.int s), none, none] [] w Q) (a0 - 2)
  refine wh_E (K := (fun (s : Int32) => E PM RX12 cX12_nextOrder 5 2 4 [some (.ref 0), some (.int a0), some (.int s), none, none] [] w Q)) (X := (fun (s : Int32) => E PM RX12 cX12_nextOrder 5 2 31 [some (.ref 0), some (.int a0), some (.int s), none, none] [] w Q)) ?_ hw5 ?_
  · intro s9 z9 hf k9
    obtain ⟨x2_4_1, hs9⟩ : ∃ a, a = s9 := ⟨_, rfl⟩
    subst hs9
    dsimp only [lbX12_nextOrder_4_1] at hf
    show E PM RX12 cX12_nextOrder 5 2 4 [some (.ref 0), some (.int a0), some (.int x2_4_1), none, none] [] w Q
    refine E_iload_n (v := x2_4_1) dX12_nextOrder_4 rfl ?_
    refine E_if_lt 31 dX12_nextOrder_5 (by decide) (fun hc1 => ?_) (fun hc1 => ?_)
    · rw [if_pos hc1] at hf
      obtain rfl := Option.some.inj hf
      exact k9
    · rw [if_neg hc1] at hf
      refine E_aload_n (v := 0) dX12_nextOrder_8 rfl ?_
      refine E_getR fg_RX12_47 dX12_nextOrder_9 sM_0 rfl rM_0_26 (Nat.succ_ne_zero _) ?_
      refine E_iload_n (v := x2_4_1) dX12_nextOrder_12 rfl ?_
      obtain ⟨hi2, hf⟩ := gd_some hf
      refine E_iald (n := 8) dX12_nextOrder_13 sM_12 (by decide) (inb_in hi2) ?_
      refine E_aload_n (v := 0) dX12_nextOrder_14 rfl ?_
      refine E_getR fg_RX12_47 dX12_nextOrder_15 sM_0 rfl rM_0_26 (Nat.succ_ne_zero _) ?_
      refine E_iload_n (v := x2_4_1) dX12_nextOrder_18 rfl ?_
      refine E_iconst 1 dX12_nextOrder_19 ic_1 ?_
      refine E_iadd dX12_nextOrder_20 ?_
      obtain ⟨hi3, hf⟩ := gd_some hf
      refine E_iald (n := 8) dX12_nextOrder_21 sM_12 (by decide) (inb_in hi3) ?_
      refine E_icmp_le 31 dX12_nextOrder_22 (by decide) (fun hc4 => ?_) (fun hc4 => ?_)
      · rw [if_pos hc4] at hf
        obtain rfl := Option.some.inj hf
        exact k9
      · rw [if_neg hc4] at hf
        refine E_iinc (ls' := [some (.ref 0), some (.int a0), some (.int (x2_4_1 + (-1))), none, none]) (-1) dX12_nextOrder_25 rfl ic_m1 rfl rfl rfl ?_
        refine E_goto 4 dX12_nextOrder_28 (by decide) ?_
        obtain rfl := Option.some.inj hf
        exact k9
  · skip
    obtain ⟨y6, hq9⟩ : ∃ a, a = q := ⟨_, rfl⟩
    subst hq9
    try dsimp only at hf
    show E PM RX12 cX12_nextOrder 5 2 31 [some (.ref 0), some (.int a0), some (.int y6), none, none] [] w Q
    refine E_iload_n (v := y6) dX12_nextOrder_31 rfl ?_
    refine E_if_ge 37 dX12_nextOrder_32 (by decide) (fun hc7 => ?_) (fun hc7 => ?_)
    · rw [if_pos hc7] at hf
      refine E_iload_n (v := a0) dX12_nextOrder_37 rfl ?_
      refine E_iconst 1 dX12_nextOrder_38 ic_1 ?_
      refine E_isub dX12_nextOrder_39 ?_
      refine E_istore_n (ls' := [some (.ref 0), some (.int a0), some (.int y6), some (.int (a0 - 1)), none]) dX12_nextOrder_40 rfl rfl rfl ?_
      obtain ⟨q, hw11, hf⟩ := bd_some hf
      try dsimp only at hf
      show (fun (s : Int32) => E PM RX12 cX12_nextOrder 5 2 41 [some (.ref 0), some (.int a0), some (.int y6), some (.int s), none] [] w Q) (a0 - 1)
      refine wh_E (K := (fun (s : Int32) => E PM RX12 cX12_nextOrder 5 2 41 [some (.ref 0), some (.int a0), some (.int y6), some (.int s), none] [] w Q)) (X := (fun (s : Int32) => E PM RX12 cX12_nextOrder 5 2 62 [some (.ref 0), some (.int a0), some (.int y6), some (.int s), none] [] w Q)) ?_ hw11 ?_
      · intro s9 z9 hf k9
        obtain ⟨x3_41_2, hs9⟩ : ∃ a, a = s9 := ⟨_, rfl⟩
        subst hs9
        dsimp only [lbX12_nextOrder_41_2] at hf
        show E PM RX12 cX12_nextOrder 5 2 41 [some (.ref 0), some (.int a0), some (.int y6), some (.int x3_41_2), none] [] w Q
        refine E_aload_n (v := 0) dX12_nextOrder_41 rfl ?_
        refine E_getR fg_RX12_47 dX12_nextOrder_42 sM_0 rfl rM_0_26 (Nat.succ_ne_zero _) ?_
        refine E_iload_n (v := x3_41_2) dX12_nextOrder_45 rfl ?_
        obtain ⟨hi8, hf⟩ := gd_some hf
        refine E_iald (n := 8) dX12_nextOrder_46 sM_12 (by decide) (inb_in hi8) ?_
        refine E_aload_n (v := 0) dX12_nextOrder_47 rfl ?_
        refine E_getR fg_RX12_47 dX12_nextOrder_48 sM_0 rfl rM_0_26 (Nat.succ_ne_zero _) ?_
        refine E_iload_n (v := y6) dX12_nextOrder_51 rfl ?_
        obtain ⟨hi9, hf⟩ := gd_some hf
        refine E_iald (n := 8) dX12_nextOrder_52 sM_12 (by decide) (inb_in hi9) ?_
        refine E_icmp_ge 62 dX12_nextOrder_53 (by decide) (fun hc10 => ?_) (fun hc10 => ?_)
        · rw [if_pos hc10] at hf
          obtain rfl := Option.some.inj hf
          exact k9
        · rw [if_neg hc10] at hf
          refine E_iinc (ls' := [some (.ref 0), some (.int a0), some (.int y6), some (.int (x3_41_2 + (-1))), none]) (-1) dX12_nextOrder_56 rfl ic_m1 rfl rfl rfl ?_
          refine E_goto 41 dX12_nextOrder_59 (by decide) ?_
          obtain rfl := Option.some.inj hf
          exact k9
      · skip
        obtain ⟨y12, hq9⟩ : ∃ a, a = q := ⟨_, rfl⟩
        subst hq9
        try dsimp only at hf
        show E PM RX12 cX12_nextOrder 5 2 62 [some (.ref 0), some (.int a0), some (.int y6), some (.int y12), none] [] w Q
        refine E_aload_n (v := 0) dX12_nextOrder_62 rfl ?_
        refine E_iload_n (v := y6) dX12_nextOrder_63 rfl ?_
        refine E_iload_n (v := y12) dX12_nextOrder_64 rfl ?_
        obtain ⟨w14, hc13, hf⟩ := bd_some hf
        try dsimp only at hf
        refine E_callVv (rest := []) (ci := 12) cv_RX12_277 dX12_nextOrder_65 (MX12_swaps hc13) rfl sM_0 rfl (by decide) rfl rfl (fun _ => Nat.le_of_ble_eq_true rfl) ?_
        refine E_iload_n (v := a0) dX12_nextOrder_68 rfl ?_
        refine E_iconst 1 dX12_nextOrder_69 ic_1 ?_
        refine E_isub dX12_nextOrder_70 ?_
        refine E_istore (ls' := [some (.ref 0), some (.int a0), some (.int y6), some (.int y12), some (.int (a0 - 1))]) dX12_nextOrder_71 rfl rfl rfl ?_
        obtain ⟨q, hw18, hf⟩ := bd_some hf
        try dsimp only at hf
        refine E.fewer (ls' := [some (.ref 0), none, some (.int y6), none, some (.int (a0 - 1))]) ⟨Or.inr rfl, ⟨Or.inl rfl, ⟨Or.inr rfl, ⟨Or.inl rfl, ⟨Or.inr rfl, trivial⟩⟩⟩⟩⟩ ?_
        show (fun (s : Int32 × Int32 × AW) => E PM RX12 cX12_nextOrder 5 2 73 [some (.ref 0), none, some (.int s.1), none, some (.int s.2.1)] [] s.2.2 Q) (y6, (a0 - 1), w14)
        refine wh_E (K := (fun (s : Int32 × Int32 × AW) => E PM RX12 cX12_nextOrder 5 2 73 [some (.ref 0), none, some (.int s.1), none, some (.int s.2.1)] [] s.2.2 Q)) (X := (fun (s : AW) => E PM RX12 cX12_nextOrder 5 2 97 [none, none, none, none, none] [] s Q)) ?_ hw18 ?_
        · intro s9 z9 hf k9
          obtain ⟨x2_73_3, x4_73_3, w_73_3⟩ := s9
          dsimp only [lbX12_nextOrder_73_3] at hf
          show E PM RX12 cX12_nextOrder 5 2 73 [some (.ref 0), none, some (.int x2_73_3), none, some (.int x4_73_3)] [] w_73_3 Q
          refine E_iload (v := x4_73_3) dX12_nextOrder_73 rfl ?_
          refine E_iload_n (v := x2_73_3) dX12_nextOrder_75 rfl ?_
          refine E_iconst 1 dX12_nextOrder_76 ic_1 ?_
          refine E_iadd dX12_nextOrder_77 ?_
          refine E_icmp_le 97 dX12_nextOrder_78 (by decide) (fun hc15 => ?_) (fun hc15 => ?_)
          · rw [if_pos hc15] at hf
            obtain rfl := Option.some.inj hf
            refine E.fewer (ls' := [none, none, none, none, none]) ⟨Or.inl rfl, ⟨Or.inl rfl, ⟨Or.inl rfl, ⟨Or.inl rfl, ⟨Or.inl rfl, trivial⟩⟩⟩⟩⟩ ?_
            exact k9
          · rw [if_neg hc15] at hf
            refine E_iinc (ls' := [some (.ref 0), none, some (.int (x2_73_3 + 1)), none, some (.int x4_73_3)]) 1 dX12_nextOrder_81 rfl ic_1 rfl rfl rfl ?_
            refine E_aload_n (v := 0) dX12_nextOrder_84 rfl ?_
            refine E_iload_n (v := (x2_73_3 + 1)) dX12_nextOrder_85 rfl ?_
            refine E_iload (v := x4_73_3) dX12_nextOrder_86 rfl ?_
            obtain ⟨w17, hc16, hf⟩ := bd_some hf
            try dsimp only at hf
            refine E_callVv (rest := []) (ci := 12) cv_RX12_277 dX12_nextOrder_88 (MX12_swaps hc16) rfl sM_0 rfl (by decide) rfl rfl (fun _ => Nat.le_of_ble_eq_true rfl) ?_
            refine E_iinc (ls' := [some (.ref 0), none, some (.int (x2_73_3 + 1)), none, some (.int (x4_73_3 + (-1)))]) (-1) dX12_nextOrder_91 rfl ic_m1 rfl rfl rfl ?_
            refine E_goto 73 dX12_nextOrder_94 (by decide) ?_
            obtain rfl := Option.some.inj hf
            exact k9
        · skip
          obtain ⟨w19, hq9⟩ : ∃ a, a = q := ⟨_, rfl⟩
          subst hq9
          try dsimp only at hf
          show E PM RX12 cX12_nextOrder 5 2 97 [none, none, none, none, none] [] w19 Q
          refine E_iconst 1 dX12_nextOrder_97 ic_1 ?_
          obtain ⟨rfl, rfl⟩ := ret2 hf
          exact E.done (by rw [eQ]; exact ⟨rfl, Or.inl ⟨_, _, rfl, rfl, dX12_nextOrder_98, rfl, rfl⟩⟩)
    · rw [if_neg hc7] at hf
      refine E_iconst 0 dX12_nextOrder_35 ic_0 ?_
      obtain ⟨rfl, rfl⟩ := ret2 hf
      exact E.done (by rw [eQ]; exact ⟨rfl, Or.inl ⟨_, _, rfl, rfl, dX12_nextOrder_36, rfl, rfl⟩⟩)
set_option maxRecDepth 10000 in
set_option maxHeartbeats 2000000 in
theorem MX12_lends {N : Nat} {a0 : Int32} {a1 : Int32} {w : AW} {wZ : AW} (hf : fX12_lends N a0 a1 w = some wZ) : CallOK PM yX12_lends cX12_lends 4 none 2 [.ref 0, .int a0, .int a1] w none wZ := by
  refine CallOK.of (ls := [some (.ref 0), some (.int a0), some (.int a1), none]) (by decide) (by simp) rfl rfl ?_
  obtain ⟨Q, eQ⟩ : ∃ Q, Q = Qret cX12_lends none none wZ := ⟨_, rfl⟩
  rw [← eQ]
  unfold fX12_lends at hf
  refine E_iconst 0 dX12_lends_0 ic_0 ?_
  refine E_istore_n (ls' := [some (.ref 0), some (.int a0), some (.int a1), some (.int 0)]) dX12_lends_1 rfl rfl rfl ?_
  obtain ⟨q, hw11, hf⟩ := bd_some hf
  try dsimp only at hf
  show (fun (s : Int32 × AW) => E PM RX12 cX12_lends 4 2 2 [some (.ref 0), some (.int a0), some (.int a1), some (.int s.1)] [] s.2 Q) (0, w)
  refine wh_E (K := (fun (s : Int32 × AW) => E PM RX12 cX12_lends 4 2 2 [some (.ref 0), some (.int a0), some (.int a1), some (.int s.1)] [] s.2 Q)) (X := (fun (s : AW) => E PM RX12 cX12_lends 4 2 45 [some (.ref 0), none, none, none] [] s Q)) ?_ hw11 ?_
  · intro s9 z9 hf k9
    obtain ⟨x3_2_1, w_2_1⟩ := s9
    dsimp only [lbX12_lends_2_1] at hf
    show E PM RX12 cX12_lends 4 2 2 [some (.ref 0), some (.int a0), some (.int a1), some (.int x3_2_1)] [] w_2_1 Q
    refine E_iload_n (v := x3_2_1) dX12_lends_2 rfl ?_
    refine E_iload_n (v := a0) dX12_lends_3 rfl ?_
    refine E_icmp_ge 45 dX12_lends_4 (by decide) (fun hc1 => ?_) (fun hc1 => ?_)
    · rw [if_pos hc1] at hf
      obtain rfl := Option.some.inj hf
      refine E.fewer (ls' := [some (.ref 0), none, none, none]) ⟨Or.inr rfl, ⟨Or.inl rfl, ⟨Or.inl rfl, ⟨Or.inl rfl, trivial⟩⟩⟩⟩ ?_
      exact k9
    · rw [if_neg hc1] at hf
      refine E_aload_n (v := 0) dX12_lends_7 rfl ?_
      refine E_getR fg_RX12_50 dX12_lends_8 sM_0 rfl rM_0_27 (Nat.succ_ne_zero _) ?_
      refine E_iload_n (v := x3_2_1) dX12_lends_11 rfl ?_
      refine E_iload_n (v := a1) dX12_lends_12 rfl ?_
      refine E_iload_n (v := x3_2_1) dX12_lends_13 rfl ?_
      refine E_ishr dX12_lends_14 ?_
      refine E_iconst 1 dX12_lends_15 ic_1 ?_
      refine E_iand dX12_lends_16 ?_
      refine E_iconst 1 dX12_lends_17 ic_1 ?_
      refine E_icmp_ne 32 dX12_lends_18 (by decide) (fun hc2 => ?_) (fun hc2 => ?_)
      · rw [if_pos hc2] at hf
        refine E_iconst 2 dX12_lends_21 ic_2 ?_
        refine E_aload_n (v := 0) dX12_lends_22 rfl ?_
        refine E_iload_n (v := x3_2_1) dX12_lends_23 rfl ?_
        refine E_iconst 1 dX12_lends_24 ic_1 ?_
        obtain ⟨r4, hc3, hf⟩ := bd_some hf
        try dsimp only at hf
        refine E_callVi (rest := [.int 2, .int x3_2_1, .ref 13]) (ci := 12) cv_RX12_242 dX12_lends_25 (MX12_its hc3) rfl sM_0 rfl (by decide) rfl rfl (fun _ => Nat.le_of_ble_eq_true rfl) ?_
        refine E_imul dX12_lends_28 ?_
        refine E_goto 38 dX12_lends_29 (by decide) ?_
        obtain ⟨hi5, hf⟩ := gd_some hf
        obtain ⟨w6, ew6, hf⟩ := lw_some hf
        try dsimp only at hf
        refine E_iast (n := 8) dX12_lends_38 sM_13 (by decide) (inb_in hi5) ?_
        rw [← ew6]
        refine E_iinc (ls' := [some (.ref 0), some (.int a0), some (.int a1), some (.int (x3_2_1 + 1))]) 1 dX12_lends_39 rfl ic_1 rfl rfl rfl ?_
        refine E_goto 2 dX12_lends_42 (by decide) ?_
        obtain rfl := Option.some.inj hf
        exact k9
      · rw [if_neg hc2] at hf
        refine E_aload_n (v := 0) dX12_lends_32 rfl ?_
        refine E_iload_n (v := x3_2_1) dX12_lends_33 rfl ?_
        refine E_iconst 1 dX12_lends_34 ic_1 ?_
        obtain ⟨r8, hc7, hf⟩ := bd_some hf
        try dsimp only at hf
        refine E_callVi (rest := [.int x3_2_1, .ref 13]) (ci := 12) cv_RX12_242 dX12_lends_35 (MX12_its hc7) rfl sM_0 rfl (by decide) rfl rfl (fun _ => Nat.le_of_ble_eq_true rfl) ?_
        obtain ⟨hi9, hf⟩ := gd_some hf
        obtain ⟨w10, ew10, hf⟩ := lw_some hf
        try dsimp only at hf
        refine E_iast (n := 8) dX12_lends_38 sM_13 (by decide) (inb_in hi9) ?_
        rw [← ew10]
        refine E_iinc (ls' := [some (.ref 0), some (.int a0), some (.int a1), some (.int (x3_2_1 + 1))]) 1 dX12_lends_39 rfl ic_1 rfl rfl rfl ?_
        refine E_goto 2 dX12_lends_42 (by decide) ?_
        obtain rfl := Option.some.inj hf
        exact k9
  · skip
    obtain ⟨w12, hq9⟩ : ∃ a, a = q := ⟨_, rfl⟩
    subst hq9
    try dsimp only at hf
    show E PM RX12 cX12_lends 4 2 45 [some (.ref 0), none, none, none] [] w12 Q
    refine E_aload_n (v := 0) dX12_lends_45 rfl ?_
    refine E_aload_n (v := 0) dX12_lends_46 rfl ?_
    refine E_getI fg_RX12_220 dX12_lends_47 sM_0 rfl ?_
    obtain ⟨w13, ew13, hf⟩ := lw_some hf
    try dsimp only at hf
    refine E_putI fp_RX12_251 dX12_lends_50 sM_0 rfl rfl rfl ?_
    rw [← ew13]
    refine E_aload_n (v := 0) dX12_lends_53 rfl ?_
    refine E_aload_n (v := 0) dX12_lends_54 rfl ?_
    refine E_getI fg_RX12_223 dX12_lends_55 sM_0 rfl ?_
    obtain ⟨w14, ew14, hf⟩ := lw_some hf
    try dsimp only at hf
    refine E_putI fp_RX12_254 dX12_lends_58 sM_0 rfl rfl rfl ?_
    rw [← ew14]
    obtain rfl := Option.some.inj hf
    exact E.done (by rw [eQ]; exact ⟨rfl, Or.inr ⟨rfl, rfl, dX12_lends_61, rfl⟩⟩)
set_option maxRecDepth 10000 in
set_option maxHeartbeats 2000000 in
theorem MX12_slotsOf {a0 : Int32} {w : AW} {rZ : Int32} (hf : fX12_slotsOf a0 w = some rZ) : CallOK PM yX12_slotsOf cX12_slotsOf 3 (some .int) 1 [.ref 0, .int a0] w (some (.int rZ)) w := by
  refine CallOK.of (ls := [some (.ref 0), some (.int a0), none]) (by decide) (by simp) rfl rfl ?_
  obtain ⟨Q, eQ⟩ : ∃ Q, Q = Qret cX12_slotsOf (some .int) (some (.int rZ)) w := ⟨_, rfl⟩
  rw [← eQ]
  unfold fX12_slotsOf at hf
  refine E_aload_n (v := 0) dX12_slotsOf_0 rfl ?_
  refine E_getR fg_RX12_13 dX12_slotsOf_1 sM_0 rfl rM_0_2 (Nat.succ_ne_zero _) ?_
  refine E_iconst 0 dX12_slotsOf_4 ic_0 ?_
  refine E_iald (n := 4) dX12_slotsOf_5 sM_2 (by decide) (inb_in (by decide)) ?_
  refine E_istore_n (ls' := [some (.ref 0), some (.int a0), some (.int (w.1 2 (0 : Int32).toNatClampNeg))]) dX12_slotsOf_6 rfl rfl rfl ?_
  refine E_iload_n (v := a0) dX12_slotsOf_7 rfl ?_
  refine E_bipush 60 dX12_slotsOf_8 bp_60 ?_
  refine E_icmp_le 15 dX12_slotsOf_10 (by decide) (fun hc1 => ?_) (fun hc1 => ?_)
  · rw [if_pos hc1] at hf
    refine E_iload_n (v := (w.1 2 (0 : Int32).toNatClampNeg)) dX12_slotsOf_15 rfl ?_
    refine E_aload_n (v := 0) dX12_slotsOf_16 rfl ?_
    refine E_getR fg_RX12_22 dX12_slotsOf_17 sM_0 rfl rM_0_9 (Nat.succ_ne_zero _) ?_
    refine E_iload_n (v := a0) dX12_slotsOf_20 rfl ?_
    obtain ⟨hi2, hf⟩ := gd_some hf
    refine E_iald (n := 61) dX12_slotsOf_21 sM_5 (by decide) (inb_in hi2) ?_
    refine E_icmp_le 36 dX12_slotsOf_22 (by decide) (fun hc3 => ?_) (fun hc3 => ?_)
    · rw [if_pos hc3] at hf
      refine E_iconst 0 dX12_slotsOf_36 ic_0 ?_
      refine E_aload_n (v := 0) dX12_slotsOf_37 rfl ?_
      refine E_getR fg_RX12_25 dX12_slotsOf_38 sM_0 rfl rM_0_10 (Nat.succ_ne_zero _) ?_
      refine E_iload_n (v := a0) dX12_slotsOf_41 rfl ?_
      refine E_iald (n := 61) dX12_slotsOf_42 sM_6 (by decide) (inb_in hi2) ?_
      refine E_iadd dX12_slotsOf_43 ?_
      obtain rfl := Option.some.inj hf
      exact E.done (by rw [eQ]; exact ⟨rfl, Or.inl ⟨_, _, rfl, rfl, dX12_slotsOf_44, rfl, rfl⟩⟩)
    · rw [if_neg hc3] at hf
      refine E_iload_n (v := (w.1 2 (0 : Int32).toNatClampNeg)) dX12_slotsOf_25 rfl ?_
      refine E_aload_n (v := 0) dX12_slotsOf_26 rfl ?_
      refine E_getR fg_RX12_22 dX12_slotsOf_27 sM_0 rfl rM_0_9 (Nat.succ_ne_zero _) ?_
      refine E_iload_n (v := a0) dX12_slotsOf_30 rfl ?_
      refine E_iald (n := 61) dX12_slotsOf_31 sM_5 (by decide) (inb_in hi2) ?_
      refine E_isub dX12_slotsOf_32 ?_
      refine E_goto 37 dX12_slotsOf_33 (by decide) ?_
      refine E_aload_n (v := 0) dX12_slotsOf_37 rfl ?_
      refine E_getR fg_RX12_25 dX12_slotsOf_38 sM_0 rfl rM_0_10 (Nat.succ_ne_zero _) ?_
      refine E_iload_n (v := a0) dX12_slotsOf_41 rfl ?_
      refine E_iald (n := 61) dX12_slotsOf_42 sM_6 (by decide) (inb_in hi2) ?_
      refine E_iadd dX12_slotsOf_43 ?_
      obtain rfl := Option.some.inj hf
      exact E.done (by rw [eQ]; exact ⟨rfl, Or.inl ⟨_, _, rfl, rfl, dX12_slotsOf_44, rfl, rfl⟩⟩)
  · rw [if_neg hc1] at hf
    refine E_iload_n (v := (w.1 2 (0 : Int32).toNatClampNeg)) dX12_slotsOf_13 rfl ?_
    obtain rfl := Option.some.inj hf
    exact E.done (by rw [eQ]; exact ⟨rfl, Or.inl ⟨_, _, rfl, rfl, dX12_slotsOf_14, rfl, rfl⟩⟩)
set_option maxRecDepth 10000 in
set_option maxHeartbeats 2000000 in
theorem MX12_works {a0 : Int32} {w : AW} {rZ : Int32} {wZ : AW} (hf : fX12_works a0 w = some (rZ, wZ)) : CallOK PM yX12_works cX12_works 2 (some .boolean) 2 [.ref 0, .int a0] w (some (.int rZ)) wZ := by
  refine CallOK.of (ls := [some (.ref 0), some (.int a0)]) (by decide) (by simp) rfl rfl ?_
  obtain ⟨Q, eQ⟩ : ∃ Q, Q = Qret cX12_works (some .boolean) (some (.int rZ)) wZ := ⟨_, rfl⟩
  rw [← eQ]
  unfold fX12_works at hf
  refine E_aload_n (v := 0) dX12_works_0 rfl ?_
  refine E_iload_n (v := a0) dX12_works_1 rfl ?_
  refine E_iconst 2 dX12_works_2 ic_2 ?_
  obtain ⟨r2, hc1, hf⟩ := bd_some hf
  try dsimp only at hf
  refine E_callVi (rest := []) (ci := 12) cv_RX12_242 dX12_works_3 (MX12_its hc1) rfl sM_0 rfl (by decide) rfl rfl (fun _ => Nat.le_of_ble_eq_true rfl) ?_
  refine E_aload_n (v := 0) dX12_works_6 rfl ?_
  refine E_getI fg_RX12_251 dX12_works_7 sM_0 rfl ?_
  refine E_icmp_eq 33 dX12_works_10 (by decide) (fun hc3 => ?_) (fun hc3 => ?_)
  · rw [if_pos hc3] at hf
    refine E_aload_n (v := 0) dX12_works_33 rfl ?_
    refine E_getI fg_RX12_254 dX12_works_34 sM_0 rfl ?_
    refine E_if_le 52 dX12_works_37 (by decide) (fun hc4 => ?_) (fun hc4 => ?_)
    · rw [if_pos hc4] at hf
      refine E_aload_n (v := 0) dX12_works_52 rfl ?_
      refine E_getR fg_RX12_50 dX12_works_53 sM_0 rfl rM_0_27 (Nat.succ_ne_zero _) ?_
      refine E_iload_n (v := a0) dX12_works_56 rfl ?_
      refine E_dup2_ir dX12_works_57 ?_
      obtain ⟨hi5, hf⟩ := gd_some hf
      refine E_iald (n := 8) dX12_works_58 sM_13 (by decide) (inb_in hi5) ?_
      refine E_iconst 1 dX12_works_59 ic_1 ?_
      refine E_isub dX12_works_60 ?_
      obtain ⟨w6, ew6, hf⟩ := lw_some hf
      try dsimp only at hf
      refine E_iast (n := 8) dX12_works_61 sM_13 (by decide) (inb_in hi5) ?_
      rw [← ew6]
      refine E_aload_n (v := 0) dX12_works_62 rfl ?_
      refine E_getR fg_RX12_50 dX12_works_63 sM_0 rfl rM_0_27 (Nat.succ_ne_zero _) ?_
      refine E_iload_n (v := a0) dX12_works_66 rfl ?_
      refine E_iald (n := 8) dX12_works_67 sM_13 (by decide) (inb_in hi5) ?_
      refine E_if_ne 75 dX12_works_68 (by decide) (fun hc7 => ?_) (fun hc7 => ?_)
      · rw [if_pos hc7] at hf
        refine E_iconst 1 dX12_works_71 ic_1 ?_
        refine E_goto 76 dX12_works_72 (by decide) ?_
        obtain ⟨rfl, rfl⟩ := ret2 hf
        exact E.done (by rw [eQ]; exact ⟨rfl, Or.inl ⟨_, _, rfl, rfl, dX12_works_76, rfl, rfl⟩⟩)
      · rw [if_neg hc7] at hf
        refine E_iconst 0 dX12_works_75 ic_0 ?_
        obtain ⟨rfl, rfl⟩ := ret2 hf
        exact E.done (by rw [eQ]; exact ⟨rfl, Or.inl ⟨_, _, rfl, rfl, dX12_works_76, rfl, rfl⟩⟩)
    · rw [if_neg hc4] at hf
      refine E_aload_n (v := 0) dX12_works_40 rfl ?_
      refine E_dup_r dX12_works_41 ?_
      refine E_getI fg_RX12_254 dX12_works_42 sM_0 rfl ?_
      refine E_iconst 1 dX12_works_45 ic_1 ?_
      refine E_isub dX12_works_46 ?_
      obtain ⟨w8, ew8, hf⟩ := lw_some hf
      try dsimp only at hf
      refine E_putI fp_RX12_254 dX12_works_47 sM_0 rfl rfl rfl ?_
      rw [← ew8]
      refine E_iconst 0 dX12_works_50 ic_0 ?_
      obtain ⟨rfl, rfl⟩ := ret2 hf
      exact E.done (by rw [eQ]; exact ⟨rfl, Or.inl ⟨_, _, rfl, rfl, dX12_works_51, rfl, rfl⟩⟩)
  · rw [if_neg hc3] at hf
    refine E_aload_n (v := 0) dX12_works_13 rfl ?_
    refine E_aload_n (v := 0) dX12_works_14 rfl ?_
    refine E_iload_n (v := a0) dX12_works_15 rfl ?_
    refine E_iconst 2 dX12_works_16 ic_2 ?_
    obtain ⟨r10, hc9, hf⟩ := bd_some hf
    try dsimp only at hf
    refine E_callVi (rest := [.ref 0]) (ci := 12) cv_RX12_242 dX12_works_17 (MX12_its hc9) rfl sM_0 rfl (by decide) rfl rfl (fun _ => Nat.le_of_ble_eq_true rfl) ?_
    obtain ⟨w11, ew11, hf⟩ := lw_some hf
    try dsimp only at hf
    refine E_putI fp_RX12_251 dX12_works_20 sM_0 rfl rfl rfl ?_
    rw [← ew11]
    refine E_aload_n (v := 0) dX12_works_23 rfl ?_
    refine E_aload_n (v := 0) dX12_works_24 rfl ?_
    refine E_getR fg_RX12_13 dX12_works_25 sM_0 rfl rM_0_2 (Nat.succ_ne_zero _) ?_
    refine E_iconst 1 dX12_works_28 ic_1 ?_
    refine E_iald (n := 4) dX12_works_29 sM_2 (by decide) (inb_in (by decide)) ?_
    obtain ⟨w12, ew12, hf⟩ := lw_some hf
    try dsimp only at hf
    refine E_putI fp_RX12_254 dX12_works_30 sM_0 rfl rfl rfl ?_
    rw [← ew12]
    refine E_aload_n (v := 0) dX12_works_33 rfl ?_
    refine E_getI fg_RX12_254 dX12_works_34 sM_0 rfl ?_
    refine E_if_le 52 dX12_works_37 (by decide) (fun hc13 => ?_) (fun hc13 => ?_)
    · rw [if_pos hc13] at hf
      refine E_aload_n (v := 0) dX12_works_52 rfl ?_
      refine E_getR fg_RX12_50 dX12_works_53 sM_0 rfl rM_0_27 (Nat.succ_ne_zero _) ?_
      refine E_iload_n (v := a0) dX12_works_56 rfl ?_
      refine E_dup2_ir dX12_works_57 ?_
      obtain ⟨hi14, hf⟩ := gd_some hf
      refine E_iald (n := 8) dX12_works_58 sM_13 (by decide) (inb_in hi14) ?_
      refine E_iconst 1 dX12_works_59 ic_1 ?_
      refine E_isub dX12_works_60 ?_
      obtain ⟨w15, ew15, hf⟩ := lw_some hf
      try dsimp only at hf
      refine E_iast (n := 8) dX12_works_61 sM_13 (by decide) (inb_in hi14) ?_
      rw [← ew15]
      refine E_aload_n (v := 0) dX12_works_62 rfl ?_
      refine E_getR fg_RX12_50 dX12_works_63 sM_0 rfl rM_0_27 (Nat.succ_ne_zero _) ?_
      refine E_iload_n (v := a0) dX12_works_66 rfl ?_
      refine E_iald (n := 8) dX12_works_67 sM_13 (by decide) (inb_in hi14) ?_
      refine E_if_ne 75 dX12_works_68 (by decide) (fun hc16 => ?_) (fun hc16 => ?_)
      · rw [if_pos hc16] at hf
        refine E_iconst 1 dX12_works_71 ic_1 ?_
        refine E_goto 76 dX12_works_72 (by decide) ?_
        obtain ⟨rfl, rfl⟩ := ret2 hf
        exact E.done (by rw [eQ]; exact ⟨rfl, Or.inl ⟨_, _, rfl, rfl, dX12_works_76, rfl, rfl⟩⟩)
      · rw [if_neg hc16] at hf
        refine E_iconst 0 dX12_works_75 ic_0 ?_
        obtain ⟨rfl, rfl⟩ := ret2 hf
        exact E.done (by rw [eQ]; exact ⟨rfl, Or.inl ⟨_, _, rfl, rfl, dX12_works_76, rfl, rfl⟩⟩)
    · rw [if_neg hc13] at hf
      refine E_aload_n (v := 0) dX12_works_40 rfl ?_
      refine E_dup_r dX12_works_41 ?_
      refine E_getI fg_RX12_254 dX12_works_42 sM_0 rfl ?_
      refine E_iconst 1 dX12_works_45 ic_1 ?_
      refine E_isub dX12_works_46 ?_
      obtain ⟨w17, ew17, hf⟩ := lw_some hf
      try dsimp only at hf
      refine E_putI fp_RX12_254 dX12_works_47 sM_0 rfl rfl rfl ?_
      rw [← ew17]
      refine E_iconst 0 dX12_works_50 ic_0 ?_
      obtain ⟨rfl, rfl⟩ := ret2 hf
      exact E.done (by rw [eQ]; exact ⟨rfl, Or.inl ⟨_, _, rfl, rfl, dX12_works_51, rfl, rfl⟩⟩)
set_option maxRecDepth 10000 in
set_option maxHeartbeats 2000000 in
theorem BX12_worksMany_28 (N : Nat) (p1_28 : Int32) (p4_28 : Int32) (p5_28 : Int32) (q0_28 : Int32) (q1_28 : Int32) (w : AW) (wZ : AW) {Q : Nat → List (Option Value) → List Value → AW → Prop} (eQ : Q = Qret cX12_worksMany none none wZ) (hf : bX12_worksMany_28 N p1_28 p4_28 p5_28 q0_28 q1_28 w = some wZ) : E PM RX12 cX12_worksMany 9 3 28 [some (.ref 0), some (.int p1_28), none, none, some (.int p4_28), some (.int p5_28), none, none, none] [.int q0_28, .int q1_28] w Q := by
  unfold bX12_worksMany_28 at hf
  refine E_iadd dX12_worksMany_28 ?_
  refine E_istore (ls' := [some (.ref 0), some (.int p1_28), none, none, some (.int p4_28), some (.int p5_28), some (.int (q1_28 + q0_28)), none, none]) dX12_worksMany_29 rfl rfl rfl ?_
  refine E_iconst 0 dX12_worksMany_31 ic_0 ?_
  refine E_istore (ls' := [some (.ref 0), some (.int p1_28), none, none, some (.int p4_28), some (.int p5_28), some (.int (q1_28 + q0_28)), some (.int 0), none]) dX12_worksMany_32 rfl rfl rfl ?_
  obtain ⟨q, hw27, hf⟩ := bd_some hf
  try dsimp only at hf
  show (fun (s : Int32 × Int32 × Int32 × AW) => E PM RX12 cX12_worksMany 9 3 34 [some (.ref 0), some (.int p1_28), none, none, some (.int p4_28), some (.int s.1), some (.int s.2.1), some (.int s.2.2.1), none] [] s.2.2.2 Q) (p5_28, (q1_28 + q0_28), 0, w)
  refine wh_E (K := (fun (s : Int32 × Int32 × Int32 × AW) => E PM RX12 cX12_worksMany 9 3 34 [some (.ref 0), some (.int p1_28), none, none, some (.int p4_28), some (.int s.1), some (.int s.2.1), some (.int s.2.2.1), none] [] s.2.2.2 Q)) (X := (fun (s : AW) => E PM RX12 cX12_worksMany 9 3 124 [none, none, none, none, none, none, none, none, none] [] s Q)) ?_ hw27 ?_
  · intro s9 z9 hf k9
    obtain ⟨x5_34_1, x6_34_1, x7_34_1, w_34_1⟩ := s9
    dsimp only [lbX12_worksMany_34_1] at hf
    show E PM RX12 cX12_worksMany 9 3 34 [some (.ref 0), some (.int p1_28), none, none, some (.int p4_28), some (.int x5_34_1), some (.int x6_34_1), some (.int x7_34_1), none] [] w_34_1 Q
    refine E_iload (v := x7_34_1) dX12_worksMany_34 rfl ?_
    refine E_iload_n (v := p1_28) dX12_worksMany_36 rfl ?_
    refine E_icmp_ge 124 dX12_worksMany_37 (by decide) (fun hc6 => ?_) (fun hc6 => ?_)
    · rw [if_pos hc6] at hf
      obtain rfl := Option.some.inj hf
      refine E.fewer (ls' := [none, none, none, none, none, none, none, none, none]) ⟨Or.inl rfl, ⟨Or.inl rfl, ⟨Or.inl rfl, ⟨Or.inl rfl, ⟨Or.inl rfl, ⟨Or.inl rfl, ⟨Or.inl rfl, ⟨Or.inl rfl, ⟨Or.inl rfl, trivial⟩⟩⟩⟩⟩⟩⟩⟩⟩ ?_
      exact k9
    · rw [if_neg hc6] at hf
      refine E_iconst 0 dX12_worksMany_40 ic_0 ?_
      refine E_istore (ls' := [some (.ref 0), some (.int p1_28), none, none, some (.int p4_28), some (.int x5_34_1), some (.int x6_34_1), some (.int x7_34_1), some (.int 0)]) dX12_worksMany_41 rfl rfl rfl ?_
      obtain ⟨q, hw20, hf⟩ := bd_some hf
      try dsimp only at hf
      show (fun (s : Int32 × Int32 × Int32 × AW) => E PM RX12 cX12_worksMany 9 3 43 [some (.ref 0), some (.int p1_28), none, none, some (.int p4_28), some (.int s.1), some (.int s.2.1), some (.int x7_34_1), some (.int s.2.2.1)] [] s.2.2.2 Q) (x5_34_1, x6_34_1, 0, w_34_1)
      refine wh_E (K := (fun (s : Int32 × Int32 × Int32 × AW) => E PM RX12 cX12_worksMany 9 3 43 [some (.ref 0), some (.int p1_28), none, none, some (.int p4_28), some (.int s.1), some (.int s.2.1), some (.int x7_34_1), some (.int s.2.2.1)] [] s.2.2.2 Q)) (X := (fun (s : Int32 × Int32 × AW) => E PM RX12 cX12_worksMany 9 3 104 [some (.ref 0), some (.int p1_28), none, none, some (.int p4_28), some (.int s.1), some (.int s.2.1), some (.int x7_34_1), none] [] s.2.2 Q)) ?_ hw20 ?_
      · intro s9 z9 hf k9
        obtain ⟨x5_43_2, x6_43_2, x8_43_2, w_43_2⟩ := s9
        dsimp only [lbX12_worksMany_43_2] at hf
        show E PM RX12 cX12_worksMany 9 3 43 [some (.ref 0), some (.int p1_28), none, none, some (.int p4_28), some (.int x5_43_2), some (.int x6_43_2), some (.int x7_34_1), some (.int x8_43_2)] [] w_43_2 Q
        refine E_iload (v := x8_43_2) dX12_worksMany_43 rfl ?_
        refine E_if_ne 104 dX12_worksMany_45 (by decide) (fun hc7 => ?_) (fun hc7 => ?_)
        · rw [if_pos hc7] at hf
          obtain ⟨q, hw12, hf⟩ := bd_some hf
          try dsimp only at hf
          refine E.fewer (ls' := [some (.ref 0), some (.int p1_28), none, none, some (.int p4_28), some (.int x5_43_2), some (.int x6_43_2), some (.int x7_34_1), none]) ⟨Or.inr rfl, ⟨Or.inr rfl, ⟨Or.inl rfl, ⟨Or.inl rfl, ⟨Or.inr rfl, ⟨Or.inr rfl, ⟨Or.inr rfl, ⟨Or.inr rfl, ⟨Or.inl rfl, trivial⟩⟩⟩⟩⟩⟩⟩⟩⟩ ?_
          show (fun (s : Int32 × Int32) => E PM RX12 cX12_worksMany 9 3 48 [some (.ref 0), some (.int p1_28), none, none, some (.int p4_28), some (.int s.1), some (.int s.2), some (.int x7_34_1), none] [] w_43_2 Q) (x5_43_2, x6_43_2)
          refine wh_E (K := (fun (s : Int32 × Int32) => E PM RX12 cX12_worksMany 9 3 48 [some (.ref 0), some (.int p1_28), none, none, some (.int p4_28), some (.int s.1), some (.int s.2), some (.int x7_34_1), none] [] w_43_2 Q)) (X := (fun (s : Int32 × Int32) => E PM RX12 cX12_worksMany 9 3 85 [some (.ref 0), some (.int p1_28), none, none, some (.int p4_28), some (.int s.1), some (.int s.2), some (.int x7_34_1), none] [] w_43_2 Q)) ?_ hw12 ?_
          · intro s9 z9 hf k9
            obtain ⟨x5_48_3, x6_48_3⟩ := s9
            dsimp only [lbX12_worksMany_48_3] at hf
            show E PM RX12 cX12_worksMany 9 3 48 [some (.ref 0), some (.int p1_28), none, none, some (.int p4_28), some (.int x5_48_3), some (.int x6_48_3), some (.int x7_34_1), none] [] w_43_2 Q
            refine E_iload (v := x6_48_3) dX12_worksMany_48 rfl ?_
            refine E_if_ne 85 dX12_worksMany_50 (by decide) (fun hc8 => ?_) (fun hc8 => ?_)
            · rw [if_pos hc8] at hf
              refine E_iinc (ls' := [some (.ref 0), some (.int p1_28), none, none, some (.int p4_28), some (.int (x5_48_3 + 1)), some (.int x6_48_3), some (.int x7_34_1), none]) 1 dX12_worksMany_53 rfl ic_1 rfl rfl rfl ?_
              refine E_aload_n (v := 0) dX12_worksMany_56 rfl ?_
              refine E_iload (v := (x5_48_3 + 1)) dX12_worksMany_57 rfl ?_
              obtain ⟨r10, hc9, hf⟩ := bd_some hf
              try dsimp only at hf
              refine E_callVi (rest := []) (ci := 12) cv_RX12_248 dX12_worksMany_59 (MX12_slotsOf hc9) rfl sM_0 rfl (by decide) rfl rfl (fun _ => Nat.le_of_ble_eq_true rfl) ?_
              refine E_iload (v := (x5_48_3 + 1)) dX12_worksMany_62 rfl ?_
              refine E_aload_n (v := 0) dX12_worksMany_64 rfl ?_
              refine E_getI fg_RX12_217 dX12_worksMany_65 sM_0 rfl ?_
              refine E_isub dX12_worksMany_68 ?_
              refine E_iload (v := p4_28) dX12_worksMany_69 rfl ?_
              refine E_icmp_ge 78 dX12_worksMany_71 (by decide) (fun hc11 => ?_) (fun hc11 => ?_)
              · rw [if_pos hc11] at hf
                refine E_iconst 0 dX12_worksMany_78 ic_0 ?_
                refine E_iadd dX12_worksMany_79 ?_
                refine E_istore (ls' := [some (.ref 0), some (.int p1_28), none, none, some (.int p4_28), some (.int (x5_48_3 + 1)), some (.int (r10 + 0)), some (.int x7_34_1), none]) dX12_worksMany_80 rfl rfl rfl ?_
                refine E_goto 48 dX12_worksMany_82 (by decide) ?_
                obtain rfl := Option.some.inj hf
                exact k9
              · rw [if_neg hc11] at hf
                refine E_iconst 1 dX12_worksMany_74 ic_1 ?_
                refine E_goto 79 dX12_worksMany_75 (by decide) ?_
                refine E_iadd dX12_worksMany_79 ?_
                refine E_istore (ls' := [some (.ref 0), some (.int p1_28), none, none, some (.int p4_28), some (.int (x5_48_3 + 1)), some (.int (r10 + 1)), some (.int x7_34_1), none]) dX12_worksMany_80 rfl rfl rfl ?_
                refine E_goto 48 dX12_worksMany_82 (by decide) ?_
                obtain rfl := Option.some.inj hf
                exact k9
            · rw [if_neg hc8] at hf
              obtain rfl := Option.some.inj hf
              exact k9
          · skip
            obtain ⟨y13, y14⟩ := q
            try dsimp only at hf
            show E PM RX12 cX12_worksMany 9 3 85 [some (.ref 0), some (.int p1_28), none, none, some (.int p4_28), some (.int y13), some (.int y14), some (.int x7_34_1), none] [] w_43_2 Q
            refine E_iinc (ls' := [some (.ref 0), some (.int p1_28), none, none, some (.int p4_28), some (.int y13), some (.int (y14 + (-1))), some (.int x7_34_1), none]) (-1) dX12_worksMany_85 rfl ic_m1 rfl rfl rfl ?_
            refine E_aload_n (v := 0) dX12_worksMany_88 rfl ?_
            refine E_aload_n (v := 0) dX12_worksMany_89 rfl ?_
            refine E_getR fg_RX12_47 dX12_worksMany_90 sM_0 rfl rM_0_26 (Nat.succ_ne_zero _) ?_
            refine E_iload (v := x7_34_1) dX12_worksMany_93 rfl ?_
            obtain ⟨hi15, hf⟩ := gd_some hf
            refine E_iald (n := 8) dX12_worksMany_95 sM_12 (by decide) (inb_in hi15) ?_
            obtain ⟨r17, w18, hc16, hf⟩ := bd2_some hf
            try dsimp only at hf
            refine E_callVi (rest := []) (ci := 12) cv_RX12_294 dX12_worksMany_96 (MX12_works hc16) rfl sM_0 rfl (by decide) rfl rfl (fun _ => Nat.le_of_ble_eq_true rfl) ?_
            refine E_istore (ls' := [some (.ref 0), some (.int p1_28), none, none, some (.int p4_28), some (.int y13), some (.int (y14 + (-1))), some (.int x7_34_1), some (.int r17)]) dX12_worksMany_99 rfl rfl rfl ?_
            refine E_goto 43 dX12_worksMany_101 (by decide) ?_
            obtain rfl := Option.some.inj hf
            exact k9
        · rw [if_neg hc7] at hf
          obtain rfl := Option.some.inj hf
          refine E.fewer (ls' := [some (.ref 0), some (.int p1_28), none, none, some (.int p4_28), some (.int x5_43_2), some (.int x6_43_2), some (.int x7_34_1), none]) ⟨Or.inr rfl, ⟨Or.inr rfl, ⟨Or.inl rfl, ⟨Or.inl rfl, ⟨Or.inr rfl, ⟨Or.inr rfl, ⟨Or.inr rfl, ⟨Or.inr rfl, ⟨Or.inl rfl, trivial⟩⟩⟩⟩⟩⟩⟩⟩⟩ ?_
          exact k9
      · skip
        obtain ⟨y21, y22, w23⟩ := q
        try dsimp only at hf
        show E PM RX12 cX12_worksMany 9 3 104 [some (.ref 0), some (.int p1_28), none, none, some (.int p4_28), some (.int y21), some (.int y22), some (.int x7_34_1), none] [] w23 Q
        refine E_aload_n (v := 0) dX12_worksMany_104 rfl ?_
        refine E_getR fg_RX12_53 dX12_worksMany_105 sM_0 rfl rM_0_28 (Nat.succ_ne_zero _) ?_
        refine E_aload_n (v := 0) dX12_worksMany_108 rfl ?_
        refine E_getR fg_RX12_47 dX12_worksMany_109 sM_0 rfl rM_0_26 (Nat.succ_ne_zero _) ?_
        refine E_iload (v := x7_34_1) dX12_worksMany_112 rfl ?_
        obtain ⟨hi24, hf⟩ := gd_some hf
        refine E_iald (n := 8) dX12_worksMany_114 sM_12 (by decide) (inb_in hi24) ?_
        refine E_iload (v := y21) dX12_worksMany_115 rfl ?_
        obtain ⟨hi25, hf⟩ := gd_some hf
        obtain ⟨w26, ew26, hf⟩ := lw_some hf
        try dsimp only at hf
        refine E_iast (n := 8) dX12_worksMany_117 sM_14 (by decide) (inb_in hi25) ?_
        rw [← ew26]
        refine E_iinc (ls' := [some (.ref 0), some (.int p1_28), none, none, some (.int p4_28), some (.int y21), some (.int y22), some (.int (x7_34_1 + 1)), none]) 1 dX12_worksMany_118 rfl ic_1 rfl rfl rfl ?_
        refine E_goto 34 dX12_worksMany_121 (by decide) ?_
        obtain rfl := Option.some.inj hf
        exact k9
  · skip
    obtain ⟨w28, hq9⟩ : ∃ a, a = q := ⟨_, rfl⟩
    subst hq9
    try dsimp only at hf
    show E PM RX12 cX12_worksMany 9 3 124 [none, none, none, none, none, none, none, none, none] [] w28 Q
    obtain rfl := Option.some.inj hf
    exact E.done (by rw [eQ]; exact ⟨rfl, Or.inr ⟨rfl, rfl, dX12_worksMany_124, rfl⟩⟩)
set_option maxRecDepth 10000 in
set_option maxHeartbeats 2000000 in
theorem MX12_worksMany {N : Nat} {a0 : Int32} {a1 : Int32} {a2 : Int32} {a3 : Int32} {w : AW} {wZ : AW} (hf : fX12_worksMany N a0 a1 a2 a3 w = some wZ) : CallOK PM yX12_worksMany cX12_worksMany 9 none 3 [.ref 0, .int a0, .int a1, .int a2, .int a3] w none wZ := by
  refine CallOK.of (ls := [some (.ref 0), some (.int a0), some (.int a1), some (.int a2), some (.int a3), none, none, none, none]) (by decide) (by simp) rfl rfl ?_
  obtain ⟨Q, eQ⟩ : ∃ Q, Q = Qret cX12_worksMany none none wZ := ⟨_, rfl⟩
  rw [← eQ]
  unfold fX12_worksMany at hf
  refine E_aload_n (v := 0) dX12_worksMany_0 rfl ?_
  refine E_iload_n (v := a1) dX12_worksMany_1 rfl ?_
  refine E_iload_n (v := a2) dX12_worksMany_2 rfl ?_
  obtain ⟨w2, hc1, hf⟩ := bd_some hf
  try dsimp only at hf
  refine E_callVv (rest := []) (ci := 12) cv_RX12_291 dX12_worksMany_3 (MX12_lends hc1) rfl sM_0 rfl (by decide) rfl rfl (fun _ => Nat.le_of_ble_eq_true rfl) ?_
  refine E_aload_n (v := 0) dX12_worksMany_6 rfl ?_
  refine E_getI fg_RX12_217 dX12_worksMany_7 sM_0 rfl ?_
  refine E_istore (ls' := [some (.ref 0), some (.int a0), some (.int a1), some (.int a2), some (.int a3), some (.int (w2.1 0 5)), none, none, none]) dX12_worksMany_10 rfl rfl rfl ?_
  refine E_aload_n (v := 0) dX12_worksMany_12 rfl ?_
  refine E_iload (v := (w2.1 0 5)) dX12_worksMany_13 rfl ?_
  obtain ⟨r4, hc3, hf⟩ := bd_some hf
  try dsimp only at hf
  refine E_callVi (rest := []) (ci := 12) cv_RX12_248 dX12_worksMany_15 (MX12_slotsOf hc3) rfl sM_0 rfl (by decide) rfl rfl (fun _ => Nat.le_of_ble_eq_true rfl) ?_
  refine E_iload (v := a3) dX12_worksMany_18 rfl ?_
  refine E_if_le 27 dX12_worksMany_20 (by decide) (fun hc5 => ?_) (fun hc5 => ?_)
  · rw [if_pos hc5] at hf
    refine E_iconst 0 dX12_worksMany_27 ic_0 ?_
    refine E.fewer (ls' := [some (.ref 0), some (.int a0), none, none, some (.int a3), some (.int (w2.1 0 5)), none, none, none]) ⟨Or.inr rfl, ⟨Or.inr rfl, ⟨Or.inl rfl, ⟨Or.inl rfl, ⟨Or.inr rfl, ⟨Or.inr rfl, ⟨Or.inl rfl, ⟨Or.inl rfl, ⟨Or.inl rfl, trivial⟩⟩⟩⟩⟩⟩⟩⟩⟩ ?_
    exact BX12_worksMany_28 N a0 a3 (w2.1 0 5) 0 r4 w2  wZ eQ hf
  · rw [if_neg hc5] at hf
    refine E_iconst 1 dX12_worksMany_23 ic_1 ?_
    refine E_goto 28 dX12_worksMany_24 (by decide) ?_
    refine E.fewer (ls' := [some (.ref 0), some (.int a0), none, none, some (.int a3), some (.int (w2.1 0 5)), none, none, none]) ⟨Or.inr rfl, ⟨Or.inr rfl, ⟨Or.inl rfl, ⟨Or.inl rfl, ⟨Or.inr rfl, ⟨Or.inr rfl, ⟨Or.inl rfl, ⟨Or.inl rfl, ⟨Or.inl rfl, trivial⟩⟩⟩⟩⟩⟩⟩⟩⟩ ?_
    exact BX12_worksMany_28 N a0 a3 (w2.1 0 5) 1 r4 w2  wZ eQ hf
set_option maxRecDepth 10000 in
set_option maxHeartbeats 2000000 in
theorem MX12_isLate {a0 : Int32} {w : AW} {rZ : Int32} (hf : fX12_isLate a0 w = some rZ) : CallOK PM yX12_isLate cX12_isLate 2 (some .boolean) 2 [.ref 0, .int a0] w (some (.int rZ)) w := by
  refine CallOK.of (ls := [some (.ref 0), some (.int a0)]) (by decide) (by simp) rfl rfl ?_
  obtain ⟨Q, eQ⟩ : ∃ Q, Q = Qret cX12_isLate (some .boolean) (some (.int rZ)) w := ⟨_, rfl⟩
  rw [← eQ]
  unfold fX12_isLate at hf
  refine E_aload_n (v := 0) dX12_isLate_0 rfl ?_
  refine E_getR fg_RX12_53 dX12_isLate_1 sM_0 rfl rM_0_28 (Nat.succ_ne_zero _) ?_
  refine E_iload_n (v := a0) dX12_isLate_4 rfl ?_
  obtain ⟨hi1, hf⟩ := gd_some hf
  refine E_iald (n := 8) dX12_isLate_5 sM_14 (by decide) (inb_in hi1) ?_
  refine E_aload_n (v := 0) dX12_isLate_6 rfl ?_
  refine E_iload_n (v := a0) dX12_isLate_7 rfl ?_
  refine E_iconst 3 dX12_isLate_8 ic_3 ?_
  obtain ⟨r3, hc2, hf⟩ := bd_some hf
  try dsimp only at hf
  refine E_callVi (rest := [.int (w.1 14 a0.toNatClampNeg)]) (ci := 12) cv_RX12_242 dX12_isLate_9 (MX12_its hc2) rfl sM_0 rfl (by decide) rfl rfl (fun _ => Nat.le_of_ble_eq_true rfl) ?_
  refine E_icmp_le 19 dX12_isLate_12 (by decide) (fun hc4 => ?_) (fun hc4 => ?_)
  · rw [if_pos hc4] at hf
    refine E_iconst 0 dX12_isLate_19 ic_0 ?_
    obtain rfl := Option.some.inj hf
    exact E.done (by rw [eQ]; exact ⟨rfl, Or.inl ⟨_, _, rfl, rfl, dX12_isLate_20, rfl, rfl⟩⟩)
  · rw [if_neg hc4] at hf
    refine E_iconst 1 dX12_isLate_15 ic_1 ?_
    refine E_goto 20 dX12_isLate_16 (by decide) ?_
    obtain rfl := Option.some.inj hf
    exact E.done (by rw [eQ]; exact ⟨rfl, Or.inl ⟨_, _, rfl, rfl, dX12_isLate_20, rfl, rfl⟩⟩)
set_option maxRecDepth 10000 in
set_option maxHeartbeats 2000000 in
theorem MX12_worthOf {a0 : Int32} {w : AW} {rZ : Int32} (hf : fX12_worthOf a0 w = some rZ) : CallOK PM yX12_worthOf cX12_worthOf 4 (some .int) 3 [.ref 0, .int a0] w (some (.int rZ)) w := by
  refine CallOK.of (ls := [some (.ref 0), some (.int a0), none, none]) (by decide) (by simp) rfl rfl ?_
  obtain ⟨Q, eQ⟩ : ∃ Q, Q = Qret cX12_worthOf (some .int) (some (.int rZ)) w := ⟨_, rfl⟩
  rw [← eQ]
  unfold fX12_worthOf at hf
  refine E_aload_n (v := 0) dX12_worthOf_0 rfl ?_
  refine E_iload_n (v := a0) dX12_worthOf_1 rfl ?_
  refine E_iconst 4 dX12_worthOf_2 ic_4 ?_
  obtain ⟨r2, hc1, hf⟩ := bd_some hf
  try dsimp only at hf
  refine E_callVi (rest := []) (ci := 12) cv_RX12_242 dX12_worthOf_3 (MX12_its hc1) rfl sM_0 rfl (by decide) rfl rfl (fun _ => Nat.le_of_ble_eq_true rfl) ?_
  refine E_istore_n (ls' := [some (.ref 0), some (.int a0), some (.int r2), none]) dX12_worthOf_6 rfl rfl rfl ?_
  refine E_aload_n (v := 0) dX12_worthOf_7 rfl ?_
  refine E_iload_n (v := a0) dX12_worthOf_8 rfl ?_
  obtain ⟨r4, hc3, hf⟩ := bd_some hf
  try dsimp only at hf
  refine E_callVi (rest := []) (ci := 12) cv_RX12_261 dX12_worthOf_9 (MX12_isLate hc3) rfl sM_0 rfl (by decide) rfl rfl (fun _ => Nat.le_of_ble_eq_true rfl) ?_
  refine E_if_ne 17 dX12_worthOf_12 (by decide) (fun hc5 => ?_) (fun hc5 => ?_)
  · rw [if_pos hc5] at hf
    refine E_iload_n (v := r2) dX12_worthOf_15 rfl ?_
    obtain rfl := Option.some.inj hf
    exact E.done (by rw [eQ]; exact ⟨rfl, Or.inl ⟨_, _, rfl, rfl, dX12_worthOf_16, rfl, rfl⟩⟩)
  · rw [if_neg hc5] at hf
    refine E_aload_n (v := 0) dX12_worthOf_17 rfl ?_
    refine E_getR fg_RX12_13 dX12_worthOf_18 sM_0 rfl rM_0_2 (Nat.succ_ne_zero _) ?_
    refine E_iconst 2 dX12_worthOf_21 ic_2 ?_
    refine E_iald (n := 4) dX12_worthOf_22 sM_2 (by decide) (inb_in (by decide)) ?_
    refine E_istore_n (ls' := [some (.ref 0), some (.int a0), some (.int r2), some (.int (w.1 2 (2 : Int32).toNatClampNeg))]) dX12_worthOf_23 rfl rfl rfl ?_
    refine E_aload_n (v := 0) dX12_worthOf_24 rfl ?_
    refine E_iload_n (v := a0) dX12_worthOf_25 rfl ?_
    refine E_iconst 0 dX12_worthOf_26 ic_0 ?_
    obtain ⟨r7, hc6, hf⟩ := bd_some hf
    try dsimp only at hf
    refine E_callVi (rest := []) (ci := 12) cv_RX12_242 dX12_worthOf_27 (MX12_its hc6) rfl sM_0 rfl (by decide) rfl rfl (fun _ => Nat.le_of_ble_eq_true rfl) ?_
    by_cases hc8 : r7 = 1
    · rw [if_pos hc8] at hf
      refine E_tableIn 60 dX12_worthOf_30 (by rw [hc8]; decide) (by rw [hc8]; decide) (by rw [hc8]; rfl) (by decide) ?_
      refine E_bipush (-2) dX12_worthOf_60 bp_m2 ?_
      refine E_iload_n (v := (w.1 2 (2 : Int32).toNatClampNeg)) dX12_worthOf_62 rfl ?_
      refine E_imul dX12_worthOf_63 ?_
      obtain rfl := Option.some.inj hf
      exact E.done (by rw [eQ]; exact ⟨rfl, Or.inl ⟨_, _, rfl, rfl, dX12_worthOf_64, rfl, rfl⟩⟩)
    · rw [if_neg hc8] at hf
      by_cases hc9 : r7 = 2
      · rw [if_pos hc9] at hf
        refine E_tableIn 91 dX12_worthOf_30 (by rw [hc9]; decide) (by rw [hc9]; decide) (by rw [hc9]; rfl) (by decide) ?_
        refine E_iload_n (v := r2) dX12_worthOf_91 rfl ?_
        refine E_iconst 2 dX12_worthOf_92 ic_2 ?_
        refine E_idiv dX12_worthOf_93 (by decide) ?_
        obtain rfl := Option.some.inj hf
        exact E.done (by rw [eQ]; exact ⟨rfl, Or.inl ⟨_, _, rfl, rfl, dX12_worthOf_94, rfl, rfl⟩⟩)
      · rw [if_neg hc9] at hf
        by_cases hc10 : r7 = 3
        · rw [if_pos hc10] at hf
          refine E_tableIn 95 dX12_worthOf_30 (by rw [hc10]; decide) (by rw [hc10]; decide) (by rw [hc10]; rfl) (by decide) ?_
          refine E_iload_n (v := r2) dX12_worthOf_95 rfl ?_
          refine E_iconst 2 dX12_worthOf_96 ic_2 ?_
          refine E_idiv dX12_worthOf_97 (by decide) ?_
          refine E_iload_n (v := (w.1 2 (2 : Int32).toNatClampNeg)) dX12_worthOf_98 rfl ?_
          refine E_isub dX12_worthOf_99 ?_
          obtain rfl := Option.some.inj hf
          exact E.done (by rw [eQ]; exact ⟨rfl, Or.inl ⟨_, _, rfl, rfl, dX12_worthOf_100, rfl, rfl⟩⟩)
        · rw [if_neg hc10] at hf
          by_cases hc11 : r7 = 4
          · rw [if_pos hc11] at hf
            refine E_tableIn 65 dX12_worthOf_30 (by rw [hc11]; decide) (by rw [hc11]; decide) (by rw [hc11]; rfl) (by decide) ?_
            refine E_aload_n (v := 0) dX12_worthOf_65 rfl ?_
            refine E_getR fg_RX12_53 dX12_worthOf_66 sM_0 rfl rM_0_28 (Nat.succ_ne_zero _) ?_
            refine E_iload_n (v := a0) dX12_worthOf_69 rfl ?_
            obtain ⟨hi12, hf⟩ := gd_some hf
            refine E_iald (n := 8) dX12_worthOf_70 sM_14 (by decide) (inb_in hi12) ?_
            refine E_aload_n (v := 0) dX12_worthOf_71 rfl ?_
            refine E_iload_n (v := a0) dX12_worthOf_72 rfl ?_
            refine E_iconst 3 dX12_worthOf_73 ic_3 ?_
            obtain ⟨r14, hc13, hf⟩ := bd_some hf
            try dsimp only at hf
            refine E_callVi (rest := [.int (w.1 14 a0.toNatClampNeg)]) (ci := 12) cv_RX12_242 dX12_worthOf_74 (MX12_its hc13) rfl sM_0 rfl (by decide) rfl rfl (fun _ => Nat.le_of_ble_eq_true rfl) ?_
            refine E_iconst 1 dX12_worthOf_77 ic_1 ?_
            refine E_iadd dX12_worthOf_78 ?_
            refine E_icmp_ne 86 dX12_worthOf_79 (by decide) (fun hc15 => ?_) (fun hc15 => ?_)
            · rw [if_pos hc15] at hf
              refine E_iconst 0 dX12_worthOf_82 ic_0 ?_
              refine E_goto 90 dX12_worthOf_83 (by decide) ?_
              obtain rfl := Option.some.inj hf
              exact E.done (by rw [eQ]; exact ⟨rfl, Or.inl ⟨_, _, rfl, rfl, dX12_worthOf_90, rfl, rfl⟩⟩)
            · rw [if_neg hc15] at hf
              refine E_bipush (-2) dX12_worthOf_86 bp_m2 ?_
              refine E_iload_n (v := (w.1 2 (2 : Int32).toNatClampNeg)) dX12_worthOf_88 rfl ?_
              refine E_imul dX12_worthOf_89 ?_
              obtain rfl := Option.some.inj hf
              exact E.done (by rw [eQ]; exact ⟨rfl, Or.inl ⟨_, _, rfl, rfl, dX12_worthOf_90, rfl, rfl⟩⟩)
          · rw [if_neg hc11] at hf
            refine E_tableOut 101 dX12_worthOf_30 (tb_1_4 hc8 hc9 hc10 hc11) (by decide) ?_
            refine E_iload_n (v := (w.1 2 (2 : Int32).toNatClampNeg)) dX12_worthOf_101 rfl ?_
            refine E_ineg dX12_worthOf_102 ?_
            obtain rfl := Option.some.inj hf
            exact E.done (by rw [eQ]; exact ⟨rfl, Or.inl ⟨_, _, rfl, rfl, dX12_worthOf_103, rfl, rfl⟩⟩)
set_option maxRecDepth 10000 in
set_option maxHeartbeats 2000000 in
theorem MX12_worthAll {N : Nat} {a0 : Int32} {w : AW} {rZ : Int32} (hf : fX12_worthAll N a0 w = some rZ) : CallOK PM yX12_worthAll cX12_worthAll 4 (some .int) 4 [.ref 0, .int a0] w (some (.int rZ)) w := by
  refine CallOK.of (ls := [some (.ref 0), some (.int a0), none, none]) (by decide) (by simp) rfl rfl ?_
  obtain ⟨Q, eQ⟩ : ∃ Q, Q = Qret cX12_worthAll (some .int) (some (.int rZ)) w := ⟨_, rfl⟩
  rw [← eQ]
  unfold fX12_worthAll at hf
  refine E_iconst 0 dX12_worthAll_0 ic_0 ?_
  refine E_istore_n (ls' := [some (.ref 0), some (.int a0), some (.int 0), none]) dX12_worthAll_1 rfl rfl rfl ?_
  refine E_iconst 0 dX12_worthAll_2 ic_0 ?_
  refine E_istore_n (ls' := [some (.ref 0), some (.int a0), some (.int 0), some (.int 0)]) dX12_worthAll_3 rfl rfl rfl ?_
  obtain ⟨q, hw5, hf⟩ := bd_some hf
  try dsimp only at hf
  show (fun (s : Int32 × Int32) => E PM RX12 cX12_worthAll 4 4 4 [some (.ref 0), some (.int a0), some (.int s.1), some (.int s.2)] [] w Q) (0, 0)
  refine wh_E (K := (fun (s : Int32 × Int32) => E PM RX12 cX12_worthAll 4 4 4 [some (.ref 0), some (.int a0), some (.int s.1), some (.int s.2)] [] w Q)) (X := (fun (s : Int32) => E PM RX12 cX12_worthAll 4 4 28 [none, none, some (.int s), none] [] w Q)) ?_ hw5 ?_
  · intro s9 z9 hf k9
    obtain ⟨x2_4_1, x3_4_1⟩ := s9
    dsimp only [lbX12_worthAll_4_1] at hf
    show E PM RX12 cX12_worthAll 4 4 4 [some (.ref 0), some (.int a0), some (.int x2_4_1), some (.int x3_4_1)] [] w Q
    refine E_iload_n (v := x3_4_1) dX12_worthAll_4 rfl ?_
    refine E_iload_n (v := a0) dX12_worthAll_5 rfl ?_
    refine E_icmp_ge 28 dX12_worthAll_6 (by decide) (fun hc1 => ?_) (fun hc1 => ?_)
    · rw [if_pos hc1] at hf
      obtain rfl := Option.some.inj hf
      refine E.fewer (ls' := [none, none, some (.int x2_4_1), none]) ⟨Or.inl rfl, ⟨Or.inl rfl, ⟨Or.inr rfl, ⟨Or.inl rfl, trivial⟩⟩⟩⟩ ?_
      exact k9
    · rw [if_neg hc1] at hf
      refine E_iload_n (v := x2_4_1) dX12_worthAll_9 rfl ?_
      refine E_aload_n (v := 0) dX12_worthAll_10 rfl ?_
      refine E_aload_n (v := 0) dX12_worthAll_11 rfl ?_
      refine E_getR fg_RX12_47 dX12_worthAll_12 sM_0 rfl rM_0_26 (Nat.succ_ne_zero _) ?_
      refine E_iload_n (v := x3_4_1) dX12_worthAll_15 rfl ?_
      obtain ⟨hi2, hf⟩ := gd_some hf
      refine E_iald (n := 8) dX12_worthAll_16 sM_12 (by decide) (inb_in hi2) ?_
      obtain ⟨r4, hc3, hf⟩ := bd_some hf
      try dsimp only at hf
      refine E_callVi (rest := [.int x2_4_1]) (ci := 12) cv_RX12_264 dX12_worthAll_17 (MX12_worthOf hc3) rfl sM_0 rfl (by decide) rfl rfl (fun _ => Nat.le_of_ble_eq_true rfl) ?_
      refine E_iadd dX12_worthAll_20 ?_
      refine E_istore_n (ls' := [some (.ref 0), some (.int a0), some (.int (x2_4_1 + r4)), some (.int x3_4_1)]) dX12_worthAll_21 rfl rfl rfl ?_
      refine E_iinc (ls' := [some (.ref 0), some (.int a0), some (.int (x2_4_1 + r4)), some (.int (x3_4_1 + 1))]) 1 dX12_worthAll_22 rfl ic_1 rfl rfl rfl ?_
      refine E_goto 4 dX12_worthAll_25 (by decide) ?_
      obtain rfl := Option.some.inj hf
      exact k9
  · skip
    obtain ⟨y6, hq9⟩ : ∃ a, a = q := ⟨_, rfl⟩
    subst hq9
    try dsimp only at hf
    show E PM RX12 cX12_worthAll 4 4 28 [none, none, some (.int y6), none] [] w Q
    refine E_iload_n (v := y6) dX12_worthAll_28 rfl ?_
    obtain rfl := Option.some.inj hf
    exact E.done (by rw [eQ]; exact ⟨rfl, Or.inl ⟨_, _, rfl, rfl, dX12_worthAll_29, rfl, rfl⟩⟩)
set_option maxRecDepth 10000 in
set_option maxHeartbeats 2000000 in
theorem MX12_mostOfAll {N : Nat} {a0 : Int32} {a1 : Int32} {w : AW} {rZ : Int32} {wZ : AW} (hf : fX12_mostOfAll N a0 a1 w = some (rZ, wZ)) : CallOK PM yX12_mostOfAll cX12_mostOfAll 7 (some .int) 5 [.ref 0, .int a0, .int a1] w (some (.int rZ)) wZ := by
  refine CallOK.of (ls := [some (.ref 0), some (.int a0), some (.int a1), none, none, none, none]) (by decide) (by simp) rfl rfl ?_
  obtain ⟨Q, eQ⟩ : ∃ Q, Q = Qret cX12_mostOfAll (some .int) (some (.int rZ)) wZ := ⟨_, rfl⟩
  rw [← eQ]
  unfold fX12_mostOfAll at hf
  refine E_aload_n (v := 0) dX12_mostOfAll_0 rfl ?_
  refine E_iload_n (v := a0) dX12_mostOfAll_1 rfl ?_
  refine E_iload_n (v := a1) dX12_mostOfAll_2 rfl ?_
  obtain ⟨r2, w3, hc1, hf⟩ := bd2_some hf
  try dsimp only at hf
  refine E_callVi (rest := []) (ci := 12) cv_RX12_281 dX12_mostOfAll_3 (MX12_firstOrder hc1) rfl sM_0 rfl (by decide) rfl rfl (fun _ => Nat.le_of_ble_eq_true rfl) ?_
  refine E_istore_n (ls' := [some (.ref 0), some (.int a0), some (.int a1), some (.int r2), none, none, none]) dX12_mostOfAll_6 rfl rfl rfl ?_
  refine E_ldcw (-2147483648) dX12_mostOfAll_7 wk_RX12_284 ?_
  refine E_istore (ls' := [some (.ref 0), some (.int a0), some (.int a1), some (.int r2), some (.int (-2147483648)), none, none]) dX12_mostOfAll_10 rfl rfl rfl ?_
  refine E_iconst 1 dX12_mostOfAll_12 ic_1 ?_
  refine E_istore (ls' := [some (.ref 0), some (.int a0), some (.int a1), some (.int r2), some (.int (-2147483648)), some (.int 1), none]) dX12_mostOfAll_13 rfl rfl rfl ?_
  obtain ⟨q, hw21, hf⟩ := bd_some hf
  try dsimp only at hf
  refine E.fewer (ls' := [some (.ref 0), some (.int a0), none, some (.int r2), some (.int (-2147483648)), some (.int 1), none]) ⟨Or.inr rfl, ⟨Or.inr rfl, ⟨Or.inl rfl, ⟨Or.inr rfl, ⟨Or.inr rfl, ⟨Or.inr rfl, ⟨Or.inl rfl, trivial⟩⟩⟩⟩⟩⟩⟩ ?_
  show (fun (s : Int32 × Int32 × AW) => E PM RX12 cX12_mostOfAll 7 5 15 [some (.ref 0), some (.int a0), none, some (.int r2), some (.int s.1), some (.int s.2.1), none] [] s.2.2 Q) ((-2147483648), 1, w3)
  refine wh_E (K := (fun (s : Int32 × Int32 × AW) => E PM RX12 cX12_mostOfAll 7 5 15 [some (.ref 0), some (.int a0), none, some (.int r2), some (.int s.1), some (.int s.2.1), none] [] s.2.2 Q)) (X := (fun (s : Int32 × AW) => E PM RX12 cX12_mostOfAll 7 5 61 [none, none, none, none, some (.int s.1), none, none] [] s.2 Q)) ?_ hw21 ?_
  · intro s9 z9 hf k9
    obtain ⟨x4_15_1, x5_15_1, w_15_1⟩ := s9
    dsimp only [lbX12_mostOfAll_15_1] at hf
    show E PM RX12 cX12_mostOfAll 7 5 15 [some (.ref 0), some (.int a0), none, some (.int r2), some (.int x4_15_1), some (.int x5_15_1), none] [] w_15_1 Q
    refine E_iload (v := x5_15_1) dX12_mostOfAll_15 rfl ?_
    refine E_if_eq 61 dX12_mostOfAll_17 (by decide) (fun hc5 => ?_) (fun hc5 => ?_)
    · rw [if_pos hc5] at hf
      obtain rfl := Option.some.inj hf
      refine E.fewer (ls' := [none, none, none, none, some (.int x4_15_1), none, none]) ⟨Or.inl rfl, ⟨Or.inl rfl, ⟨Or.inl rfl, ⟨Or.inl rfl, ⟨Or.inr rfl, ⟨Or.inl rfl, ⟨Or.inl rfl, trivial⟩⟩⟩⟩⟩⟩⟩ ?_
      exact k9
    · rw [if_neg hc5] at hf
      refine E_aload_n (v := 0) dX12_mostOfAll_20 rfl ?_
      refine E_iload_n (v := r2) dX12_mostOfAll_21 rfl ?_
      refine E_iload_n (v := a0) dX12_mostOfAll_22 rfl ?_
      refine E_iconst 0 dX12_mostOfAll_23 ic_0 ?_
      refine E_iconst 0 dX12_mostOfAll_24 ic_0 ?_
      obtain ⟨w7, hc6, hf⟩ := bd_some hf
      try dsimp only at hf
      refine E_callVv (rest := []) (ci := 12) cv_RX12_257 dX12_mostOfAll_25 (MX12_worksMany hc6) rfl sM_0 rfl (by decide) rfl rfl (fun _ => Nat.le_of_ble_eq_true rfl) ?_
      refine E_aload_n (v := 0) dX12_mostOfAll_28 rfl ?_
      refine E_iload_n (v := r2) dX12_mostOfAll_29 rfl ?_
      obtain ⟨r9, hc8, hf⟩ := bd_some hf
      try dsimp only at hf
      refine E_callVi (rest := []) (ci := 12) cv_RX12_274 dX12_mostOfAll_30 (MX12_worthAll hc8) rfl sM_0 rfl (by decide) rfl rfl (fun _ => Nat.le_of_ble_eq_true rfl) ?_
      refine E_istore (ls' := [some (.ref 0), some (.int a0), none, some (.int r2), some (.int x4_15_1), some (.int x5_15_1), some (.int r9)]) dX12_mostOfAll_33 rfl rfl rfl ?_
      refine E_iload (v := r9) dX12_mostOfAll_35 rfl ?_
      refine E_iload (v := x4_15_1) dX12_mostOfAll_37 rfl ?_
      refine E_icmp_le 51 dX12_mostOfAll_39 (by decide) (fun hc10 => ?_) (fun hc10 => ?_)
      · rw [if_pos hc10] at hf
        refine E_aload_n (v := 0) dX12_mostOfAll_51 rfl ?_
        refine E_iload_n (v := r2) dX12_mostOfAll_52 rfl ?_
        obtain ⟨r12, w13, hc11, hf⟩ := bd2_some hf
        try dsimp only at hf
        refine E_callVi (rest := []) (ci := 12) cv_RX12_288 dX12_mostOfAll_53 (MX12_nextOrder hc11) rfl sM_0 rfl (by decide) rfl rfl (fun _ => Nat.le_of_ble_eq_true rfl) ?_
        refine E_istore (ls' := [some (.ref 0), some (.int a0), none, some (.int r2), some (.int x4_15_1), some (.int r12), some (.int r9)]) dX12_mostOfAll_56 rfl rfl rfl ?_
        refine E_goto 15 dX12_mostOfAll_58 (by decide) ?_
        obtain rfl := Option.some.inj hf
        refine E.fewer (ls' := [some (.ref 0), some (.int a0), none, some (.int r2), some (.int x4_15_1), some (.int r12), none]) ⟨Or.inr rfl, ⟨Or.inr rfl, ⟨Or.inl rfl, ⟨Or.inr rfl, ⟨Or.inr rfl, ⟨Or.inr rfl, ⟨Or.inl rfl, trivial⟩⟩⟩⟩⟩⟩⟩ ?_
        exact k9
      · rw [if_neg hc10] at hf
        refine E_iload (v := r9) dX12_mostOfAll_42 rfl ?_
        refine E_istore (ls' := [some (.ref 0), some (.int a0), none, some (.int r2), some (.int r9), some (.int x5_15_1), some (.int r9)]) dX12_mostOfAll_44 rfl rfl rfl ?_
        refine E_aload_n (v := 0) dX12_mostOfAll_46 rfl ?_
        refine E_iload_n (v := r2) dX12_mostOfAll_47 rfl ?_
        obtain ⟨w16, hc15, hf⟩ := bd_some hf
        try dsimp only at hf
        refine E_callVv (rest := []) (ci := 12) cv_RX12_285 dX12_mostOfAll_48 (MX12_keepsOrder hc15) rfl sM_0 rfl (by decide) rfl rfl (fun _ => Nat.le_of_ble_eq_true rfl) ?_
        refine E_aload_n (v := 0) dX12_mostOfAll_51 rfl ?_
        refine E_iload_n (v := r2) dX12_mostOfAll_52 rfl ?_
        obtain ⟨r18, w19, hc17, hf⟩ := bd2_some hf
        try dsimp only at hf
        refine E_callVi (rest := []) (ci := 12) cv_RX12_288 dX12_mostOfAll_53 (MX12_nextOrder hc17) rfl sM_0 rfl (by decide) rfl rfl (fun _ => Nat.le_of_ble_eq_true rfl) ?_
        refine E_istore (ls' := [some (.ref 0), some (.int a0), none, some (.int r2), some (.int r9), some (.int r18), some (.int r9)]) dX12_mostOfAll_56 rfl rfl rfl ?_
        refine E_goto 15 dX12_mostOfAll_58 (by decide) ?_
        obtain rfl := Option.some.inj hf
        refine E.fewer (ls' := [some (.ref 0), some (.int a0), none, some (.int r2), some (.int r9), some (.int r18), none]) ⟨Or.inr rfl, ⟨Or.inr rfl, ⟨Or.inl rfl, ⟨Or.inr rfl, ⟨Or.inr rfl, ⟨Or.inr rfl, ⟨Or.inl rfl, trivial⟩⟩⟩⟩⟩⟩⟩ ?_
        exact k9
  · skip
    obtain ⟨y22, w23⟩ := q
    try dsimp only at hf
    show E PM RX12 cX12_mostOfAll 7 5 61 [none, none, none, none, some (.int y22), none, none] [] w23 Q
    refine E_iload (v := y22) dX12_mostOfAll_61 rfl ?_
    obtain ⟨rfl, rfl⟩ := ret2 hf
    exact E.done (by rw [eQ]; exact ⟨rfl, Or.inl ⟨_, _, rfl, rfl, dX12_mostOfAll_63, rfl, rfl⟩⟩)
set_option maxRecDepth 10000 in
set_option maxHeartbeats 2000000 in
theorem MX12_across {N : Nat} {a0 : Int32} {w : AW} {rZ : Int32} {wZ : AW} (hf : fX12_across N a0 w = some (rZ, wZ)) : CallOK PM yX12_across cX12_across 6 (some .int) 6 [.ref 0, .int a0] w (some (.int rZ)) wZ := by
  refine CallOK.of (ls := [some (.ref 0), some (.int a0), none, none, none, none]) (by decide) (by simp) rfl rfl ?_
  obtain ⟨Q, eQ⟩ : ∃ Q, Q = Qret cX12_across (some .int) (some (.int rZ)) wZ := ⟨_, rfl⟩
  rw [← eQ]
  unfold fX12_across at hf
  refine E_iload_n (v := a0) dX12_across_0 rfl ?_
  obtain ⟨r2, hc1, hf⟩ := bd_some hf
  try dsimp only at hf
  refine E_callSi (rest := []) cs_RX12_103 dX12_across_1 (MX12_isSide hc1) rfl rfl rfl (fun _ => Nat.le_of_ble_eq_true rfl) ?_
  refine E_if_ne 11 dX12_across_4 (by decide) (fun hc3 => ?_) (fun hc3 => ?_)
  · rw [if_pos hc3] at hf
    refine E_ldcw (-2147483648) dX12_across_7 wk_RX12_284 ?_
    obtain ⟨rfl, rfl⟩ := ret2 hf
    exact E.done (by rw [eQ]; exact ⟨rfl, Or.inl ⟨_, _, rfl, rfl, dX12_across_10, rfl, rfl⟩⟩)
  · rw [if_neg hc3] at hf
    refine E_bipush (-9) dX12_across_11 bp_m9 ?_
    refine E_istore_n (ls' := [some (.ref 0), some (.int a0), some (.int (-9)), none, none, none]) dX12_across_13 rfl rfl rfl ?_
    refine E_aload_n (v := 0) dX12_across_14 rfl ?_
    refine E_aload_n (v := 0) dX12_across_15 rfl ?_
    refine E_getI fg_RX12_96 dX12_across_16 sM_0 rfl ?_
    refine E_iconst (-1) dX12_across_19 ic_m1 ?_
    obtain ⟨r5, w6, hc4, hf⟩ := bd2_some hf
    try dsimp only at hf
    refine E_callVi (rest := []) (ci := 12) cv_RX12_297 dX12_across_20 (MX12_mostOfAll hc4) rfl sM_0 rfl (by decide) rfl rfl (fun _ => Nat.le_of_ble_eq_true rfl) ?_
    refine E_istore_n (ls' := [some (.ref 0), some (.int a0), some (.int (-9)), some (.int r5), none, none]) dX12_across_23 rfl rfl rfl ?_
    refine E_iconst 0 dX12_across_24 ic_0 ?_
    refine E_istore (ls' := [some (.ref 0), some (.int a0), some (.int (-9)), some (.int r5), some (.int 0), none]) dX12_across_25 rfl rfl rfl ?_
    obtain ⟨q, hw18, hf⟩ := bd_some hf
    try dsimp only at hf
    show (fun (s : Int32 × Int32 × Int32 × AW) => E PM RX12 cX12_across 6 6 27 [some (.ref 0), some (.int a0), some (.int s.1), some (.int s.2.1), some (.int s.2.2.1), none] [] s.2.2.2 Q) ((-9), r5, 0, w6)
    refine wh_E (K := (fun (s : Int32 × Int32 × Int32 × AW) => E PM RX12 cX12_across 6 6 27 [some (.ref 0), some (.int a0), some (.int s.1), some (.int s.2.1), some (.int s.2.2.1), none] [] s.2.2.2 Q)) (X := (fun (s : Int32 × Int32 × AW) => E PM RX12 cX12_across 6 6 90 [none, some (.int a0), some (.int s.1), some (.int s.2.1), none, none] [] s.2.2 Q)) ?_ hw18 ?_
    · intro s9 z9 hf k9
      obtain ⟨x2_27_1, x3_27_1, x4_27_1, w_27_1⟩ := s9
      dsimp only [lbX12_across_27_1] at hf
      show E PM RX12 cX12_across 6 6 27 [some (.ref 0), some (.int a0), some (.int x2_27_1), some (.int x3_27_1), some (.int x4_27_1), none] [] w_27_1 Q
      refine E_iload (v := x4_27_1) dX12_across_27 rfl ?_
      refine E_aload_n (v := 0) dX12_across_29 rfl ?_
      refine E_getI fg_RX12_96 dX12_across_30 sM_0 rfl ?_
      refine E_icmp_ge 90 dX12_across_33 (by decide) (fun hc8 => ?_) (fun hc8 => ?_)
      · rw [if_pos hc8] at hf
        obtain rfl := Option.some.inj hf
        refine E.fewer (ls' := [none, some (.int a0), some (.int x2_27_1), some (.int x3_27_1), none, none]) ⟨Or.inl rfl, ⟨Or.inr rfl, ⟨Or.inr rfl, ⟨Or.inr rfl, ⟨Or.inl rfl, ⟨Or.inl rfl, trivial⟩⟩⟩⟩⟩⟩ ?_
        exact k9
      · rw [if_neg hc8] at hf
        refine E_aload_n (v := 0) dX12_across_36 rfl ?_
        refine E_aload_n (v := 0) dX12_across_37 rfl ?_
        refine E_getI fg_RX12_96 dX12_across_38 sM_0 rfl ?_
        refine E_iload (v := x4_27_1) dX12_across_41 rfl ?_
        obtain ⟨r10, w11, hc9, hf⟩ := bd2_some hf
        try dsimp only at hf
        refine E_callVi (rest := []) (ci := 12) cv_RX12_297 dX12_across_43 (MX12_mostOfAll hc9) rfl sM_0 rfl (by decide) rfl rfl (fun _ => Nat.le_of_ble_eq_true rfl) ?_
        refine E_aload_n (v := 0) dX12_across_46 rfl ?_
        refine E_iload (v := x4_27_1) dX12_across_47 rfl ?_
        refine E_iconst 4 dX12_across_49 ic_4 ?_
        obtain ⟨r14, hc13, hf⟩ := bd_some hf
        try dsimp only at hf
        refine E_callVi (rest := [.int r10]) (ci := 12) cv_RX12_242 dX12_across_50 (MX12_its hc13) rfl sM_0 rfl (by decide) rfl rfl (fun _ => Nat.le_of_ble_eq_true rfl) ?_
        refine E_iconst 2 dX12_across_53 ic_2 ?_
        refine E_idiv dX12_across_54 (by decide) ?_
        refine E_iadd dX12_across_55 ?_
        refine E_istore (ls' := [some (.ref 0), some (.int a0), some (.int x2_27_1), some (.int x3_27_1), some (.int x4_27_1), some (.int (r10 + (r14 / 2)))]) dX12_across_56 rfl rfl rfl ?_
        refine E_iload (v := (r10 + (r14 / 2))) dX12_across_58 rfl ?_
        refine E_iload_n (v := x3_27_1) dX12_across_60 rfl ?_
        refine E_icmp_le 69 dX12_across_61 (by decide) (fun hc15 => ?_) (fun hc15 => ?_)
        · rw [if_pos hc15] at hf
          refine E_iload_n (v := x2_27_1) dX12_across_69 rfl ?_
          refine E_istore_n (ls' := [some (.ref 0), some (.int a0), some (.int x2_27_1), some (.int x3_27_1), some (.int x4_27_1), some (.int (r10 + (r14 / 2)))]) dX12_across_70 rfl rfl rfl ?_
          refine E_iload (v := (r10 + (r14 / 2))) dX12_across_71 rfl ?_
          refine E_iload_n (v := x3_27_1) dX12_across_73 rfl ?_
          refine E_icmp_le 82 dX12_across_74 (by decide) (fun hc16 => ?_) (fun hc16 => ?_)
          · rw [if_pos hc16] at hf
            refine E_iload_n (v := x3_27_1) dX12_across_82 rfl ?_
            refine E_istore_n (ls' := [some (.ref 0), some (.int a0), some (.int x2_27_1), some (.int x3_27_1), some (.int x4_27_1), some (.int (r10 + (r14 / 2)))]) dX12_across_83 rfl rfl rfl ?_
            refine E_iinc (ls' := [some (.ref 0), some (.int a0), some (.int x2_27_1), some (.int x3_27_1), some (.int (x4_27_1 + 1)), some (.int (r10 + (r14 / 2)))]) 1 dX12_across_84 rfl ic_1 rfl rfl rfl ?_
            refine E_goto 27 dX12_across_87 (by decide) ?_
            obtain rfl := Option.some.inj hf
            refine E.fewer (ls' := [some (.ref 0), some (.int a0), some (.int x2_27_1), some (.int x3_27_1), some (.int (x4_27_1 + 1)), none]) ⟨Or.inr rfl, ⟨Or.inr rfl, ⟨Or.inr rfl, ⟨Or.inr rfl, ⟨Or.inr rfl, ⟨Or.inl rfl, trivial⟩⟩⟩⟩⟩⟩ ?_
            exact k9
          · rw [if_neg hc16] at hf
            refine E_iload (v := (r10 + (r14 / 2))) dX12_across_77 rfl ?_
            refine E_goto 83 dX12_across_79 (by decide) ?_
            refine E_istore_n (ls' := [some (.ref 0), some (.int a0), some (.int x2_27_1), some (.int (r10 + (r14 / 2))), some (.int x4_27_1), some (.int (r10 + (r14 / 2)))]) dX12_across_83 rfl rfl rfl ?_
            refine E_iinc (ls' := [some (.ref 0), some (.int a0), some (.int x2_27_1), some (.int (r10 + (r14 / 2))), some (.int (x4_27_1 + 1)), some (.int (r10 + (r14 / 2)))]) 1 dX12_across_84 rfl ic_1 rfl rfl rfl ?_
            refine E_goto 27 dX12_across_87 (by decide) ?_
            obtain rfl := Option.some.inj hf
            refine E.fewer (ls' := [some (.ref 0), some (.int a0), some (.int x2_27_1), some (.int (r10 + (r14 / 2))), some (.int (x4_27_1 + 1)), none]) ⟨Or.inr rfl, ⟨Or.inr rfl, ⟨Or.inr rfl, ⟨Or.inr rfl, ⟨Or.inr rfl, ⟨Or.inl rfl, trivial⟩⟩⟩⟩⟩⟩ ?_
            exact k9
        · rw [if_neg hc15] at hf
          refine E_iload (v := x4_27_1) dX12_across_64 rfl ?_
          refine E_goto 70 dX12_across_66 (by decide) ?_
          refine E_istore_n (ls' := [some (.ref 0), some (.int a0), some (.int x4_27_1), some (.int x3_27_1), some (.int x4_27_1), some (.int (r10 + (r14 / 2)))]) dX12_across_70 rfl rfl rfl ?_
          refine E_iload (v := (r10 + (r14 / 2))) dX12_across_71 rfl ?_
          refine E_iload_n (v := x3_27_1) dX12_across_73 rfl ?_
          refine E_icmp_le 82 dX12_across_74 (by decide) (fun hc17 => ?_) (fun hc17 => ?_)
          · rw [if_pos hc17] at hf
            refine E_iload_n (v := x3_27_1) dX12_across_82 rfl ?_
            refine E_istore_n (ls' := [some (.ref 0), some (.int a0), some (.int x4_27_1), some (.int x3_27_1), some (.int x4_27_1), some (.int (r10 + (r14 / 2)))]) dX12_across_83 rfl rfl rfl ?_
            refine E_iinc (ls' := [some (.ref 0), some (.int a0), some (.int x4_27_1), some (.int x3_27_1), some (.int (x4_27_1 + 1)), some (.int (r10 + (r14 / 2)))]) 1 dX12_across_84 rfl ic_1 rfl rfl rfl ?_
            refine E_goto 27 dX12_across_87 (by decide) ?_
            obtain rfl := Option.some.inj hf
            refine E.fewer (ls' := [some (.ref 0), some (.int a0), some (.int x4_27_1), some (.int x3_27_1), some (.int (x4_27_1 + 1)), none]) ⟨Or.inr rfl, ⟨Or.inr rfl, ⟨Or.inr rfl, ⟨Or.inr rfl, ⟨Or.inr rfl, ⟨Or.inl rfl, trivial⟩⟩⟩⟩⟩⟩ ?_
            exact k9
          · rw [if_neg hc17] at hf
            refine E_iload (v := (r10 + (r14 / 2))) dX12_across_77 rfl ?_
            refine E_goto 83 dX12_across_79 (by decide) ?_
            refine E_istore_n (ls' := [some (.ref 0), some (.int a0), some (.int x4_27_1), some (.int (r10 + (r14 / 2))), some (.int x4_27_1), some (.int (r10 + (r14 / 2)))]) dX12_across_83 rfl rfl rfl ?_
            refine E_iinc (ls' := [some (.ref 0), some (.int a0), some (.int x4_27_1), some (.int (r10 + (r14 / 2))), some (.int (x4_27_1 + 1)), some (.int (r10 + (r14 / 2)))]) 1 dX12_across_84 rfl ic_1 rfl rfl rfl ?_
            refine E_goto 27 dX12_across_87 (by decide) ?_
            obtain rfl := Option.some.inj hf
            refine E.fewer (ls' := [some (.ref 0), some (.int a0), some (.int x4_27_1), some (.int (r10 + (r14 / 2))), some (.int (x4_27_1 + 1)), none]) ⟨Or.inr rfl, ⟨Or.inr rfl, ⟨Or.inr rfl, ⟨Or.inr rfl, ⟨Or.inr rfl, ⟨Or.inl rfl, trivial⟩⟩⟩⟩⟩⟩ ?_
            exact k9
    · skip
      obtain ⟨y19, y20, w21⟩ := q
      try dsimp only at hf
      show E PM RX12 cX12_across 6 6 90 [none, some (.int a0), some (.int y19), some (.int y20), none, none] [] w21 Q
      refine E_iload_n (v := a0) dX12_across_90 rfl ?_
      refine E_if_ne 98 dX12_across_91 (by decide) (fun hc22 => ?_) (fun hc22 => ?_)
      · rw [if_pos hc22] at hf
        refine E_iload_n (v := y19) dX12_across_94 rfl ?_
        refine E_goto 99 dX12_across_95 (by decide) ?_
        obtain ⟨rfl, rfl⟩ := ret2 hf
        exact E.done (by rw [eQ]; exact ⟨rfl, Or.inl ⟨_, _, rfl, rfl, dX12_across_99, rfl, rfl⟩⟩)
      · rw [if_neg hc22] at hf
        refine E_iload_n (v := y20) dX12_across_98 rfl ?_
        obtain ⟨rfl, rfl⟩ := ret2 hf
        exact E.done (by rw [eQ]; exact ⟨rfl, Or.inl ⟨_, _, rfl, rfl, dX12_across_99, rfl, rfl⟩⟩)
