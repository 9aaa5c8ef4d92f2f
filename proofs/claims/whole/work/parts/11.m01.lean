set_option maxRecDepth 10000 in
set_option maxHeartbeats 2000000 in
theorem BX9_tells_28 (p1_28 : Int32) (w : AW) (rZ : Int32) (wZ : AW) {Q : Nat → List (Option Value) → List Value → AW → Prop} (eQ : Q = Qret cX9_tells (some .int) (some (.int rZ)) wZ) (hf : bX9_tells_28 p1_28 w = some (rZ, wZ)) : E PC RX9 cX9_tells 3 5 28 [some (.ref 74), some (.int p1_28), none] [] w Q := by
  unfold bX9_tells_28 at hf
  refine E_aload_n (v := 74) dX9_tells_28 rfl ?_
  refine E_bipush 13 dX9_tells_29 bp_13 ?_
  obtain ⟨w8, hc7, hf⟩ := bd_some hf
  try dsimp only at hf
  refine E_callVv (rest := []) (ci := 9) cv_RX9_53 dX9_tells_31 (MX9_runs hc7) rfl sC_74 rfl (by decide) rfl rfl (fun _ => Nat.le_of_ble_eq_true rfl) ?_
  refine E_aload_n (v := 74) dX9_tells_34 rfl ?_
  refine E_iload_n (v := p1_28) dX9_tells_35 rfl ?_
  obtain ⟨r10, w11, hc9, hf⟩ := bd2_some hf
  try dsimp only at hf
  refine E_callVi (rest := []) (ci := 9) cv_RX9_36 dX9_tells_36 (MX9_sets hc9) rfl sC_74 rfl (by decide) rfl rfl (fun _ => Nat.le_of_ble_eq_true rfl) ?_
  refine E_aload_n (v := 74) dX9_tells_39 rfl ?_
  refine E_getI fg_RX9_18 dX9_tells_40 sC_74 rfl ?_
  refine E_ixor dX9_tells_43 ?_
  refine E_istore_n (ls' := [some (.ref 74), some (.int p1_28), some (.int (r10 ^^^ (w11.1 74 2)))]) dX9_tells_44 rfl rfl rfl ?_
  refine E_aload_n (v := 74) dX9_tells_45 rfl ?_
  refine E_iconst 2 dX9_tells_46 ic_2 ?_
  obtain ⟨r14, hc13, hf⟩ := bd_some hf
  try dsimp only at hf
  refine E_callVi (rest := []) (ci := 9) cv_RX9_49 dX9_tells_47 (MX9_is hc13) rfl sC_74 rfl (by decide) rfl rfl (fun _ => Nat.le_of_ble_eq_true rfl) ?_
  refine E_if_eq 64 dX9_tells_50 (by decide) (fun hc15 => ?_) (fun hc15 => ?_)
  · rw [if_pos hc15] at hf
    refine E_aload_n (v := 74) dX9_tells_64 rfl ?_
    refine E_iconst 5 dX9_tells_65 ic_5 ?_
    obtain ⟨r17, hc16, hf⟩ := bd_some hf
    try dsimp only at hf
    refine E_callVi (rest := []) (ci := 9) cv_RX9_49 dX9_tells_66 (MX9_is hc16) rfl sC_74 rfl (by decide) rfl rfl (fun _ => Nat.le_of_ble_eq_true rfl) ?_
    refine E_if_eq 78 dX9_tells_69 (by decide) (fun hc18 => ?_) (fun hc18 => ?_)
    · rw [if_pos hc18] at hf
      refine E_iload_n (v := (r10 ^^^ (w11.1 74 2))) dX9_tells_78 rfl ?_
      obtain ⟨rfl, rfl⟩ := ret2 hf
      exact E.done (by rw [eQ]; exact ⟨rfl, Or.inl ⟨_, _, rfl, rfl, dX9_tells_79, rfl, rfl⟩⟩)
    · rw [if_neg hc18] at hf
      refine E_iload_n (v := (r10 ^^^ (w11.1 74 2))) dX9_tells_72 rfl ?_
      refine E_iconst 2 dX9_tells_73 ic_2 ?_
      refine E_imul dX9_tells_74 ?_
      refine E_goto 79 dX9_tells_75 (by decide) ?_
      obtain ⟨rfl, rfl⟩ := ret2 hf
      exact E.done (by rw [eQ]; exact ⟨rfl, Or.inl ⟨_, _, rfl, rfl, dX9_tells_79, rfl, rfl⟩⟩)
  · rw [if_neg hc15] at hf
    refine E_iload_n (v := (r10 ^^^ (w11.1 74 2))) dX9_tells_53 rfl ?_
    refine E_aload_n (v := 74) dX9_tells_54 rfl ?_
    refine E_aload_n (v := 74) dX9_tells_55 rfl ?_
    refine E_getI fg_RX9_15 dX9_tells_56 sC_74 rfl ?_
    obtain ⟨r20, w21, hc19, hf⟩ := bd2_some hf
    try dsimp only at hf
    refine E_callVi (rest := [.int (r10 ^^^ (w11.1 74 2))]) (ci := 9) cv_RX9_39 dX9_tells_59 (MX9_shares hc19) rfl sC_74 rfl (by decide) rfl rfl (fun _ => Nat.le_of_ble_eq_true rfl) ?_
    refine E_iadd dX9_tells_62 ?_
    refine E_istore_n (ls' := [some (.ref 74), some (.int p1_28), some (.int ((r10 ^^^ (w11.1 74 2)) + r20))]) dX9_tells_63 rfl rfl rfl ?_
    refine E_aload_n (v := 74) dX9_tells_64 rfl ?_
    refine E_iconst 5 dX9_tells_65 ic_5 ?_
    obtain ⟨r24, hc23, hf⟩ := bd_some hf
    try dsimp only at hf
    refine E_callVi (rest := []) (ci := 9) cv_RX9_49 dX9_tells_66 (MX9_is hc23) rfl sC_74 rfl (by decide) rfl rfl (fun _ => Nat.le_of_ble_eq_true rfl) ?_
    refine E_if_eq 78 dX9_tells_69 (by decide) (fun hc25 => ?_) (fun hc25 => ?_)
    · rw [if_pos hc25] at hf
      refine E_iload_n (v := ((r10 ^^^ (w11.1 74 2)) + r20)) dX9_tells_78 rfl ?_
      obtain ⟨rfl, rfl⟩ := ret2 hf
      exact E.done (by rw [eQ]; exact ⟨rfl, Or.inl ⟨_, _, rfl, rfl, dX9_tells_79, rfl, rfl⟩⟩)
    · rw [if_neg hc25] at hf
      refine E_iload_n (v := ((r10 ^^^ (w11.1 74 2)) + r20)) dX9_tells_72 rfl ?_
      refine E_iconst 2 dX9_tells_73 ic_2 ?_
      refine E_imul dX9_tells_74 ?_
      refine E_goto 79 dX9_tells_75 (by decide) ?_
      obtain ⟨rfl, rfl⟩ := ret2 hf
      exact E.done (by rw [eQ]; exact ⟨rfl, Or.inl ⟨_, _, rfl, rfl, dX9_tells_79, rfl, rfl⟩⟩)
set_option maxRecDepth 10000 in
set_option maxHeartbeats 2000000 in
theorem BX9_tells_14 (p1_14 : Int32) (w : AW) (rZ : Int32) (wZ : AW) {Q : Nat → List (Option Value) → List Value → AW → Prop} (eQ : Q = Qret cX9_tells (some .int) (some (.int rZ)) wZ) (hf : bX9_tells_14 p1_14 w = some (rZ, wZ)) : E PC RX9 cX9_tells 3 5 14 [some (.ref 74), some (.int p1_14), none] [] w Q := by
  unfold bX9_tells_14 at hf
  refine E_aload_n (v := 74) dX9_tells_14 rfl ?_
  refine E_iconst 5 dX9_tells_15 ic_5 ?_
  obtain ⟨r5, hc4, hf⟩ := bd_some hf
  try dsimp only at hf
  refine E_callVi (rest := []) (ci := 9) cv_RX9_49 dX9_tells_16 (MX9_is hc4) rfl sC_74 rfl (by decide) rfl rfl (fun _ => Nat.le_of_ble_eq_true rfl) ?_
  refine E_if_eq 28 dX9_tells_19 (by decide) (fun hc6 => ?_) (fun hc6 => ?_)
  · rw [if_pos hc6] at hf
    exact BX9_tells_28 p1_14 w  rZ wZ eQ hf
  · rw [if_neg hc6] at hf
    refine E_aload_n (v := 74) dX9_tells_22 rfl ?_
    refine E_bipush 60 dX9_tells_23 bp_60 ?_
    obtain ⟨w27, hc26, hf⟩ := bd_some hf
    try dsimp only at hf
    refine E_callVv (rest := []) (ci := 9) cv_RX9_53 dX9_tells_25 (MX9_runs hc26) rfl sC_74 rfl (by decide) rfl rfl (fun _ => Nat.le_of_ble_eq_true rfl) ?_
    exact BX9_tells_28 p1_14 w27  rZ wZ eQ hf
set_option maxRecDepth 10000 in
set_option maxHeartbeats 2000000 in
theorem MX9_tells {a0 : Int32} {w : AW} {rZ : Int32} {wZ : AW} (hf : fX9_tells a0 w = some (rZ, wZ)) : CallOK PC yX9_tells cX9_tells 3 (some .int) 5 [.ref 74, .int a0] w (some (.int rZ)) wZ := by
  refine CallOK.of (ls := [some (.ref 74), some (.int a0), none]) (by decide) (by simp) rfl rfl ?_
  obtain ⟨Q, eQ⟩ : ∃ Q, Q = Qret cX9_tells (some .int) (some (.int rZ)) wZ := ⟨_, rfl⟩
  rw [← eQ]
  unfold fX9_tells at hf
  refine E_aload_n (v := 74) dX9_tells_0 rfl ?_
  refine E_iconst 2 dX9_tells_1 ic_2 ?_
  obtain ⟨r2, hc1, hf⟩ := bd_some hf
  try dsimp only at hf
  refine E_callVi (rest := []) (ci := 9) cv_RX9_49 dX9_tells_2 (MX9_is hc1) rfl sC_74 rfl (by decide) rfl rfl (fun _ => Nat.le_of_ble_eq_true rfl) ?_
  refine E_if_eq 14 dX9_tells_5 (by decide) (fun hc3 => ?_) (fun hc3 => ?_)
  · rw [if_pos hc3] at hf
    exact BX9_tells_14 a0 w  rZ wZ eQ hf
  · rw [if_neg hc3] at hf
    refine E_aload_n (v := 74) dX9_tells_8 rfl ?_
    refine E_bipush 31 dX9_tells_9 bp_31 ?_
    obtain ⟨w29, hc28, hf⟩ := bd_some hf
    try dsimp only at hf
    refine E_callVv (rest := []) (ci := 9) cv_RX9_53 dX9_tells_11 (MX9_runs hc28) rfl sC_74 rfl (by decide) rfl rfl (fun _ => Nat.le_of_ble_eq_true rfl) ?_
    exact BX9_tells_14 a0 w29  rZ wZ eQ hf
set_option maxRecDepth 10000 in
set_option maxHeartbeats 2000000 in
theorem MX9_perform {a0 : Int32} {a1 : Int32} {w : AW} {rZ : Int32} {wZ : AW} (hf : fX9_perform a0 a1 w = some (rZ, wZ)) : CallOK PC yX9_perform cX9_perform 4 (some .int) 6 [.ref 74, .int a0, .int a1] w (some (.int rZ)) wZ := by
  refine CallOK.of (ls := [some (.ref 74), some (.int a0), some (.int a1), none]) (by decide) (by simp) rfl rfl ?_
  obtain ⟨Q, eQ⟩ : ∃ Q, Q = Qret cX9_perform (some .int) (some (.int rZ)) wZ := ⟨_, rfl⟩
  rw [← eQ]
  unfold fX9_perform at hf
  refine E_iconst 0 dX9_perform_0 ic_0 ?_
  refine E_istore_n (ls' := [some (.ref 74), some (.int a0), some (.int a1), some (.int 0)]) dX9_perform_1 rfl rfl rfl ?_
  refine E_iload_n (v := a0) dX9_perform_2 rfl ?_
  by_cases hc1 : a0 = 0
  · rw [if_pos hc1] at hf
    refine E_tableIn 28 dX9_perform_3 (by rw [hc1]; decide) (by rw [hc1]; decide) (by rw [hc1]; rfl) (by decide) ?_
    refine E_aload_n (v := 74) dX9_perform_28 rfl ?_
    refine E_iload_n (v := a1) dX9_perform_29 rfl ?_
    obtain ⟨r3, w4, hc2, hf⟩ := bd2_some hf
    try dsimp only at hf
    refine E_callVi (rest := []) (ci := 9) cv_RX9_32 dX9_perform_30 (MX9_prints hc2) rfl sC_74 rfl (by decide) rfl rfl (fun _ => Nat.le_of_ble_eq_true rfl) ?_
    refine E_istore_n (ls' := [some (.ref 74), some (.int a0), some (.int a1), some (.int r3)]) dX9_perform_33 rfl rfl rfl ?_
    refine E_goto 61 dX9_perform_34 (by decide) ?_
    refine E_aload_n (v := 74) dX9_perform_61 rfl ?_
    refine E_getI fg_RX9_21 dX9_perform_62 sC_74 rfl ?_
    refine E_if_eq 73 dX9_perform_65 (by decide) (fun hc6 => ?_) (fun hc6 => ?_)
    · rw [if_pos hc6] at hf
      refine E_iload_n (v := r3) dX9_perform_73 rfl ?_
      obtain ⟨rfl, rfl⟩ := ret2 hf
      exact E.done (by rw [eQ]; exact ⟨rfl, Or.inl ⟨_, _, rfl, rfl, dX9_perform_74, rfl, rfl⟩⟩)
    · rw [if_neg hc6] at hf
      refine E_bipush (-15) dX9_perform_68 bp_m15 ?_
      refine E_goto 74 dX9_perform_70 (by decide) ?_
      obtain ⟨rfl, rfl⟩ := ret2 hf
      exact E.done (by rw [eQ]; exact ⟨rfl, Or.inl ⟨_, _, rfl, rfl, dX9_perform_74, rfl, rfl⟩⟩)
  · rw [if_neg hc1] at hf
    by_cases hc7 : a0 = 1
    · rw [if_pos hc7] at hf
      refine E_tableIn 37 dX9_perform_3 (by rw [hc7]; decide) (by rw [hc7]; decide) (by rw [hc7]; rfl) (by decide) ?_
      refine E_aload_n (v := 74) dX9_perform_37 rfl ?_
      refine E_iload_n (v := a1) dX9_perform_38 rfl ?_
      obtain ⟨r9, w10, hc8, hf⟩ := bd2_some hf
      try dsimp only at hf
      refine E_callVi (rest := []) (ci := 9) cv_RX9_36 dX9_perform_39 (MX9_sets hc8) rfl sC_74 rfl (by decide) rfl rfl (fun _ => Nat.le_of_ble_eq_true rfl) ?_
      refine E_istore_n (ls' := [some (.ref 74), some (.int a0), some (.int a1), some (.int r9)]) dX9_perform_42 rfl rfl rfl ?_
      refine E_goto 61 dX9_perform_43 (by decide) ?_
      refine E_aload_n (v := 74) dX9_perform_61 rfl ?_
      refine E_getI fg_RX9_21 dX9_perform_62 sC_74 rfl ?_
      refine E_if_eq 73 dX9_perform_65 (by decide) (fun hc12 => ?_) (fun hc12 => ?_)
      · rw [if_pos hc12] at hf
        refine E_iload_n (v := r9) dX9_perform_73 rfl ?_
        obtain ⟨rfl, rfl⟩ := ret2 hf
        exact E.done (by rw [eQ]; exact ⟨rfl, Or.inl ⟨_, _, rfl, rfl, dX9_perform_74, rfl, rfl⟩⟩)
      · rw [if_neg hc12] at hf
        refine E_bipush (-15) dX9_perform_68 bp_m15 ?_
        refine E_goto 74 dX9_perform_70 (by decide) ?_
        obtain ⟨rfl, rfl⟩ := ret2 hf
        exact E.done (by rw [eQ]; exact ⟨rfl, Or.inl ⟨_, _, rfl, rfl, dX9_perform_74, rfl, rfl⟩⟩)
    · rw [if_neg hc7] at hf
      by_cases hc13 : a0 = 2
      · rw [if_pos hc13] at hf
        refine E_tableIn 46 dX9_perform_3 (by rw [hc13]; decide) (by rw [hc13]; decide) (by rw [hc13]; rfl) (by decide) ?_
        refine E_aload_n (v := 74) dX9_perform_46 rfl ?_
        refine E_iload_n (v := a1) dX9_perform_47 rfl ?_
        obtain ⟨r15, w16, hc14, hf⟩ := bd2_some hf
        try dsimp only at hf
        refine E_callVi (rest := []) (ci := 9) cv_RX9_39 dX9_perform_48 (MX9_shares hc14) rfl sC_74 rfl (by decide) rfl rfl (fun _ => Nat.le_of_ble_eq_true rfl) ?_
        refine E_istore_n (ls' := [some (.ref 74), some (.int a0), some (.int a1), some (.int r15)]) dX9_perform_51 rfl rfl rfl ?_
        refine E_goto 61 dX9_perform_52 (by decide) ?_
        refine E_aload_n (v := 74) dX9_perform_61 rfl ?_
        refine E_getI fg_RX9_21 dX9_perform_62 sC_74 rfl ?_
        refine E_if_eq 73 dX9_perform_65 (by decide) (fun hc18 => ?_) (fun hc18 => ?_)
        · rw [if_pos hc18] at hf
          refine E_iload_n (v := r15) dX9_perform_73 rfl ?_
          obtain ⟨rfl, rfl⟩ := ret2 hf
          exact E.done (by rw [eQ]; exact ⟨rfl, Or.inl ⟨_, _, rfl, rfl, dX9_perform_74, rfl, rfl⟩⟩)
        · rw [if_neg hc18] at hf
          refine E_bipush (-15) dX9_perform_68 bp_m15 ?_
          refine E_goto 74 dX9_perform_70 (by decide) ?_
          obtain ⟨rfl, rfl⟩ := ret2 hf
          exact E.done (by rw [eQ]; exact ⟨rfl, Or.inl ⟨_, _, rfl, rfl, dX9_perform_74, rfl, rfl⟩⟩)
      · rw [if_neg hc13] at hf
        refine E_tableOut 55 dX9_perform_3 (tb_0_2 hc1 hc7 hc13) (by decide) ?_
        refine E_aload_n (v := 74) dX9_perform_55 rfl ?_
        refine E_iload_n (v := a1) dX9_perform_56 rfl ?_
        obtain ⟨r20, w21, hc19, hf⟩ := bd2_some hf
        try dsimp only at hf
        refine E_callVi (rest := []) (ci := 9) cv_RX9_42 dX9_perform_57 (MX9_tells hc19) rfl sC_74 rfl (by decide) rfl rfl (fun _ => Nat.le_of_ble_eq_true rfl) ?_
        refine E_istore_n (ls' := [some (.ref 74), some (.int a0), some (.int a1), some (.int r20)]) dX9_perform_60 rfl rfl rfl ?_
        refine E_aload_n (v := 74) dX9_perform_61 rfl ?_
        refine E_getI fg_RX9_21 dX9_perform_62 sC_74 rfl ?_
        refine E_if_eq 73 dX9_perform_65 (by decide) (fun hc23 => ?_) (fun hc23 => ?_)
        · rw [if_pos hc23] at hf
          refine E_iload_n (v := r20) dX9_perform_73 rfl ?_
          obtain ⟨rfl, rfl⟩ := ret2 hf
          exact E.done (by rw [eQ]; exact ⟨rfl, Or.inl ⟨_, _, rfl, rfl, dX9_perform_74, rfl, rfl⟩⟩)
        · rw [if_neg hc23] at hf
          refine E_bipush (-15) dX9_perform_68 bp_m15 ?_
          refine E_goto 74 dX9_perform_70 (by decide) ?_
          obtain ⟨rfl, rfl⟩ := ret2 hf
          exact E.done (by rw [eQ]; exact ⟨rfl, Or.inl ⟨_, _, rfl, rfl, dX9_perform_74, rfl, rfl⟩⟩)
set_option maxRecDepth 10000 in
set_option maxHeartbeats 2000000 in
theorem MX11_act {a0 : Int32} {a1 : Int32} {a2 : Int32} {w : AW} {rZ : Int32} {wZ : AW} (hf : fX11_act a0 a1 a2 w = some (rZ, wZ)) : CallOK PC yX11_act cX11_act 5 (some .int) 7 [.ref 0, .int a0, .int a1, .int a2] w (some (.int rZ)) wZ := by
  refine CallOK.of (ls := [some (.ref 0), some (.int a0), some (.int a1), some (.int a2), none]) (by decide) (by simp) rfl rfl ?_
  obtain ⟨Q, eQ⟩ : ∃ Q, Q = Qret cX11_act (some .int) (some (.int rZ)) wZ := ⟨_, rfl⟩
  rw [← eQ]
  unfold fX11_act at hf
  refine E_aload_n (v := 0) dX11_act_0 rfl ?_
  refine E_getR fg_RX11_96 dX11_act_1 sC_0 rfl rC_0_13 (Nat.succ_ne_zero _) ?_
  obtain ⟨w2, hc1, hf⟩ := bd_some hf
  try dsimp only at hf
  refine E_callVv (rest := []) (ci := 9) cv_RX11_344 dX11_act_4 (MX9_forget hc1) rfl sC_74 rfl (by decide) rfl rfl (fun _ => Nat.le_of_ble_eq_true rfl) ?_
  refine E_iload_n (v := a0) dX11_act_7 rfl ?_
  obtain ⟨r4, hc3, hf⟩ := bd_some hf
  try dsimp only at hf
  refine E_callSi (rest := []) cs_RX11_299 dX11_act_8 (MX7_isPlace hc3) rfl rfl rfl (fun _ => Nat.le_of_ble_eq_true rfl) ?_
  refine E_if_eq 23 dX11_act_11 (by decide) (fun hc5 => ?_) (fun hc5 => ?_)
  · rw [if_pos hc5] at hf
    refine E_iconst 0 dX11_act_23 ic_0 ?_
    obtain ⟨rfl, rfl⟩ := ret2 hf
    exact E.done (by rw [eQ]; exact ⟨rfl, Or.inl ⟨_, _, rfl, rfl, dX11_act_24, rfl, rfl⟩⟩)
  · rw [if_neg hc5] at hf
    refine E_iload_n (v := a1) dX11_act_14 rfl ?_
    refine E_iconst 0 dX11_act_15 ic_0 ?_
    refine E_iconst 3 dX11_act_16 ic_3 ?_
    obtain ⟨r7, hc6, hf⟩ := bd_some hf
    try dsimp only at hf
    refine E_callSi (rest := []) cs_RX11_100 dX11_act_17 (MX11_within hc6) rfl rfl rfl (fun _ => Nat.le_of_ble_eq_true rfl) ?_
    refine E_if_ne 25 dX11_act_20 (by decide) (fun hc8 => ?_) (fun hc8 => ?_)
    · rw [if_pos hc8] at hf
      refine E_iconst 0 dX11_act_23 ic_0 ?_
      obtain ⟨rfl, rfl⟩ := ret2 hf
      exact E.done (by rw [eQ]; exact ⟨rfl, Or.inl ⟨_, _, rfl, rfl, dX11_act_24, rfl, rfl⟩⟩)
    · rw [if_neg hc8] at hf
      refine E_aload_n (v := 0) dX11_act_25 rfl ?_
      refine E_getR fg_RX11_89 dX11_act_26 sC_0 rfl rC_0_12 (Nat.succ_ne_zero _) ?_
      refine E_iload_n (v := a0) dX11_act_29 rfl ?_
      obtain ⟨r10, hc9, hf⟩ := bd_some hf
      try dsimp only at hf
      refine E_callVi (rest := []) (ci := 7) cv_RX11_329 dX11_act_30 (MX7_jobOn hc9) rfl sC_67 rfl (by decide) rfl rfl (fun _ => Nat.le_of_ble_eq_true rfl) ?_
      refine E_istore (ls' := [some (.ref 0), some (.int a0), some (.int a1), some (.int a2), some (.int r10)]) dX11_act_33 rfl rfl rfl ?_
      refine E_aload_n (v := 0) dX11_act_35 rfl ?_
      refine E_getR fg_RX11_10 dX11_act_36 sC_0 rfl rC_0_0 (Nat.succ_ne_zero _) ?_
      refine E_getR fg_RX11_130 dX11_act_39 sC_1 rfl rC_1_0 (Nat.succ_ne_zero _) ?_
      refine E_iload (v := r10) dX11_act_42 rfl ?_
      obtain ⟨r12, hc11, hf⟩ := bd_some hf
      try dsimp only at hf
      refine E_callVi (rest := []) (ci := 4) cv_RX11_140 dX11_act_44 (MX4_has J_is2 hc11) rfl sC_2 rfl (by decide) rfl rfl (fun _ => Nat.le_of_ble_eq_true rfl) ?_
      refine E_if_ne 52 dX11_act_47 (by decide) (fun hc13 => ?_) (fun hc13 => ?_)
      · rw [if_pos hc13] at hf
        refine E_iconst 0 dX11_act_50 ic_0 ?_
        obtain ⟨rfl, rfl⟩ := ret2 hf
        exact E.done (by rw [eQ]; exact ⟨rfl, Or.inl ⟨_, _, rfl, rfl, dX11_act_51, rfl, rfl⟩⟩)
      · rw [if_neg hc13] at hf
        refine E_aload_n (v := 0) dX11_act_52 rfl ?_
        refine E_getR fg_RX11_96 dX11_act_53 sC_0 rfl rC_0_13 (Nat.succ_ne_zero _) ?_
        refine E_aload_n (v := 0) dX11_act_56 rfl ?_
        refine E_getR fg_RX11_10 dX11_act_57 sC_0 rfl rC_0_0 (Nat.succ_ne_zero _) ?_
        refine E_getR fg_RX11_130 dX11_act_60 sC_1 rfl rC_1_0 (Nat.succ_ne_zero _) ?_
        refine E_getR fg_RX11_144 dX11_act_63 sC_2 rfl rC_2_1 (Nat.succ_ne_zero _) ?_
        refine E_iload (v := r10) dX11_act_66 rfl ?_
        obtain ⟨hi14, hf⟩ := gd_some hf
        refine E_iald (n := 6) dX11_act_68 sC_3 (by decide) (inb_in hi14) ?_
        refine E_iload (v := r10) dX11_act_69 rfl ?_
        refine E_aload_n (v := 0) dX11_act_71 rfl ?_
        refine E_getR fg_RX11_10 dX11_act_72 sC_0 rfl rC_0_0 (Nat.succ_ne_zero _) ?_
        refine E_getR fg_RX11_130 dX11_act_75 sC_1 rfl rC_1_0 (Nat.succ_ne_zero _) ?_
        refine E_getR fg_RX11_156 dX11_act_78 sC_2 rfl rC_2_5 (Nat.succ_ne_zero _) ?_
        refine E_iload (v := r10) dX11_act_81 rfl ?_
        refine E_iald (n := 6) dX11_act_83 sC_7 (by decide) (inb_in hi14) ?_
        obtain ⟨w16, hc15, hf⟩ := bd_some hf
        try dsimp only at hf
        refine E_callVv (rest := []) (ci := 9) cv_RX11_347 dX11_act_84 (MX9_become hc15) rfl sC_74 rfl (by decide) rfl rfl (fun _ => Nat.le_of_ble_eq_true rfl) ?_
        refine E_aload_n (v := 0) dX11_act_87 rfl ?_
        refine E_getR fg_RX11_96 dX11_act_88 sC_0 rfl rC_0_13 (Nat.succ_ne_zero _) ?_
        refine E_iload_n (v := a1) dX11_act_91 rfl ?_
        refine E_iload_n (v := a2) dX11_act_92 rfl ?_
        obtain ⟨r18, w19, hc17, hf⟩ := bd2_some hf
        try dsimp only at hf
        refine E_callVi (rest := []) (ci := 9) cv_RX11_350 dX11_act_93 (MX9_perform hc17) rfl sC_74 rfl (by decide) rfl rfl (fun _ => Nat.le_of_ble_eq_true rfl) ?_
        obtain ⟨rfl, rfl⟩ := ret2 hf
        exact E.done (by rw [eQ]; exact ⟨rfl, Or.inl ⟨_, _, rfl, rfl, dX11_act_96, rfl, rfl⟩⟩)
set_option maxRecDepth 10000 in
set_option maxHeartbeats 2000000 in
theorem MX4_copy {N : Nat} {o : Nat} {o0 : Nat} {w : AW} {wZ : AW} (ho : isJ o) (ho0 : isJ o0) (hf : fX4_copy N o o0 w = some wZ) : CallOK PC yX4_copy cX4_copy 3 none 1 [.ref o, .ref o0] w none wZ := by
  refine CallOK.of (ls := [some (.ref o), some (.ref o0), none]) (by decide) (by simp) rfl rfl ?_
  obtain ⟨Q, eQ⟩ : ∃ Q, Q = Qret cX4_copy none none wZ := ⟨_, rfl⟩
  rw [← eQ]
  unfold fX4_copy at hf
  refine E_aload_n (v := o) dX4_copy_0 rfl ?_
  refine E_aload_n (v := o0) dX4_copy_1 rfl ?_
  refine E_getI fg_RX4_9 dX4_copy_2 (J_s0 ho0) rfl ?_
  obtain ⟨w1, ew1, hf⟩ := lw_some hf
  try dsimp only at hf
  refine E_putI fp_RX4_9 dX4_copy_5 (J_s0 ho) rfl rfl rfl ?_
  rw [← ew1]
  refine E_iconst 0 dX4_copy_8 ic_0 ?_
  refine E_istore_n (ls' := [some (.ref o), some (.ref o0), some (.int 0)]) dX4_copy_9 rfl rfl rfl ?_
  obtain ⟨q, hw9, hf⟩ := bd_some hf
  try dsimp only at hf
  show (fun (s : Int32 × AW) => E PC RX4 cX4_copy 3 1 10 [some (.ref o), some (.ref o0), some (.int s.1)] [] s.2 Q) (0, w1)
  refine wh_E (K := (fun (s : Int32 × AW) => E PC RX4 cX4_copy 3 1 10 [some (.ref o), some (.ref o0), some (.int s.1)] [] s.2 Q)) (X := (fun (s : AW) => E PC RX4 cX4_copy 3 1 84 [none, none, none] [] s Q)) ?_ hw9 ?_
  · intro s9 z9 hf k9
    obtain ⟨x2_10_1, w_10_1⟩ := s9
    dsimp only [lbX4_copy_10_1] at hf
    show E PC RX4 cX4_copy 3 1 10 [some (.ref o), some (.ref o0), some (.int x2_10_1)] [] w_10_1 Q
    refine E_iload_n (v := x2_10_1) dX4_copy_10 rfl ?_
    refine E_aload_n (v := o0) dX4_copy_11 rfl ?_
    refine E_getI fg_RX4_9 dX4_copy_12 (J_s0 ho0) rfl ?_
    refine E_icmp_ge 84 dX4_copy_15 (by decide) (fun hc2 => ?_) (fun hc2 => ?_)
    · rw [if_pos hc2] at hf
      obtain rfl := Option.some.inj hf
      refine E.fewer (ls' := [none, none, none]) ⟨Or.inl rfl, ⟨Or.inl rfl, ⟨Or.inl rfl, trivial⟩⟩⟩ ?_
      exact k9
    · rw [if_neg hc2] at hf
      refine E_aload_n (v := o) dX4_copy_18 rfl ?_
      refine E_getR fg_RX4_15 dX4_copy_19 (J_s0 ho) rfl (J_r0_1 ho) (Nat.succ_ne_zero _) ?_
      refine E_iload_n (v := x2_10_1) dX4_copy_22 rfl ?_
      refine E_aload_n (v := o0) dX4_copy_23 rfl ?_
      refine E_getR fg_RX4_15 dX4_copy_24 (J_s0 ho0) rfl (J_r0_1 ho0) (Nat.succ_ne_zero _) ?_
      refine E_iload_n (v := x2_10_1) dX4_copy_27 rfl ?_
      obtain ⟨hi3, hf⟩ := gd_some hf
      refine E_iald (n := 6) dX4_copy_28 (J_s1 ho0) (by decide) (inb_in hi3) ?_
      obtain ⟨w4, ew4, hf⟩ := lw_some hf
      try dsimp only at hf
      refine E_iast (n := 6) dX4_copy_29 (J_s1 ho) (by decide) (inb_in hi3) ?_
      rw [← ew4]
      refine E_aload_n (v := o) dX4_copy_30 rfl ?_
      refine E_getR fg_RX4_19 dX4_copy_31 (J_s0 ho) rfl (J_r0_2 ho) (Nat.succ_ne_zero _) ?_
      refine E_iload_n (v := x2_10_1) dX4_copy_34 rfl ?_
      refine E_aload_n (v := o0) dX4_copy_35 rfl ?_
      refine E_getR fg_RX4_19 dX4_copy_36 (J_s0 ho0) rfl (J_r0_2 ho0) (Nat.succ_ne_zero _) ?_
      refine E_iload_n (v := x2_10_1) dX4_copy_39 rfl ?_
      refine E_iald (n := 6) dX4_copy_40 (J_s2 ho0) (by decide) (inb_in hi3) ?_
      obtain ⟨w5, ew5, hf⟩ := lw_some hf
      try dsimp only at hf
      refine E_iast (n := 6) dX4_copy_41 (J_s2 ho) (by decide) (inb_in hi3) ?_
      rw [← ew5]
      refine E_aload_n (v := o) dX4_copy_42 rfl ?_
      refine E_getR fg_RX4_22 dX4_copy_43 (J_s0 ho) rfl (J_r0_3 ho) (Nat.succ_ne_zero _) ?_
      refine E_iload_n (v := x2_10_1) dX4_copy_46 rfl ?_
      refine E_aload_n (v := o0) dX4_copy_47 rfl ?_
      refine E_getR fg_RX4_22 dX4_copy_48 (J_s0 ho0) rfl (J_r0_3 ho0) (Nat.succ_ne_zero _) ?_
      refine E_iload_n (v := x2_10_1) dX4_copy_51 rfl ?_
      refine E_iald (n := 6) dX4_copy_52 (J_s3 ho0) (by decide) (inb_in hi3) ?_
      obtain ⟨w6, ew6, hf⟩ := lw_some hf
      try dsimp only at hf
      refine E_iast (n := 6) dX4_copy_53 (J_s3 ho) (by decide) (inb_in hi3) ?_
      rw [← ew6]
      refine E_aload_n (v := o) dX4_copy_54 rfl ?_
      refine E_getR fg_RX4_25 dX4_copy_55 (J_s0 ho) rfl (J_r0_4 ho) (Nat.succ_ne_zero _) ?_
      refine E_iload_n (v := x2_10_1) dX4_copy_58 rfl ?_
      refine E_aload_n (v := o0) dX4_copy_59 rfl ?_
      refine E_getR fg_RX4_25 dX4_copy_60 (J_s0 ho0) rfl (J_r0_4 ho0) (Nat.succ_ne_zero _) ?_
      refine E_iload_n (v := x2_10_1) dX4_copy_63 rfl ?_
      refine E_iald (n := 6) dX4_copy_64 (J_s4 ho0) (by decide) (inb_in hi3) ?_
      obtain ⟨w7, ew7, hf⟩ := lw_some hf
      try dsimp only at hf
      refine E_iast (n := 6) dX4_copy_65 (J_s4 ho) (by decide) (inb_in hi3) ?_
      rw [← ew7]
      refine E_aload_n (v := o) dX4_copy_66 rfl ?_
      refine E_getR fg_RX4_28 dX4_copy_67 (J_s0 ho) rfl (J_r0_5 ho) (Nat.succ_ne_zero _) ?_
      refine E_iload_n (v := x2_10_1) dX4_copy_70 rfl ?_
      refine E_aload_n (v := o0) dX4_copy_71 rfl ?_
      refine E_getR fg_RX4_28 dX4_copy_72 (J_s0 ho0) rfl (J_r0_5 ho0) (Nat.succ_ne_zero _) ?_
      refine E_iload_n (v := x2_10_1) dX4_copy_75 rfl ?_
      refine E_iald (n := 6) dX4_copy_76 (J_s5 ho0) (by decide) (inb_in hi3) ?_
      obtain ⟨w8, ew8, hf⟩ := lw_some hf
      try dsimp only at hf
      refine E_iast (n := 6) dX4_copy_77 (J_s5 ho) (by decide) (inb_in hi3) ?_
      rw [← ew8]
      refine E_iinc (ls' := [some (.ref o), some (.ref o0), some (.int (x2_10_1 + 1))]) 1 dX4_copy_78 rfl ic_1 rfl rfl rfl ?_
      refine E_goto 10 dX4_copy_81 (by decide) ?_
      obtain rfl := Option.some.inj hf
      exact k9
  · skip
    obtain ⟨w10, hq9⟩ : ∃ a, a = q := ⟨_, rfl⟩
    subst hq9
    try dsimp only at hf
    show E PC RX4 cX4_copy 3 1 84 [none, none, none] [] w10 Q
    obtain rfl := Option.some.inj hf
    exact E.done (by rw [eQ]; exact ⟨rfl, Or.inr ⟨rfl, rfl, dX4_copy_84, rfl⟩⟩)
set_option maxRecDepth 10000 in
set_option maxHeartbeats 2000000 in
theorem MX1_copy {N : Nat} {b : Nat} {o0 : Nat} {w : AW} {wZ : AW} (hb : isB b) (ho0 : isB o0) (hf : fX1_copy N b o0 w = some wZ) : CallOK PC yX1_copy cX1_copy 2 none 2 [.ref b, .ref o0] w none wZ := by
  refine CallOK.of (ls := [some (.ref b), some (.ref o0)]) (by decide) (by simp) rfl rfl ?_
  obtain ⟨Q, eQ⟩ : ∃ Q, Q = Qret cX1_copy none none wZ := ⟨_, rfl⟩
  rw [← eQ]
  unfold fX1_copy at hf
  refine E_aload_n (v := b) dX1_copy_0 rfl ?_
  refine E_getR fg_RX1_12 dX1_copy_1 (B_s0 hb) rfl (B_r0_0 hb) (Nat.succ_ne_zero _) ?_
  refine E_aload_n (v := o0) dX1_copy_4 rfl ?_
  refine E_getR fg_RX1_12 dX1_copy_5 (B_s0 ho0) rfl (B_r0_0 ho0) (Nat.succ_ne_zero _) ?_
  obtain ⟨w2, hc1, hf⟩ := bd_some hf
  try dsimp only at hf
  refine E_callVv (rest := []) (ci := 4) cv_RX1_50 dX1_copy_8 (MX4_copy (B_j1 hb) (B_j1 ho0) hc1) rfl (B_s1 hb) rfl (by decide) rfl rfl (fun _ => Nat.le_of_ble_eq_true rfl) ?_
  refine E_aload_n (v := o0) dX1_copy_11 rfl ?_
  refine E_getR fg_RX1_18 dX1_copy_12 (B_s0 ho0) rfl (B_r0_1 ho0) (Nat.succ_ne_zero _) ?_
  refine E_iconst 0 dX1_copy_15 ic_0 ?_
  refine E_aload_n (v := b) dX1_copy_16 rfl ?_
  refine E_getR fg_RX1_18 dX1_copy_17 (B_s0 hb) rfl (B_r0_1 hb) (Nat.succ_ne_zero _) ?_
  refine E_iconst 0 dX1_copy_20 ic_0 ?_
  refine E_iconst 4 dX1_copy_21 ic_4 ?_
  obtain ⟨w3, ew3, hf⟩ := lw_some hf
  try dsimp only at hf
  refine E_copyI (n0 := 4) (n1 := 4) wl_RX1_88 wna_copy wst_copy win_sys dX1_copy_22 (by omega) rfl (B_s7 ho0) (by decide) (B_s7 hb) (by decide) (by decide) (by decide) (by decide) (by decide) (by decide) ?_
  rw [← ew3]
  refine E_aload_n (v := o0) dX1_copy_25 rfl ?_
  refine E_getR fg_RX1_22 dX1_copy_26 (B_s0 ho0) rfl (B_r0_2 ho0) (Nat.succ_ne_zero _) ?_
  refine E_iconst 0 dX1_copy_29 ic_0 ?_
  refine E_aload_n (v := b) dX1_copy_30 rfl ?_
  refine E_getR fg_RX1_22 dX1_copy_31 (B_s0 hb) rfl (B_r0_2 hb) (Nat.succ_ne_zero _) ?_
  refine E_iconst 0 dX1_copy_34 ic_0 ?_
  refine E_bipush 61 dX1_copy_35 bp_61 ?_
  obtain ⟨w4, ew4, hf⟩ := lw_some hf
  try dsimp only at hf
  refine E_copyI (n0 := 61) (n1 := 61) wl_RX1_88 wna_copy wst_copy win_sys dX1_copy_37 (by omega) rfl (B_s8 ho0) (by decide) (B_s8 hb) (by decide) (by decide) (by decide) (by decide) (by decide) (by decide) ?_
  rw [← ew4]
  refine E_aload_n (v := o0) dX1_copy_40 rfl ?_
  refine E_getR fg_RX1_25 dX1_copy_41 (B_s0 ho0) rfl (B_r0_3 ho0) (Nat.succ_ne_zero _) ?_
  refine E_iconst 0 dX1_copy_44 ic_0 ?_
  refine E_aload_n (v := b) dX1_copy_45 rfl ?_
  refine E_getR fg_RX1_25 dX1_copy_46 (B_s0 hb) rfl (B_r0_3 hb) (Nat.succ_ne_zero _) ?_
  refine E_iconst 0 dX1_copy_49 ic_0 ?_
  refine E_bipush 61 dX1_copy_50 bp_61 ?_
  obtain ⟨w5, ew5, hf⟩ := lw_some hf
  try dsimp only at hf
  refine E_copyI (n0 := 61) (n1 := 61) wl_RX1_88 wna_copy wst_copy win_sys dX1_copy_52 (by omega) rfl (B_s9 ho0) (by decide) (B_s9 hb) (by decide) (by decide) (by decide) (by decide) (by decide) (by decide) ?_
  rw [← ew5]
  refine E_aload_n (v := o0) dX1_copy_55 rfl ?_
  refine E_getR fg_RX1_28 dX1_copy_56 (B_s0 ho0) rfl (B_r0_4 ho0) (Nat.succ_ne_zero _) ?_
  refine E_iconst 0 dX1_copy_59 ic_0 ?_
  refine E_aload_n (v := b) dX1_copy_60 rfl ?_
  refine E_getR fg_RX1_28 dX1_copy_61 (B_s0 hb) rfl (B_r0_4 hb) (Nat.succ_ne_zero _) ?_
  refine E_iconst 0 dX1_copy_64 ic_0 ?_
  refine E_bipush 6 dX1_copy_65 bp_6 ?_
  obtain ⟨w6, ew6, hf⟩ := lw_some hf
  try dsimp only at hf
  refine E_copyI (n0 := 6) (n1 := 6) wl_RX1_88 wna_copy wst_copy win_sys dX1_copy_67 (by omega) rfl (B_s10 ho0) (by decide) (B_s10 hb) (by decide) (by decide) (by decide) (by decide) (by decide) (by decide) ?_
  rw [← ew6]
  refine E_aload_n (v := b) dX1_copy_70 rfl ?_
  refine E_aload_n (v := o0) dX1_copy_71 rfl ?_
  refine E_getI fg_RX1_31 dX1_copy_72 (B_s0 ho0) rfl ?_
  obtain ⟨w7, ew7, hf⟩ := lw_some hf
  try dsimp only at hf
  refine E_putI fp_RX1_31 dX1_copy_75 (B_s0 hb) rfl rfl rfl ?_
  rw [← ew7]
  refine E_aload_n (v := b) dX1_copy_78 rfl ?_
  refine E_aload_n (v := o0) dX1_copy_79 rfl ?_
  refine E_getI fg_RX1_35 dX1_copy_80 (B_s0 ho0) rfl ?_
  obtain ⟨w8, ew8, hf⟩ := lw_some hf
  try dsimp only at hf
  refine E_putI fp_RX1_35 dX1_copy_83 (B_s0 hb) rfl rfl rfl ?_
  rw [← ew8]
  refine E_aload_n (v := b) dX1_copy_86 rfl ?_
  refine E_aload_n (v := o0) dX1_copy_87 rfl ?_
  refine E_getI fg_RX1_38 dX1_copy_88 (B_s0 ho0) rfl ?_
  obtain ⟨w9, ew9, hf⟩ := lw_some hf
  try dsimp only at hf
  refine E_putI fp_RX1_38 dX1_copy_91 (B_s0 hb) rfl rfl rfl ?_
  rw [← ew9]
  refine E_aload_n (v := b) dX1_copy_94 rfl ?_
  refine E_aload_n (v := o0) dX1_copy_95 rfl ?_
  refine E_getI fg_RX1_41 dX1_copy_96 (B_s0 ho0) rfl ?_
  obtain ⟨w10, ew10, hf⟩ := lw_some hf
  try dsimp only at hf
  refine E_putI fp_RX1_41 dX1_copy_99 (B_s0 hb) rfl rfl rfl ?_
  rw [← ew10]
  obtain rfl := Option.some.inj hf
  exact E.done (by rw [eQ]; exact ⟨rfl, Or.inr ⟨rfl, rfl, dX1_copy_102, rfl⟩⟩)
set_option maxRecDepth 10000 in
set_option maxHeartbeats 2000000 in
theorem MX10_copy {N : Nat} {t : Nat} {o0 : Nat} {w : AW} {wZ : AW} (ht : isT t) (ho0 : isT o0) (hf : fX10_copy N t o0 w = some wZ) : CallOK PC yX10_copy cX10_copy 3 none 1 [.ref t, .ref o0] w none wZ := by
  refine CallOK.of (ls := [some (.ref t), some (.ref o0), none]) (by decide) (by simp) rfl rfl ?_
  obtain ⟨Q, eQ⟩ : ∃ Q, Q = Qret cX10_copy none none wZ := ⟨_, rfl⟩
  rw [← eQ]
  unfold fX10_copy at hf
  refine E_aload_n (v := t) dX10_copy_0 rfl ?_
  refine E_aload_n (v := o0) dX10_copy_1 rfl ?_
  refine E_getI fg_RX10_9 dX10_copy_2 (T_s0 ho0) rfl ?_
  obtain ⟨w1, ew1, hf⟩ := lw_some hf
  try dsimp only at hf
  refine E_putI fp_RX10_9 dX10_copy_5 (T_s0 ht) rfl rfl rfl ?_
  rw [← ew1]
  refine E_aload_n (v := t) dX10_copy_8 rfl ?_
  refine E_aload_n (v := o0) dX10_copy_9 rfl ?_
  refine E_getI fg_RX10_15 dX10_copy_10 (T_s0 ho0) rfl ?_
  obtain ⟨w2, ew2, hf⟩ := lw_some hf
  try dsimp only at hf
  refine E_putI fp_RX10_15 dX10_copy_13 (T_s0 ht) rfl rfl rfl ?_
  rw [← ew2]
  refine E_iconst 0 dX10_copy_16 ic_0 ?_
  refine E_istore_n (ls' := [some (.ref t), some (.ref o0), some (.int 0)]) dX10_copy_17 rfl rfl rfl ?_
  obtain ⟨q, hw11, hf⟩ := bd_some hf
  try dsimp only at hf
  show (fun (s : Int32 × AW) => E PC RX10 cX10_copy 3 1 18 [some (.ref t), some (.ref o0), some (.int s.1)] [] s.2 Q) (0, w2)
  refine wh_E (K := (fun (s : Int32 × AW) => E PC RX10 cX10_copy 3 1 18 [some (.ref t), some (.ref o0), some (.int s.1)] [] s.2 Q)) (X := (fun (s : AW) => E PC RX10 cX10_copy 3 1 104 [none, none, none] [] s Q)) ?_ hw11 ?_
  · intro s9 z9 hf k9
    obtain ⟨x2_18_1, w_18_1⟩ := s9
    dsimp only [lbX10_copy_18_1] at hf
    show E PC RX10 cX10_copy 3 1 18 [some (.ref t), some (.ref o0), some (.int x2_18_1)] [] w_18_1 Q
    refine E_iload_n (v := x2_18_1) dX10_copy_18 rfl ?_
    refine E_aload_n (v := o0) dX10_copy_19 rfl ?_
    refine E_getI fg_RX10_9 dX10_copy_20 (T_s0 ho0) rfl ?_
    refine E_icmp_ge 104 dX10_copy_23 (by decide) (fun hc3 => ?_) (fun hc3 => ?_)
    · rw [if_pos hc3] at hf
      obtain rfl := Option.some.inj hf
      refine E.fewer (ls' := [none, none, none]) ⟨Or.inl rfl, ⟨Or.inl rfl, ⟨Or.inl rfl, trivial⟩⟩⟩ ?_
      exact k9
    · rw [if_neg hc3] at hf
      refine E_aload_n (v := t) dX10_copy_26 rfl ?_
      refine E_getR fg_RX10_18 dX10_copy_27 (T_s0 ht) rfl (T_r0_2 ht) (Nat.succ_ne_zero _) ?_
      refine E_iload_n (v := x2_18_1) dX10_copy_30 rfl ?_
      refine E_aload_n (v := o0) dX10_copy_31 rfl ?_
      refine E_getR fg_RX10_18 dX10_copy_32 (T_s0 ho0) rfl (T_r0_2 ho0) (Nat.succ_ne_zero _) ?_
      refine E_iload_n (v := x2_18_1) dX10_copy_35 rfl ?_
      obtain ⟨hi4, hf⟩ := gd_some hf
      refine E_iald (n := 3) dX10_copy_36 (T_s1 ho0) (by decide) (inb_in hi4) ?_
      obtain ⟨w5, ew5, hf⟩ := lw_some hf
      try dsimp only at hf
      refine E_iast (n := 3) dX10_copy_37 (T_s1 ht) (by decide) (inb_in hi4) ?_
      rw [← ew5]
      refine E_aload_n (v := t) dX10_copy_38 rfl ?_
      refine E_getR fg_RX10_22 dX10_copy_39 (T_s0 ht) rfl (T_r0_3 ht) (Nat.succ_ne_zero _) ?_
      refine E_iload_n (v := x2_18_1) dX10_copy_42 rfl ?_
      refine E_aload_n (v := o0) dX10_copy_43 rfl ?_
      refine E_getR fg_RX10_22 dX10_copy_44 (T_s0 ho0) rfl (T_r0_3 ho0) (Nat.succ_ne_zero _) ?_
      refine E_iload_n (v := x2_18_1) dX10_copy_47 rfl ?_
      refine E_iald (n := 3) dX10_copy_48 (T_s2 ho0) (by decide) (inb_in hi4) ?_
      obtain ⟨w6, ew6, hf⟩ := lw_some hf
      try dsimp only at hf
      refine E_iast (n := 3) dX10_copy_49 (T_s2 ht) (by decide) (inb_in hi4) ?_
      rw [← ew6]
      refine E_aload_n (v := t) dX10_copy_50 rfl ?_
      refine E_getR fg_RX10_25 dX10_copy_51 (T_s0 ht) rfl (T_r0_4 ht) (Nat.succ_ne_zero _) ?_
      refine E_iload_n (v := x2_18_1) dX10_copy_54 rfl ?_
      refine E_aload_n (v := o0) dX10_copy_55 rfl ?_
      refine E_getR fg_RX10_25 dX10_copy_56 (T_s0 ho0) rfl (T_r0_4 ho0) (Nat.succ_ne_zero _) ?_
      refine E_iload_n (v := x2_18_1) dX10_copy_59 rfl ?_
      refine E_iald (n := 3) dX10_copy_60 (T_s3 ho0) (by decide) (inb_in hi4) ?_
      obtain ⟨w7, ew7, hf⟩ := lw_some hf
      try dsimp only at hf
      refine E_iast (n := 3) dX10_copy_61 (T_s3 ht) (by decide) (inb_in hi4) ?_
      rw [← ew7]
      refine E_aload_n (v := t) dX10_copy_62 rfl ?_
      refine E_getR fg_RX10_28 dX10_copy_63 (T_s0 ht) rfl (T_r0_5 ht) (Nat.succ_ne_zero _) ?_
      refine E_iload_n (v := x2_18_1) dX10_copy_66 rfl ?_
      refine E_aload_n (v := o0) dX10_copy_67 rfl ?_
      refine E_getR fg_RX10_28 dX10_copy_68 (T_s0 ho0) rfl (T_r0_5 ho0) (Nat.succ_ne_zero _) ?_
      refine E_iload_n (v := x2_18_1) dX10_copy_71 rfl ?_
      refine E_iald (n := 3) dX10_copy_72 (T_s4 ho0) (by decide) (inb_in hi4) ?_
      obtain ⟨w8, ew8, hf⟩ := lw_some hf
      try dsimp only at hf
      refine E_iast (n := 3) dX10_copy_73 (T_s4 ht) (by decide) (inb_in hi4) ?_
      rw [← ew8]
      refine E_aload_n (v := t) dX10_copy_74 rfl ?_
      refine E_getR fg_RX10_31 dX10_copy_75 (T_s0 ht) rfl (T_r0_6 ht) (Nat.succ_ne_zero _) ?_
      refine E_iload_n (v := x2_18_1) dX10_copy_78 rfl ?_
      refine E_aload_n (v := o0) dX10_copy_79 rfl ?_
      refine E_getR fg_RX10_31 dX10_copy_80 (T_s0 ho0) rfl (T_r0_6 ho0) (Nat.succ_ne_zero _) ?_
      refine E_iload_n (v := x2_18_1) dX10_copy_83 rfl ?_
      refine E_iald (n := 3) dX10_copy_84 (T_s5 ho0) (by decide) (inb_in hi4) ?_
      obtain ⟨w9, ew9, hf⟩ := lw_some hf
      try dsimp only at hf
      refine E_iast (n := 3) dX10_copy_85 (T_s5 ht) (by decide) (inb_in hi4) ?_
      rw [← ew9]
      refine E_aload_n (v := t) dX10_copy_86 rfl ?_
      refine E_getR fg_RX10_34 dX10_copy_87 (T_s0 ht) rfl (T_r0_7 ht) (Nat.succ_ne_zero _) ?_
      refine E_iload_n (v := x2_18_1) dX10_copy_90 rfl ?_
      refine E_aload_n (v := o0) dX10_copy_91 rfl ?_
      refine E_getR fg_RX10_34 dX10_copy_92 (T_s0 ho0) rfl (T_r0_7 ho0) (Nat.succ_ne_zero _) ?_
      refine E_iload_n (v := x2_18_1) dX10_copy_95 rfl ?_
      refine E_iald (n := 3) dX10_copy_96 (T_s6 ho0) (by decide) (inb_in hi4) ?_
      obtain ⟨w10, ew10, hf⟩ := lw_some hf
      try dsimp only at hf
      refine E_iast (n := 3) dX10_copy_97 (T_s6 ht) (by decide) (inb_in hi4) ?_
      rw [← ew10]
      refine E_iinc (ls' := [some (.ref t), some (.ref o0), some (.int (x2_18_1 + 1))]) 1 dX10_copy_98 rfl ic_1 rfl rfl rfl ?_
      refine E_goto 18 dX10_copy_101 (by decide) ?_
      obtain rfl := Option.some.inj hf
      exact k9
  · skip
    obtain ⟨w12, hq9⟩ : ∃ a, a = q := ⟨_, rfl⟩
    subst hq9
    try dsimp only at hf
    show E PC RX10 cX10_copy 3 1 104 [none, none, none] [] w12 Q
    obtain rfl := Option.some.inj hf
    exact E.done (by rw [eQ]; exact ⟨rfl, Or.inr ⟨rfl, rfl, dX10_copy_104, rfl⟩⟩)
set_option maxRecDepth 10000 in
set_option maxHeartbeats 2000000 in
theorem MX11_again {N : Nat} {w : AW} {rZ : Int32} {wZ : AW} (hf : fX11_again N w = some (rZ, wZ)) : CallOK PC yX11_again cX11_again 1 (some .int) 3 [.ref 0] w (some (.int rZ)) wZ := by
  refine CallOK.of (ls := [some (.ref 0)]) (by decide) (by simp) rfl rfl ?_
  obtain ⟨Q, eQ⟩ : ∃ Q, Q = Qret cX11_again (some .int) (some (.int rZ)) wZ := ⟨_, rfl⟩
  rw [← eQ]
  unfold fX11_again at hf
  refine E_aload_n (v := 0) dX11_again_0 rfl ?_
  refine E_getI fg_RX11_29 dX11_again_1 sC_0 rfl ?_
  refine E_if_ne 10 dX11_again_4 (by decide) (fun hc1 => ?_) (fun hc1 => ?_)
  · rw [if_pos hc1] at hf
    refine E_bipush (-3) dX11_again_7 bp_m3 ?_
    obtain ⟨rfl, rfl⟩ := ret2 hf
    exact E.done (by rw [eQ]; exact ⟨rfl, Or.inl ⟨_, _, rfl, rfl, dX11_again_9, rfl, rfl⟩⟩)
  · rw [if_neg hc1] at hf
    refine E_aload_n (v := 0) dX11_again_10 rfl ?_
    refine E_getR fg_RX11_10 dX11_again_11 sC_0 rfl rC_0_0 (Nat.succ_ne_zero _) ?_
    refine E_aload_n (v := 0) dX11_again_14 rfl ?_
    refine E_getR fg_RX11_16 dX11_again_15 sC_0 rfl rC_0_1 (Nat.succ_ne_zero _) ?_
    obtain ⟨w3, hc2, hf⟩ := bd_some hf
    try dsimp only at hf
    refine E_callVv (rest := []) (ci := 1) cv_RX11_360 dX11_again_18 (MX1_copy B_is1 B_is12 hc2) rfl sC_1 rfl (by decide) rfl rfl (fun _ => Nat.le_of_ble_eq_true rfl) ?_
    refine E_aload_n (v := 0) dX11_again_21 rfl ?_
    refine E_getR fg_RX11_22 dX11_again_22 sC_0 rfl rC_0_2 (Nat.succ_ne_zero _) ?_
    refine E_aload_n (v := 0) dX11_again_25 rfl ?_
    refine E_getR fg_RX11_26 dX11_again_26 sC_0 rfl rC_0_3 (Nat.succ_ne_zero _) ?_
    obtain ⟨w5, hc4, hf⟩ := bd_some hf
    try dsimp only at hf
    refine E_callVv (rest := []) (ci := 10) cv_RX11_363 dX11_again_29 (MX10_copy T_is23 T_is30 hc4) rfl sC_23 rfl (by decide) rfl rfl (fun _ => Nat.le_of_ble_eq_true rfl) ?_
    refine E_aload_n (v := 0) dX11_again_32 rfl ?_
    refine E_getR fg_RX11_10 dX11_again_33 sC_0 rfl rC_0_0 (Nat.succ_ne_zero _) ?_
    refine E_getR fg_RX11_130 dX11_again_36 sC_1 rfl rC_1_0 (Nat.succ_ne_zero _) ?_
    refine E_getI fg_RX11_131 dX11_again_39 sC_2 rfl ?_
    obtain ⟨rfl, rfl⟩ := ret2 hf
    exact E.done (by rw [eQ]; exact ⟨rfl, Or.inl ⟨_, _, rfl, rfl, dX11_again_42, rfl, rfl⟩⟩)
set_option maxRecDepth 10000 in
set_option maxHeartbeats 2000000 in
theorem MX11_partOf {N : Nat} {a0 : Int32} {a1 : Int32} {a2 : Int32} {w : AW} {rZ : Int32} (hf : fX11_partOf N a0 a1 a2 w = some rZ) : CallOK PC yX11_partOf cX11_partOf 5 (some .int) 1 [.int a0, .int a1, .int a2] w (some (.int rZ)) w := by
  refine CallOK.of (ls := [some (.int a0), some (.int a1), some (.int a2), none, none]) (by decide) (by simp) rfl rfl ?_
  obtain ⟨Q, eQ⟩ : ∃ Q, Q = Qret cX11_partOf (some .int) (some (.int rZ)) w := ⟨_, rfl⟩
  rw [← eQ]
  unfold fX11_partOf at hf
  refine E_iload_n (v := a1) dX11_partOf_0 rfl ?_
  refine E_istore_n (ls' := [some (.int a0), some (.int a1), some (.int a2), some (.int a1), none]) dX11_partOf_1 rfl rfl rfl ?_
  refine E_iload_n (v := a0) dX11_partOf_2 rfl ?_
  refine E_istore (ls' := [some (.int a0), some (.int a1), some (.int a2), some (.int a1), some (.int a0)]) dX11_partOf_3 rfl rfl rfl ?_
  obtain ⟨q, hw3, hf⟩ := bd_some hf
  try dsimp only at hf
  refine E.fewer (ls' := [none, none, some (.int a2), some (.int a1), some (.int a0)]) ⟨Or.inl rfl, ⟨Or.inl rfl, ⟨Or.inr rfl, ⟨Or.inr rfl, ⟨Or.inr rfl, trivial⟩⟩⟩⟩⟩ ?_
  show (fun (s : Int32 × Int32) => E PC RX11 cX11_partOf 5 1 5 [none, none, some (.int a2), some (.int s.1), some (.int s.2)] [] w Q) (a1, a0)
  refine wh_E (K := (fun (s : Int32 × Int32) => E PC RX11 cX11_partOf 5 1 5 [none, none, some (.int a2), some (.int s.1), some (.int s.2)] [] w Q)) (X := (fun (s : Int32 × Int32) => E PC RX11 cX11_partOf 5 1 28 [none, none, some (.int a2), some (.int s.1), some (.int s.2)] [] w Q)) ?_ hw3 ?_
  · intro s9 z9 hf k9
    obtain ⟨x3_5_1, x4_5_1⟩ := s9
    dsimp only [lbX11_partOf_5_1] at hf
    show E PC RX11 cX11_partOf 5 1 5 [none, none, some (.int a2), some (.int x3_5_1), some (.int x4_5_1)] [] w Q
    refine E_iload_n (v := x3_5_1) dX11_partOf_5 rfl ?_
    refine E_if_le 28 dX11_partOf_6 (by decide) (fun hc1 => ?_) (fun hc1 => ?_)
    · rw [if_pos hc1] at hf
      obtain rfl := Option.some.inj hf
      exact k9
    · rw [if_neg hc1] at hf
      refine E_iload (v := x4_5_1) dX11_partOf_9 rfl ?_
      refine E_iconst 2 dX11_partOf_11 ic_2 ?_
      refine E_irem dX11_partOf_12 (by decide) ?_
      refine E_if_ne 28 dX11_partOf_13 (by decide) (fun hc2 => ?_) (fun hc2 => ?_)
      · rw [if_pos hc2] at hf
        refine E_iload (v := x4_5_1) dX11_partOf_16 rfl ?_
        refine E_iconst 2 dX11_partOf_18 ic_2 ?_
        refine E_idiv dX11_partOf_19 (by decide) ?_
        refine E_istore (ls' := [none, none, some (.int a2), some (.int x3_5_1), some (.int (x4_5_1 / 2))]) dX11_partOf_20 rfl rfl rfl ?_
        refine E_iinc (ls' := [none, none, some (.int a2), some (.int (x3_5_1 + (-1))), some (.int (x4_5_1 / 2))]) (-1) dX11_partOf_22 rfl ic_m1 rfl rfl rfl ?_
        refine E_goto 5 dX11_partOf_25 (by decide) ?_
        obtain rfl := Option.some.inj hf
        exact k9
      · rw [if_neg hc2] at hf
        obtain rfl := Option.some.inj hf
        exact k9
  · skip
    obtain ⟨y4, y5⟩ := q
    try dsimp only at hf
    show E PC RX11 cX11_partOf 5 1 28 [none, none, some (.int a2), some (.int y4), some (.int y5)] [] w Q
    refine E_iload_n (v := a2) dX11_partOf_28 rfl ?_
    refine E_if_ne 37 dX11_partOf_29 (by decide) (fun hc6 => ?_) (fun hc6 => ?_)
    · rw [if_pos hc6] at hf
      refine E_iload (v := y5) dX11_partOf_32 rfl ?_
      refine E_goto 40 dX11_partOf_34 (by decide) ?_
      obtain rfl := Option.some.inj hf
      exact E.done (by rw [eQ]; exact ⟨rfl, Or.inl ⟨_, _, rfl, rfl, dX11_partOf_40, rfl, rfl⟩⟩)
    · rw [if_neg hc6] at hf
      refine E_iconst 1 dX11_partOf_37 ic_1 ?_
      refine E_iload_n (v := y4) dX11_partOf_38 rfl ?_
      refine E_ishl dX11_partOf_39 ?_
      obtain rfl := Option.some.inj hf
      exact E.done (by rw [eQ]; exact ⟨rfl, Or.inl ⟨_, _, rfl, rfl, dX11_partOf_40, rfl, rfl⟩⟩)
set_option maxRecDepth 10000 in
set_option maxHeartbeats 2000000 in
theorem MX4_add {o : Nat} {a0 : Int32} {a1 : Int32} {a2 : Int32} {a3 : Int32} {a4 : Int32} {w : AW} {wZ : AW} (ho : isJ o) (hf : fX4_add o a0 a1 a2 a3 a4 w = some wZ) : CallOK PC yX4_add cX4_add 6 none 1 [.ref o, .int a0, .int a1, .int a2, .int a3, .int a4] w none wZ := by
  refine CallOK.of (ls := [some (.ref o), some (.int a0), some (.int a1), some (.int a2), some (.int a3), some (.int a4)]) (by decide) (by simp) rfl rfl ?_
  obtain ⟨Q, eQ⟩ : ∃ Q, Q = Qret cX4_add none none wZ := ⟨_, rfl⟩
  rw [← eQ]
  unfold fX4_add at hf
  refine E_aload_n (v := o) dX4_add_0 rfl ?_
  refine E_getI fg_RX4_9 dX4_add_1 (J_s0 ho) rfl ?_
  refine E_bipush 6 dX4_add_4 bp_6 ?_
  refine E_icmp_lt 10 dX4_add_6 (by decide) (fun hc1 => ?_) (fun hc1 => ?_)
  · rw [if_pos hc1] at hf
    refine E_aload_n (v := o) dX4_add_10 rfl ?_
    refine E_getR fg_RX4_15 dX4_add_11 (J_s0 ho) rfl (J_r0_1 ho) (Nat.succ_ne_zero _) ?_
    refine E_aload_n (v := o) dX4_add_14 rfl ?_
    refine E_getI fg_RX4_9 dX4_add_15 (J_s0 ho) rfl ?_
    refine E_iload_n (v := a0) dX4_add_18 rfl ?_
    obtain ⟨hi2, hf⟩ := gd_some hf
    obtain ⟨w3, ew3, hf⟩ := lw_some hf
    try dsimp only at hf
    refine E_iast (n := 6) dX4_add_19 (J_s1 ho) (by decide) (inb_in hi2) ?_
    rw [← ew3]
    refine E_aload_n (v := o) dX4_add_20 rfl ?_
    refine E_getR fg_RX4_19 dX4_add_21 (J_s0 ho) rfl (J_r0_2 ho) (Nat.succ_ne_zero _) ?_
    refine E_aload_n (v := o) dX4_add_24 rfl ?_
    refine E_getI fg_RX4_9 dX4_add_25 (J_s0 ho) rfl ?_
    refine E_iload_n (v := a0) dX4_add_28 rfl ?_
    refine E_iconst 5 dX4_add_29 ic_5 ?_
    refine E_icmp_ne 41 dX4_add_30 (by decide) (fun hc4 => ?_) (fun hc4 => ?_)
    · rw [if_pos hc4] at hf
      refine E_iload_n (v := a1) dX4_add_33 rfl ?_
      refine E_iconst 1 dX4_add_34 ic_1 ?_
      refine E_iadd dX4_add_35 ?_
      refine E_iconst 2 dX4_add_36 ic_2 ?_
      refine E_idiv dX4_add_37 (by decide) ?_
      refine E_goto 42 dX4_add_38 (by decide) ?_
      obtain ⟨hi5, hf⟩ := gd_some hf
      obtain ⟨w6, ew6, hf⟩ := lw_some hf
      try dsimp only at hf
      refine E_iast (n := 6) dX4_add_42 (J_s2 ho) (by decide) (inb_in hi5) ?_
      rw [← ew6]
      refine E_aload_n (v := o) dX4_add_43 rfl ?_
      refine E_getR fg_RX4_22 dX4_add_44 (J_s0 ho) rfl (J_r0_3 ho) (Nat.succ_ne_zero _) ?_
      refine E_aload_n (v := o) dX4_add_47 rfl ?_
      refine E_getI fg_RX4_9 dX4_add_48 (J_s0 ho) rfl ?_
      refine E_iload_n (v := a2) dX4_add_51 rfl ?_
      obtain ⟨hi7, hf⟩ := gd_some hf
      obtain ⟨w8, ew8, hf⟩ := lw_some hf
      try dsimp only at hf
      refine E_iast (n := 6) dX4_add_52 (J_s3 ho) (by decide) (inb_in hi7) ?_
      rw [← ew8]
      refine E_aload_n (v := o) dX4_add_53 rfl ?_
      refine E_getR fg_RX4_25 dX4_add_54 (J_s0 ho) rfl (J_r0_4 ho) (Nat.succ_ne_zero _) ?_
      refine E_aload_n (v := o) dX4_add_57 rfl ?_
      refine E_getI fg_RX4_9 dX4_add_58 (J_s0 ho) rfl ?_
      refine E_iload (v := a3) dX4_add_61 rfl ?_
      obtain ⟨hi9, hf⟩ := gd_some hf
      obtain ⟨w10, ew10, hf⟩ := lw_some hf
      try dsimp only at hf
      refine E_iast (n := 6) dX4_add_63 (J_s4 ho) (by decide) (inb_in hi9) ?_
      rw [← ew10]
      refine E_aload_n (v := o) dX4_add_64 rfl ?_
      refine E_getR fg_RX4_28 dX4_add_65 (J_s0 ho) rfl (J_r0_5 ho) (Nat.succ_ne_zero _) ?_
      refine E_aload_n (v := o) dX4_add_68 rfl ?_
      refine E_getI fg_RX4_9 dX4_add_69 (J_s0 ho) rfl ?_
      refine E_iload (v := a4) dX4_add_72 rfl ?_
      obtain ⟨hi11, hf⟩ := gd_some hf
      obtain ⟨w12, ew12, hf⟩ := lw_some hf
      try dsimp only at hf
      refine E_iast (n := 6) dX4_add_74 (J_s5 ho) (by decide) (inb_in hi11) ?_
      rw [← ew12]
      refine E_aload_n (v := o) dX4_add_75 rfl ?_
      refine E_dup_r dX4_add_76 ?_
      refine E_getI fg_RX4_9 dX4_add_77 (J_s0 ho) rfl ?_
      refine E_iconst 1 dX4_add_80 ic_1 ?_
      refine E_iadd dX4_add_81 ?_
      obtain ⟨w13, ew13, hf⟩ := lw_some hf
      try dsimp only at hf
      refine E_putI fp_RX4_9 dX4_add_82 (J_s0 ho) rfl rfl rfl ?_
      rw [← ew13]
      obtain rfl := Option.some.inj hf
      exact E.done (by rw [eQ]; exact ⟨rfl, Or.inr ⟨rfl, rfl, dX4_add_85, rfl⟩⟩)
    · rw [if_neg hc4] at hf
      refine E_iload_n (v := a1) dX4_add_41 rfl ?_
      obtain ⟨hi14, hf⟩ := gd_some hf
      obtain ⟨w15, ew15, hf⟩ := lw_some hf
      try dsimp only at hf
      refine E_iast (n := 6) dX4_add_42 (J_s2 ho) (by decide) (inb_in hi14) ?_
      rw [← ew15]
      refine E_aload_n (v := o) dX4_add_43 rfl ?_
      refine E_getR fg_RX4_22 dX4_add_44 (J_s0 ho) rfl (J_r0_3 ho) (Nat.succ_ne_zero _) ?_
      refine E_aload_n (v := o) dX4_add_47 rfl ?_
      refine E_getI fg_RX4_9 dX4_add_48 (J_s0 ho) rfl ?_
      refine E_iload_n (v := a2) dX4_add_51 rfl ?_
      obtain ⟨hi16, hf⟩ := gd_some hf
      obtain ⟨w17, ew17, hf⟩ := lw_some hf
      try dsimp only at hf
      refine E_iast (n := 6) dX4_add_52 (J_s3 ho) (by decide) (inb_in hi16) ?_
      rw [← ew17]
      refine E_aload_n (v := o) dX4_add_53 rfl ?_
      refine E_getR fg_RX4_25 dX4_add_54 (J_s0 ho) rfl (J_r0_4 ho) (Nat.succ_ne_zero _) ?_
      refine E_aload_n (v := o) dX4_add_57 rfl ?_
      refine E_getI fg_RX4_9 dX4_add_58 (J_s0 ho) rfl ?_
      refine E_iload (v := a3) dX4_add_61 rfl ?_
      obtain ⟨hi18, hf⟩ := gd_some hf
      obtain ⟨w19, ew19, hf⟩ := lw_some hf
      try dsimp only at hf
      refine E_iast (n := 6) dX4_add_63 (J_s4 ho) (by decide) (inb_in hi18) ?_
      rw [← ew19]
      refine E_aload_n (v := o) dX4_add_64 rfl ?_
      refine E_getR fg_RX4_28 dX4_add_65 (J_s0 ho) rfl (J_r0_5 ho) (Nat.succ_ne_zero _) ?_
      refine E_aload_n (v := o) dX4_add_68 rfl ?_
      refine E_getI fg_RX4_9 dX4_add_69 (J_s0 ho) rfl ?_
      refine E_iload (v := a4) dX4_add_72 rfl ?_
      obtain ⟨hi20, hf⟩ := gd_some hf
      obtain ⟨w21, ew21, hf⟩ := lw_some hf
      try dsimp only at hf
      refine E_iast (n := 6) dX4_add_74 (J_s5 ho) (by decide) (inb_in hi20) ?_
      rw [← ew21]
      refine E_aload_n (v := o) dX4_add_75 rfl ?_
      refine E_dup_r dX4_add_76 ?_
      refine E_getI fg_RX4_9 dX4_add_77 (J_s0 ho) rfl ?_
      refine E_iconst 1 dX4_add_80 ic_1 ?_
      refine E_iadd dX4_add_81 ?_
      obtain ⟨w22, ew22, hf⟩ := lw_some hf
      try dsimp only at hf
      refine E_putI fp_RX4_9 dX4_add_82 (J_s0 ho) rfl rfl rfl ?_
      rw [← ew22]
      obtain rfl := Option.some.inj hf
      exact E.done (by rw [eQ]; exact ⟨rfl, Or.inr ⟨rfl, rfl, dX4_add_85, rfl⟩⟩)
  · rw [if_neg hc1] at hf
    obtain rfl := Option.some.inj hf
    exact E.done (by rw [eQ]; exact ⟨rfl, Or.inr ⟨rfl, rfl, dX4_add_9, rfl⟩⟩)
set_option maxRecDepth 10000 in
set_option maxHeartbeats 2000000 in
theorem MX4_remove {N : Nat} {o : Nat} {a0 : Int32} {w : AW} {wZ : AW} (ho : isJ o) (hf : fX4_remove N o a0 w = some wZ) : CallOK PC yX4_remove cX4_remove 3 none 2 [.ref o, .int a0] w none wZ := by
  refine CallOK.of (ls := [some (.ref o), some (.int a0), none]) (by decide) (by simp) rfl rfl ?_
  obtain ⟨Q, eQ⟩ : ∃ Q, Q = Qret cX4_remove none none wZ := ⟨_, rfl⟩
  rw [← eQ]
  unfold fX4_remove at hf
  refine E_aload_n (v := o) dX4_remove_0 rfl ?_
  refine E_iload_n (v := a0) dX4_remove_1 rfl ?_
  obtain ⟨r2, hc1, hf⟩ := bd_some hf
  try dsimp only at hf
  refine E_callVi (rest := []) (ci := 4) cv_RX4_31 dX4_remove_2 (MX4_has ho hc1) rfl (J_s0 ho) rfl (by decide) rfl rfl (fun _ => Nat.le_of_ble_eq_true rfl) ?_
  refine E_if_ne 9 dX4_remove_5 (by decide) (fun hc3 => ?_) (fun hc3 => ?_)
  · rw [if_pos hc3] at hf
    obtain rfl := Option.some.inj hf
    exact E.done (by rw [eQ]; exact ⟨rfl, Or.inr ⟨rfl, rfl, dX4_remove_8, rfl⟩⟩)
  · rw [if_neg hc3] at hf
    refine E_iload_n (v := a0) dX4_remove_9 rfl ?_
    refine E_istore_n (ls' := [some (.ref o), some (.int a0), some (.int a0)]) dX4_remove_10 rfl rfl rfl ?_
    obtain ⟨q, hw12, hf⟩ := bd_some hf
    try dsimp only at hf
    refine E.fewer (ls' := [some (.ref o), none, some (.int a0)]) ⟨Or.inr rfl, ⟨Or.inl rfl, ⟨Or.inr rfl, trivial⟩⟩⟩ ?_
    show (fun (s : Int32 × AW) => E PC RX4 cX4_remove 3 2 11 [some (.ref o), none, some (.int s.1)] [] s.2 Q) (a0, w)
    refine wh_E (K := (fun (s : Int32 × AW) => E PC RX4 cX4_remove 3 2 11 [some (.ref o), none, some (.int s.1)] [] s.2 Q)) (X := (fun (s : AW) => E PC RX4 cX4_remove 3 2 97 [some (.ref o), none, none] [] s Q)) ?_ hw12 ?_
    · intro s9 z9 hf k9
      obtain ⟨x2_11_1, w_11_1⟩ := s9
      dsimp only [lbX4_remove_11_1] at hf
      show E PC RX4 cX4_remove 3 2 11 [some (.ref o), none, some (.int x2_11_1)] [] w_11_1 Q
      refine E_iload_n (v := x2_11_1) dX4_remove_11 rfl ?_
      refine E_iconst 1 dX4_remove_12 ic_1 ?_
      refine E_iadd dX4_remove_13 ?_
      refine E_aload_n (v := o) dX4_remove_14 rfl ?_
      refine E_getI fg_RX4_9 dX4_remove_15 (J_s0 ho) rfl ?_
      refine E_icmp_ge 97 dX4_remove_18 (by decide) (fun hc4 => ?_) (fun hc4 => ?_)
      · rw [if_pos hc4] at hf
        obtain rfl := Option.some.inj hf
        refine E.fewer (ls' := [some (.ref o), none, none]) ⟨Or.inr rfl, ⟨Or.inl rfl, ⟨Or.inl rfl, trivial⟩⟩⟩ ?_
        exact k9
      · rw [if_neg hc4] at hf
        refine E_aload_n (v := o) dX4_remove_21 rfl ?_
        refine E_getR fg_RX4_15 dX4_remove_22 (J_s0 ho) rfl (J_r0_1 ho) (Nat.succ_ne_zero _) ?_
        refine E_iload_n (v := x2_11_1) dX4_remove_25 rfl ?_
        refine E_aload_n (v := o) dX4_remove_26 rfl ?_
        refine E_getR fg_RX4_15 dX4_remove_27 (J_s0 ho) rfl (J_r0_1 ho) (Nat.succ_ne_zero _) ?_
        refine E_iload_n (v := x2_11_1) dX4_remove_30 rfl ?_
        refine E_iconst 1 dX4_remove_31 ic_1 ?_
        refine E_iadd dX4_remove_32 ?_
        obtain ⟨hi5, hf⟩ := gd_some hf
        refine E_iald (n := 6) dX4_remove_33 (J_s1 ho) (by decide) (inb_in hi5) ?_
        obtain ⟨hi6, hf⟩ := gd_some hf
        obtain ⟨w7, ew7, hf⟩ := lw_some hf
        try dsimp only at hf
        refine E_iast (n := 6) dX4_remove_34 (J_s1 ho) (by decide) (inb_in hi6) ?_
        rw [← ew7]
        refine E_aload_n (v := o) dX4_remove_35 rfl ?_
        refine E_getR fg_RX4_19 dX4_remove_36 (J_s0 ho) rfl (J_r0_2 ho) (Nat.succ_ne_zero _) ?_
        refine E_iload_n (v := x2_11_1) dX4_remove_39 rfl ?_
        refine E_aload_n (v := o) dX4_remove_40 rfl ?_
        refine E_getR fg_RX4_19 dX4_remove_41 (J_s0 ho) rfl (J_r0_2 ho) (Nat.succ_ne_zero _) ?_
        refine E_iload_n (v := x2_11_1) dX4_remove_44 rfl ?_
        refine E_iconst 1 dX4_remove_45 ic_1 ?_
        refine E_iadd dX4_remove_46 ?_
        refine E_iald (n := 6) dX4_remove_47 (J_s2 ho) (by decide) (inb_in hi5) ?_
        obtain ⟨w8, ew8, hf⟩ := lw_some hf
        try dsimp only at hf
        refine E_iast (n := 6) dX4_remove_48 (J_s2 ho) (by decide) (inb_in hi6) ?_
        rw [← ew8]
        refine E_aload_n (v := o) dX4_remove_49 rfl ?_
        refine E_getR fg_RX4_22 dX4_remove_50 (J_s0 ho) rfl (J_r0_3 ho) (Nat.succ_ne_zero _) ?_
        refine E_iload_n (v := x2_11_1) dX4_remove_53 rfl ?_
        refine E_aload_n (v := o) dX4_remove_54 rfl ?_
        refine E_getR fg_RX4_22 dX4_remove_55 (J_s0 ho) rfl (J_r0_3 ho) (Nat.succ_ne_zero _) ?_
        refine E_iload_n (v := x2_11_1) dX4_remove_58 rfl ?_
        refine E_iconst 1 dX4_remove_59 ic_1 ?_
        refine E_iadd dX4_remove_60 ?_
        refine E_iald (n := 6) dX4_remove_61 (J_s3 ho) (by decide) (inb_in hi5) ?_
        obtain ⟨w9, ew9, hf⟩ := lw_some hf
        try dsimp only at hf
        refine E_iast (n := 6) dX4_remove_62 (J_s3 ho) (by decide) (inb_in hi6) ?_
        rw [← ew9]
        refine E_aload_n (v := o) dX4_remove_63 rfl ?_
        refine E_getR fg_RX4_25 dX4_remove_64 (J_s0 ho) rfl (J_r0_4 ho) (Nat.succ_ne_zero _) ?_
        refine E_iload_n (v := x2_11_1) dX4_remove_67 rfl ?_
        refine E_aload_n (v := o) dX4_remove_68 rfl ?_
        refine E_getR fg_RX4_25 dX4_remove_69 (J_s0 ho) rfl (J_r0_4 ho) (Nat.succ_ne_zero _) ?_
        refine E_iload_n (v := x2_11_1) dX4_remove_72 rfl ?_
        refine E_iconst 1 dX4_remove_73 ic_1 ?_
        refine E_iadd dX4_remove_74 ?_
        refine E_iald (n := 6) dX4_remove_75 (J_s4 ho) (by decide) (inb_in hi5) ?_
        obtain ⟨w10, ew10, hf⟩ := lw_some hf
        try dsimp only at hf
        refine E_iast (n := 6) dX4_remove_76 (J_s4 ho) (by decide) (inb_in hi6) ?_
        rw [← ew10]
        refine E_aload_n (v := o) dX4_remove_77 rfl ?_
        refine E_getR fg_RX4_28 dX4_remove_78 (J_s0 ho) rfl (J_r0_5 ho) (Nat.succ_ne_zero _) ?_
        refine E_iload_n (v := x2_11_1) dX4_remove_81 rfl ?_
        refine E_aload_n (v := o) dX4_remove_82 rfl ?_
        refine E_getR fg_RX4_28 dX4_remove_83 (J_s0 ho) rfl (J_r0_5 ho) (Nat.succ_ne_zero _) ?_
        refine E_iload_n (v := x2_11_1) dX4_remove_86 rfl ?_
        refine E_iconst 1 dX4_remove_87 ic_1 ?_
        refine E_iadd dX4_remove_88 ?_
        refine E_iald (n := 6) dX4_remove_89 (J_s5 ho) (by decide) (inb_in hi5) ?_
        obtain ⟨w11, ew11, hf⟩ := lw_some hf
        try dsimp only at hf
        refine E_iast (n := 6) dX4_remove_90 (J_s5 ho) (by decide) (inb_in hi6) ?_
        rw [← ew11]
        refine E_iinc (ls' := [some (.ref o), none, some (.int (x2_11_1 + 1))]) 1 dX4_remove_91 rfl ic_1 rfl rfl rfl ?_
        refine E_goto 11 dX4_remove_94 (by decide) ?_
        obtain rfl := Option.some.inj hf
        exact k9
    · skip
      obtain ⟨w13, hq9⟩ : ∃ a, a = q := ⟨_, rfl⟩
      subst hq9
      try dsimp only at hf
      show E PC RX4 cX4_remove 3 2 97 [some (.ref o), none, none] [] w13 Q
      refine E_aload_n (v := o) dX4_remove_97 rfl ?_
      refine E_dup_r dX4_remove_98 ?_
      refine E_getI fg_RX4_9 dX4_remove_99 (J_s0 ho) rfl ?_
      refine E_iconst 1 dX4_remove_102 ic_1 ?_
      refine E_isub dX4_remove_103 ?_
      obtain ⟨w14, ew14, hf⟩ := lw_some hf
      try dsimp only at hf
      refine E_putI fp_RX4_9 dX4_remove_104 (J_s0 ho) rfl rfl rfl ?_
      rw [← ew14]
      obtain rfl := Option.some.inj hf
      exact E.done (by rw [eQ]; exact ⟨rfl, Or.inr ⟨rfl, rfl, dX4_remove_107, rfl⟩⟩)
set_option maxRecDepth 10000 in
set_option maxHeartbeats 2000000 in
theorem MX10_oddsOfAll {N : Nat} {t : Nat} {w : AW} {rZ : Int32} (ht : isT t) (hf : fX10_oddsOfAll N t w = some rZ) : CallOK PC yX10_oddsOfAll cX10_oddsOfAll 3 (some .int) 1 [.ref t] w (some (.int rZ)) w := by
  refine CallOK.of (ls := [some (.ref t), none, none]) (by decide) (by simp) rfl rfl ?_
  obtain ⟨Q, eQ⟩ : ∃ Q, Q = Qret cX10_oddsOfAll (some .int) (some (.int rZ)) w := ⟨_, rfl⟩
  rw [← eQ]
  unfold fX10_oddsOfAll at hf
  refine E_iconst 0 dX10_oddsOfAll_0 ic_0 ?_
  refine E_istore_n (ls' := [some (.ref t), some (.int 0), none]) dX10_oddsOfAll_1 rfl rfl rfl ?_
  refine E_iconst 0 dX10_oddsOfAll_2 ic_0 ?_
  refine E_istore_n (ls' := [some (.ref t), some (.int 0), some (.int 0)]) dX10_oddsOfAll_3 rfl rfl rfl ?_
  obtain ⟨q, hw4, hf⟩ := bd_some hf
  try dsimp only at hf
  show (fun (s : Int32 × Int32) => E PC RX10 cX10_oddsOfAll 3 1 4 [some (.ref t), some (.int s.1), some (.int s.2)] [] w Q) (0, 0)
  refine wh_E (K := (fun (s : Int32 × Int32) => E PC RX10 cX10_oddsOfAll 3 1 4 [some (.ref t), some (.int s.1), some (.int s.2)] [] w Q)) (X := (fun (s : Int32) => E PC RX10 cX10_oddsOfAll 3 1 27 [none, some (.int s), none] [] w Q)) ?_ hw4 ?_
  · intro s9 z9 hf k9
    obtain ⟨x1_4_1, x2_4_1⟩ := s9
    dsimp only [lbX10_oddsOfAll_4_1] at hf
    show E PC RX10 cX10_oddsOfAll 3 1 4 [some (.ref t), some (.int x1_4_1), some (.int x2_4_1)] [] w Q
    refine E_iload_n (v := x2_4_1) dX10_oddsOfAll_4 rfl ?_
    refine E_aload_n (v := t) dX10_oddsOfAll_5 rfl ?_
    refine E_getI fg_RX10_9 dX10_oddsOfAll_6 (T_s0 ht) rfl ?_
    refine E_icmp_ge 27 dX10_oddsOfAll_9 (by decide) (fun hc1 => ?_) (fun hc1 => ?_)
    · rw [if_pos hc1] at hf
      obtain rfl := Option.some.inj hf
      refine E.fewer (ls' := [none, some (.int x1_4_1), none]) ⟨Or.inl rfl, ⟨Or.inr rfl, ⟨Or.inl rfl, trivial⟩⟩⟩ ?_
      exact k9
    · rw [if_neg hc1] at hf
      refine E_iload_n (v := x1_4_1) dX10_oddsOfAll_12 rfl ?_
      refine E_aload_n (v := t) dX10_oddsOfAll_13 rfl ?_
      refine E_getR fg_RX10_34 dX10_oddsOfAll_14 (T_s0 ht) rfl (T_r0_7 ht) (Nat.succ_ne_zero _) ?_
      refine E_iload_n (v := x2_4_1) dX10_oddsOfAll_17 rfl ?_
      obtain ⟨hi2, hf⟩ := gd_some hf
      refine E_iald (n := 3) dX10_oddsOfAll_18 (T_s6 ht) (by decide) (inb_in hi2) ?_
      refine E_iadd dX10_oddsOfAll_19 ?_
      obtain ⟨v3, ev3, hf⟩ := lw_some hf
      try dsimp only at hf
      rw [← ev3]
      refine E_istore_n (ls' := [some (.ref t), some (.int v3), some (.int x2_4_1)]) dX10_oddsOfAll_20 rfl rfl rfl ?_
      refine E_iinc (ls' := [some (.ref t), some (.int v3), some (.int (x2_4_1 + 1))]) 1 dX10_oddsOfAll_21 rfl ic_1 rfl rfl rfl ?_
      refine E_goto 4 dX10_oddsOfAll_24 (by decide) ?_
      obtain rfl := Option.some.inj hf
      exact k9
  · skip
    obtain ⟨y5, hq9⟩ : ∃ a, a = q := ⟨_, rfl⟩
    subst hq9
    try dsimp only at hf
    show E PC RX10 cX10_oddsOfAll 3 1 27 [none, some (.int y5), none] [] w Q
    refine E_iload_n (v := y5) dX10_oddsOfAll_27 rfl ?_
    obtain rfl := Option.some.inj hf
    exact E.done (by rw [eQ]; exact ⟨rfl, Or.inl ⟨_, _, rfl, rfl, dX10_oddsOfAll_28, rfl, rfl⟩⟩)
set_option maxRecDepth 10000 in
set_option maxHeartbeats 2000000 in
theorem MX0_mostOf_b {N n9 : Nat} {rec : Nat → Nat → Int32 → Int32 → AW → Option (Int32 × AW)} (hrec : ∀ (o0 : Nat) (o1 : Nat) (a2 : Int32) (a3 : Int32) (w : AW) (rZ : Int32) (wZ : AW) (ho0 : isT o0) (ho1 : isJ o1) , rec o0 o1 a2 a3 w = some (rZ, wZ) → CallOK PC yX0_mostOf cX0_mostOf 9 (some .int) (14 + n9 - 1) [.ref 58, .ref o0, .ref o1, .int a2, .int a3] w (some (.int rZ)) wZ) {o0 : Nat} {o1 : Nat} {a2 : Int32} {a3 : Int32} {w : AW} {rZ : Int32} {wZ : AW} (ho0 : isT o0) (ho1 : isJ o1) (hf : fX0_mostOf_b N rec o0 o1 a2 a3 w = some (rZ, wZ)) : CallOK PC yX0_mostOf cX0_mostOf 9 (some .int) (14 + n9) [.ref 58, .ref o0, .ref o1, .int a2, .int a3] w (some (.int rZ)) wZ := by
  refine CallOK.of (ls := [some (.ref 58), some (.ref o0), some (.ref o1), some (.int a2), some (.int a3), none, none, none, none]) (by decide) (by simp) rfl rfl ?_
  obtain ⟨Q, eQ⟩ : ∃ Q, Q = Qret cX0_mostOf (some .int) (some (.int rZ)) wZ := ⟨_, rfl⟩
  rw [← eQ]
  unfold fX0_mostOf_b at hf
  refine E_iload (v := a3) dX0_mostOf_0 rfl ?_
  refine E_if_gt 16 dX0_mostOf_2 (by decide) (fun hc1 => ?_) (fun hc1 => ?_)
  · rw [if_pos hc1] at hf
    refine E_aload_n (v := 58) dX0_mostOf_16 rfl ?_
    refine E_aload_n (v := o0) dX0_mostOf_17 rfl ?_
    refine E_aload_n (v := o1) dX0_mostOf_18 rfl ?_
    refine E_iload_n (v := a2) dX0_mostOf_19 rfl ?_
    refine E_iload (v := a3) dX0_mostOf_20 rfl ?_
    refine E_iconst 1 dX0_mostOf_22 ic_1 ?_
    refine E_isub dX0_mostOf_23 ?_
    obtain ⟨r3, w4, hc2, hf⟩ := bd2_some hf
    try dsimp only at hf
    refine E_callVi (rest := []) (ci := 0) cv_RX0_21 dX0_mostOf_24 (hrec _ _ _ _ _ _ _ ho0 ho1 hc2) (Nat.ble_eq_true_of_le (by omega)) sC_58 rfl (by decide) rfl rfl (fun _ => Nat.le_of_ble_eq_true rfl) ?_
    refine E_istore (ls' := [some (.ref 58), some (.ref o0), some (.ref o1), some (.int a2), some (.int a3), some (.int r3), none, none, none]) dX0_mostOf_27 rfl rfl rfl ?_
    refine E_iload (v := r3) dX0_mostOf_29 rfl ?_
    refine E_iconst 4 dX0_mostOf_31 ic_4 ?_
    refine E_aload_n (v := o0) dX0_mostOf_32 rfl ?_
    obtain ⟨r7, hc6, hf⟩ := bd_some hf
    try dsimp only at hf
    refine E_callVi (rest := [.int 4, .int r3]) (ci := 10) cv_RX0_25 dX0_mostOf_33 (MX10_oddsOfAll ho0 hc6) (Nat.ble_eq_true_of_le (by omega)) (T_s0 ho0) rfl (by decide) rfl rfl (fun _ => Nat.le_of_ble_eq_true rfl) ?_
    refine E_isub dX0_mostOf_36 ?_
    refine E_imul dX0_mostOf_37 ?_
    refine E_istore (ls' := [some (.ref 58), some (.ref o0), some (.ref o1), some (.int a2), some (.int a3), some (.int r3), some (.int (r3 * (4 - r7))), none, none]) dX0_mostOf_38 rfl rfl rfl ?_
    refine E_iconst 0 dX0_mostOf_40 ic_0 ?_
    refine E_istore (ls' := [some (.ref 58), some (.ref o0), some (.ref o1), some (.int a2), some (.int a3), some (.int r3), some (.int (r3 * (4 - r7))), some (.int 0), none]) dX0_mostOf_41 rfl rfl rfl ?_
    obtain ⟨q, hw19, hf⟩ := bd_some hf
    try dsimp only at hf
    show (fun (s : Int32 × Int32 × AW) => E PC RX0 cX0_mostOf 9 (14 + n9) 43 [some (.ref 58), some (.ref o0), some (.ref o1), some (.int a2), some (.int a3), some (.int r3), some (.int s.1), some (.int s.2.1), none] [] s.2.2 Q) ((r3 * (4 - r7)), 0, w4)
    refine wh_E (K := (fun (s : Int32 × Int32 × AW) => E PC RX0 cX0_mostOf 9 (14 + n9) 43 [some (.ref 58), some (.ref o0), some (.ref o1), some (.int a2), some (.int a3), some (.int r3), some (.int s.1), some (.int s.2.1), none] [] s.2.2 Q)) (X := (fun (s : Int32 × AW) => E PC RX0 cX0_mostOf 9 (14 + n9) 142 [none, none, none, none, none, none, some (.int s.1), none, none] [] s.2 Q)) ?_ hw19 ?_
    · intro s9 z9 hf k9
      obtain ⟨x6_43_1, x7_43_1, w_43_1⟩ := s9
      dsimp only [lbX0_mostOf_43_1] at hf
      show E PC RX0 cX0_mostOf 9 (14 + n9) 43 [some (.ref 58), some (.ref o0), some (.ref o1), some (.int a2), some (.int a3), some (.int r3), some (.int x6_43_1), some (.int x7_43_1), none] [] w_43_1 Q
      refine E_iload (v := x7_43_1) dX0_mostOf_43 rfl ?_
      refine E_aload_n (v := o0) dX0_mostOf_45 rfl ?_
      refine E_getI fg_RX0_31 dX0_mostOf_46 (T_s0 ho0) rfl ?_
      refine E_icmp_ge 142 dX0_mostOf_49 (by decide) (fun hc8 => ?_) (fun hc8 => ?_)
      · rw [if_pos hc8] at hf
        obtain rfl := Option.some.inj hf
        refine E.fewer (ls' := [none, none, none, none, none, none, some (.int x6_43_1), none, none]) ⟨Or.inl rfl, ⟨Or.inl rfl, ⟨Or.inl rfl, ⟨Or.inl rfl, ⟨Or.inl rfl, ⟨Or.inl rfl, ⟨Or.inr rfl, ⟨Or.inl rfl, ⟨Or.inl rfl, trivial⟩⟩⟩⟩⟩⟩⟩⟩⟩ ?_
        exact k9
      · rw [if_neg hc8] at hf
        refine E_aload_n (v := o1) dX0_mostOf_52 rfl ?_
        refine E_aload_n (v := o0) dX0_mostOf_53 rfl ?_
        refine E_getR fg_RX0_35 dX0_mostOf_54 (T_s0 ho0) rfl (T_r0_2 ho0) (Nat.succ_ne_zero _) ?_
        refine E_iload (v := x7_43_1) dX0_mostOf_57 rfl ?_
        obtain ⟨hi9, hf⟩ := gd_some hf
        refine E_iald (n := 3) dX0_mostOf_59 (T_s1 ho0) (by decide) (inb_in hi9) ?_
        refine E_aload_n (v := o0) dX0_mostOf_60 rfl ?_
        refine E_getR fg_RX0_39 dX0_mostOf_61 (T_s0 ho0) rfl (T_r0_3 ho0) (Nat.succ_ne_zero _) ?_
        refine E_iload (v := x7_43_1) dX0_mostOf_64 rfl ?_
        refine E_iald (n := 3) dX0_mostOf_66 (T_s2 ho0) (by decide) (inb_in hi9) ?_
        refine E_aload_n (v := o0) dX0_mostOf_67 rfl ?_
        refine E_getR fg_RX0_42 dX0_mostOf_68 (T_s0 ho0) rfl (T_r0_4 ho0) (Nat.succ_ne_zero _) ?_
        refine E_iload (v := x7_43_1) dX0_mostOf_71 rfl ?_
        refine E_iald (n := 3) dX0_mostOf_73 (T_s3 ho0) (by decide) (inb_in hi9) ?_
        refine E_iload_n (v := a2) dX0_mostOf_74 rfl ?_
        refine E_aload_n (v := o0) dX0_mostOf_75 rfl ?_
        refine E_getR fg_RX0_45 dX0_mostOf_76 (T_s0 ho0) rfl (T_r0_5 ho0) (Nat.succ_ne_zero _) ?_
        refine E_iload (v := x7_43_1) dX0_mostOf_79 rfl ?_
        refine E_iald (n := 3) dX0_mostOf_81 (T_s4 ho0) (by decide) (inb_in hi9) ?_
        refine E_iadd dX0_mostOf_82 ?_
        refine E_aload_n (v := o0) dX0_mostOf_83 rfl ?_
        refine E_getR fg_RX0_48 dX0_mostOf_84 (T_s0 ho0) rfl (T_r0_6 ho0) (Nat.succ_ne_zero _) ?_
        refine E_iload (v := x7_43_1) dX0_mostOf_87 rfl ?_
        refine E_iald (n := 3) dX0_mostOf_89 (T_s5 ho0) (by decide) (inb_in hi9) ?_
        obtain ⟨w11, hc10, hf⟩ := bd_some hf
        try dsimp only at hf
        refine E_callVv (rest := []) (ci := 4) cv_RX0_51 dX0_mostOf_90 (MX4_add ho1 hc10) (Nat.ble_eq_true_of_le (by omega)) (J_s0 ho1) rfl (by decide) rfl rfl (fun _ => Nat.le_of_ble_eq_true rfl) ?_
        refine E_aload_n (v := 58) dX0_mostOf_93 rfl ?_
        refine E_aload_n (v := o0) dX0_mostOf_94 rfl ?_
        refine E_aload_n (v := o1) dX0_mostOf_95 rfl ?_
        refine E_iload_n (v := a2) dX0_mostOf_96 rfl ?_
        refine E_iload (v := a3) dX0_mostOf_97 rfl ?_
        refine E_iconst 1 dX0_mostOf_99 ic_1 ?_
        refine E_isub dX0_mostOf_100 ?_
        obtain ⟨r13, w14, hc12, hf⟩ := bd2_some hf
        try dsimp only at hf
        refine E_callVi (rest := []) (ci := 0) cv_RX0_21 dX0_mostOf_101 (hrec _ _ _ _ _ _ _ ho0 ho1 hc12) (Nat.ble_eq_true_of_le (by omega)) sC_58 rfl (by decide) rfl rfl (fun _ => Nat.le_of_ble_eq_true rfl) ?_
        refine E_istore (ls' := [some (.ref 58), some (.ref o0), some (.ref o1), some (.int a2), some (.int a3), some (.int r3), some (.int x6_43_1), some (.int x7_43_1), some (.int r13)]) dX0_mostOf_104 rfl rfl rfl ?_
        refine E_aload_n (v := o1) dX0_mostOf_106 rfl ?_
        refine E_aload_n (v := o1) dX0_mostOf_107 rfl ?_
        refine E_getI fg_RX0_57 dX0_mostOf_108 (J_s0 ho1) rfl ?_
        refine E_iconst 1 dX0_mostOf_111 ic_1 ?_
        refine E_isub dX0_mostOf_112 ?_
        obtain ⟨w17, hc16, hf⟩ := bd_some hf
        try dsimp only at hf
        refine E_callVv (rest := []) (ci := 4) cv_RX0_58 dX0_mostOf_113 (MX4_remove ho1 hc16) (Nat.ble_eq_true_of_le (by omega)) (J_s0 ho1) rfl (by decide) rfl rfl (fun _ => Nat.le_of_ble_eq_true rfl) ?_
        refine E_iload (v := x6_43_1) dX0_mostOf_116 rfl ?_
        refine E_aload_n (v := o0) dX0_mostOf_118 rfl ?_
        refine E_getR fg_RX0_62 dX0_mostOf_119 (T_s0 ho0) rfl (T_r0_7 ho0) (Nat.succ_ne_zero _) ?_
        refine E_iload (v := x7_43_1) dX0_mostOf_122 rfl ?_
        refine E_iald (n := 3) dX0_mostOf_124 (T_s6 ho0) (by decide) (inb_in hi9) ?_
        refine E_iload (v := r13) dX0_mostOf_125 rfl ?_
        refine E_iload (v := r3) dX0_mostOf_127 rfl ?_
        refine E_mmax wl_RX0_65 wsM_max win_math wcM_max dX0_mostOf_129 (by omega) (fun _ => Nat.le_of_ble_eq_true rfl) ?_
        refine E_imul dX0_mostOf_132 ?_
        refine E_iadd dX0_mostOf_133 ?_
        obtain ⟨v18, ev18, hf⟩ := lw_some hf
        try dsimp only at hf
        rw [← ev18]
        refine E_istore (ls' := [some (.ref 58), some (.ref o0), some (.ref o1), some (.int a2), some (.int a3), some (.int r3), some (.int v18), some (.int x7_43_1), some (.int r13)]) dX0_mostOf_134 rfl rfl rfl ?_
        refine E_iinc (ls' := [some (.ref 58), some (.ref o0), some (.ref o1), some (.int a2), some (.int a3), some (.int r3), some (.int v18), some (.int (x7_43_1 + 1)), some (.int r13)]) 1 dX0_mostOf_136 rfl ic_1 rfl rfl rfl ?_
        refine E_goto 43 dX0_mostOf_139 (by decide) ?_
        obtain rfl := Option.some.inj hf
        refine E.fewer (ls' := [some (.ref 58), some (.ref o0), some (.ref o1), some (.int a2), some (.int a3), some (.int r3), some (.int v18), some (.int (x7_43_1 + 1)), none]) ⟨Or.inr rfl, ⟨Or.inr rfl, ⟨Or.inr rfl, ⟨Or.inr rfl, ⟨Or.inr rfl, ⟨Or.inr rfl, ⟨Or.inr rfl, ⟨Or.inr rfl, ⟨Or.inl rfl, trivial⟩⟩⟩⟩⟩⟩⟩⟩⟩ ?_
        exact k9
    · skip
      obtain ⟨y20, w21⟩ := q
      try dsimp only at hf
      show E PC RX0 cX0_mostOf 9 (14 + n9) 142 [none, none, none, none, none, none, some (.int y20), none, none] [] w21 Q
      refine E_iload (v := y20) dX0_mostOf_142 rfl ?_
      obtain ⟨rfl, rfl⟩ := ret2 hf
      exact E.done (by rw [eQ]; exact ⟨rfl, Or.inl ⟨_, _, rfl, rfl, dX0_mostOf_144, rfl, rfl⟩⟩)
  · rw [if_neg hc1] at hf
    refine E_aload_n (v := 58) dX0_mostOf_5 rfl ?_
    refine E_getR fg_RX0_9 dX0_mostOf_6 sC_58 rfl rC_58_0 (Nat.succ_ne_zero _) ?_
    refine E_aload_n (v := o1) dX0_mostOf_9 rfl ?_
    refine E_bipush (-9) dX0_mostOf_10 bp_m9 ?_
    obtain ⟨r23, w24, hc22, hf⟩ := bd2_some hf
    try dsimp only at hf
    refine E_callVi (rest := []) (ci := 5) cv_RX0_15 dX0_mostOf_12 (MX5_mostWorth ho1 hc22) (Nat.ble_eq_true_of_le (by omega)) sC_49 rfl (by decide) rfl rfl (fun _ => Nat.le_of_ble_eq_true rfl) ?_
    obtain ⟨rfl, rfl⟩ := ret2 hf
    exact E.done (by rw [eQ]; exact ⟨rfl, Or.inl ⟨_, _, rfl, rfl, dX0_mostOf_15, rfl, rfl⟩⟩)
theorem MX0_mostOf {N : Nat} : ∀ (n : Nat) (o0 : Nat) (o1 : Nat) (a2 : Int32) (a3 : Int32) (w : AW) (rZ : Int32) (wZ : AW) (ho0 : isT o0) (ho1 : isJ o1) , fX0_mostOf N n o0 o1 a2 a3 w = some (rZ, wZ) → CallOK PC yX0_mostOf cX0_mostOf 9 (some .int) (14 + n) [.ref 58, .ref o0, .ref o1, .int a2, .int a3] w (some (.int rZ)) wZ := by
  intro n
  induction n with
  | zero => intro o0 o1 a2 a3 w rZ wZ ho0 ho1 hf; simp [fX0_mostOf] at hf
  | succ n ih => intro o0 o1 a2 a3 w rZ wZ ho0 ho1 hf; exact MX0_mostOf_b (n9 := n + 1) (fun o0 o1 a2 a3 w z ho0 ho1 h => ih o0 o1 a2 a3 w z ho0 ho1 h) ho0 ho1 (by simpa [fX0_mostOf] using hf)
set_option maxRecDepth 10000 in
set_option maxHeartbeats 2000000 in
theorem MX11_ahead {N : Nat} {a0 : Int32} {a1 : Int32} {w : AW} {rZ : Int32} {wZ : AW} (hf : fX11_ahead N a0 a1 w = some (rZ, wZ)) : CallOK PC yX11_ahead cX11_ahead 3 (some .int) 20 [.ref 0, .int a0, .int a1] w (some (.int rZ)) wZ := by
  refine CallOK.of (ls := [some (.ref 0), some (.int a0), some (.int a1)]) (by decide) (by simp) rfl rfl ?_
  obtain ⟨Q, eQ⟩ : ∃ Q, Q = Qret cX11_ahead (some .int) (some (.int rZ)) wZ := ⟨_, rfl⟩
  rw [← eQ]
  unfold fX11_ahead at hf
  refine E_iload_n (v := a0) dX11_ahead_0 rfl ?_
  refine E_iconst 0 dX11_ahead_1 ic_0 ?_
  refine E_iconst 3 dX11_ahead_2 ic_3 ?_
  obtain ⟨r2, hc1, hf⟩ := bd_some hf
  try dsimp only at hf
  refine E_callSi (rest := []) cs_RX11_100 dX11_ahead_3 (MX11_within hc1) rfl rfl rfl (fun _ => Nat.le_of_ble_eq_true rfl) ?_
  refine E_if_eq 34 dX11_ahead_6 (by decide) (fun hc3 => ?_) (fun hc3 => ?_)
  · rw [if_pos hc3] at hf
    refine E_ldc (-2147483648) dX11_ahead_34 wk_RX11_207 ?_
    obtain ⟨rfl, rfl⟩ := ret2 hf
    exact E.done (by rw [eQ]; exact ⟨rfl, Or.inl ⟨_, _, rfl, rfl, dX11_ahead_36, rfl, rfl⟩⟩)
  · rw [if_neg hc3] at hf
    refine E_iload_n (v := a1) dX11_ahead_9 rfl ?_
    refine E_iconst 0 dX11_ahead_10 ic_0 ?_
    refine E_iconst 1 dX11_ahead_11 ic_1 ?_
    obtain ⟨r5, hc4, hf⟩ := bd_some hf
    try dsimp only at hf
    refine E_callSi (rest := []) cs_RX11_100 dX11_ahead_12 (MX11_within hc4) rfl rfl rfl (fun _ => Nat.le_of_ble_eq_true rfl) ?_
    refine E_if_eq 34 dX11_ahead_15 (by decide) (fun hc6 => ?_) (fun hc6 => ?_)
    · rw [if_pos hc6] at hf
      refine E_ldc (-2147483648) dX11_ahead_34 wk_RX11_207 ?_
      obtain ⟨rfl, rfl⟩ := ret2 hf
      exact E.done (by rw [eQ]; exact ⟨rfl, Or.inl ⟨_, _, rfl, rfl, dX11_ahead_36, rfl, rfl⟩⟩)
    · rw [if_neg hc6] at hf
      refine E_aload_n (v := 0) dX11_ahead_18 rfl ?_
      refine E_getR fg_RX11_10 dX11_ahead_19 sC_0 rfl rC_0_0 (Nat.succ_ne_zero _) ?_
      refine E_getR fg_RX11_130 dX11_ahead_22 sC_1 rfl rC_1_0 (Nat.succ_ne_zero _) ?_
      refine E_getI fg_RX11_131 dX11_ahead_25 sC_2 rfl ?_
      refine E_iload_n (v := a0) dX11_ahead_28 rfl ?_
      refine E_iadd dX11_ahead_29 ?_
      refine E_iconst 5 dX11_ahead_30 ic_5 ?_
      refine E_icmp_le 37 dX11_ahead_31 (by decide) (fun hc7 => ?_) (fun hc7 => ?_)
      · rw [if_pos hc7] at hf
        refine E_aload_n (v := 0) dX11_ahead_37 rfl ?_
        refine E_getR fg_RX11_43 dX11_ahead_38 sC_0 rfl rC_0_6 (Nat.succ_ne_zero _) ?_
        refine E_aload_n (v := 0) dX11_ahead_41 rfl ?_
        refine E_getR fg_RX11_10 dX11_ahead_42 sC_0 rfl rC_0_0 (Nat.succ_ne_zero _) ?_
        refine E_iconst 0 dX11_ahead_45 ic_0 ?_
        obtain ⟨w9, hc8, hf⟩ := bd_some hf
        try dsimp only at hf
        refine E_callVv (rest := []) (ci := 3) cv_RX11_208 dX11_ahead_46 (MX3_measure B_is1 hc8) rfl sC_46 rfl (by decide) rfl rfl (fun _ => Nat.le_of_ble_eq_true rfl) ?_
        refine E_aload_n (v := 0) dX11_ahead_49 rfl ?_
        refine E_getR fg_RX11_82 dX11_ahead_50 sC_0 rfl rC_0_11 (Nat.succ_ne_zero _) ?_
        refine E_aload_n (v := 0) dX11_ahead_53 rfl ?_
        refine E_getR fg_RX11_10 dX11_ahead_54 sC_0 rfl rC_0_0 (Nat.succ_ne_zero _) ?_
        refine E_getR fg_RX11_130 dX11_ahead_57 sC_1 rfl rC_1_0 (Nat.succ_ne_zero _) ?_
        obtain ⟨w11, hc10, hf⟩ := bd_some hf
        try dsimp only at hf
        refine E_callVv (rest := []) (ci := 4) cv_RX11_227 dX11_ahead_60 (MX4_copy J_is61 J_is2 hc10) rfl sC_61 rfl (by decide) rfl rfl (fun _ => Nat.le_of_ble_eq_true rfl) ?_
        refine E_aload_n (v := 0) dX11_ahead_63 rfl ?_
        refine E_getR fg_RX11_68 dX11_ahead_64 sC_0 rfl rC_0_9 (Nat.succ_ne_zero _) ?_
        refine E_aload_n (v := 0) dX11_ahead_67 rfl ?_
        refine E_getR fg_RX11_22 dX11_ahead_68 sC_0 rfl rC_0_2 (Nat.succ_ne_zero _) ?_
        refine E_aload_n (v := 0) dX11_ahead_71 rfl ?_
        refine E_getR fg_RX11_82 dX11_ahead_72 sC_0 rfl rC_0_11 (Nat.succ_ne_zero _) ?_
        refine E_aload_n (v := 0) dX11_ahead_75 rfl ?_
        refine E_getR fg_RX11_10 dX11_ahead_76 sC_0 rfl rC_0_0 (Nat.succ_ne_zero _) ?_
        refine E_getI fg_RX11_186 dX11_ahead_79 sC_1 rfl ?_
        refine E_iload_n (v := a0) dX11_ahead_82 rfl ?_
        obtain ⟨r13, w14, hc12, hf⟩ := bd2_some hf
        try dsimp only at hf
        refine E_callVi (rest := []) (ci := 0) cv_RX11_271 dX11_ahead_83 (MX0_mostOf 5 _ _ _ _ _ _ _ T_is23 J_is61 hc12) rfl sC_58 rfl (by decide) rfl rfl (fun _ => Nat.le_of_ble_eq_true rfl) ?_
        refine E_iconst 2 dX11_ahead_86 ic_2 ?_
        refine E_iload_n (v := a0) dX11_ahead_87 rfl ?_
        refine E_imul dX11_ahead_88 ?_
        refine E_iload_n (v := a1) dX11_ahead_89 rfl ?_
        obtain ⟨r17, hc16, hf⟩ := bd_some hf
        try dsimp only at hf
        refine E_callSi (rest := []) cs_RX11_242 dX11_ahead_90 (MX11_partOf hc16) rfl rfl rfl (fun _ => Nat.le_of_ble_eq_true rfl) ?_
        obtain ⟨rfl, rfl⟩ := ret2 hf
        exact E.done (by rw [eQ]; exact ⟨rfl, Or.inl ⟨_, _, rfl, rfl, dX11_ahead_93, rfl, rfl⟩⟩)
      · rw [if_neg hc7] at hf
        refine E_ldc (-2147483648) dX11_ahead_34 wk_RX11_207 ?_
        obtain ⟨rfl, rfl⟩ := ret2 hf
        exact E.done (by rw [eQ]; exact ⟨rfl, Or.inl ⟨_, _, rfl, rfl, dX11_ahead_36, rfl, rfl⟩⟩)
set_option maxRecDepth 10000 in
set_option maxHeartbeats 2000000 in
theorem MX6_has {a0 : Int32} {a1 : Int32} {w : AW} {rZ : Int32} (hf : fX6_has a0 a1 w = some rZ) : CallOK PC yX6_has cX6_has 3 (some .boolean) 2 [.ref 59, .int a0, .int a1] w (some (.int rZ)) w := by
  refine CallOK.of (ls := [some (.ref 59), some (.int a0), some (.int a1)]) (by decide) (by simp) rfl rfl ?_
  obtain ⟨Q, eQ⟩ : ∃ Q, Q = Qret cX6_has (some .boolean) (some (.int rZ)) w := ⟨_, rfl⟩
  rw [← eQ]
  unfold fX6_has at hf
  refine E_iload_n (v := a0) dX6_has_0 rfl ?_
  refine E_iconst 0 dX6_has_1 ic_0 ?_
  refine E_aload_n (v := 59) dX6_has_2 rfl ?_
  refine E_getI fg_RX6_15 dX6_has_3 sC_59 rfl ?_
  refine E_iconst 1 dX6_has_6 ic_1 ?_
  refine E_isub dX6_has_7 ?_
  obtain ⟨r2, hc1, hf⟩ := bd_some hf
  try dsimp only at hf
  refine E_callNi (rest := []) cn_RX6_23 dX6_has_8 (MX11_within hc1) rfl rfl rfl (fun _ => Nat.le_of_ble_eq_true rfl) ?_
  refine E_if_eq 27 dX6_has_11 (by decide) (fun hc3 => ?_) (fun hc3 => ?_)
  · rw [if_pos hc3] at hf
    refine E_iconst 0 dX6_has_27 ic_0 ?_
    obtain rfl := Option.some.inj hf
    exact E.done (by rw [eQ]; exact ⟨rfl, Or.inl ⟨_, _, rfl, rfl, dX6_has_28, rfl, rfl⟩⟩)
  · rw [if_neg hc3] at hf
    refine E_iload_n (v := a1) dX6_has_14 rfl ?_
    refine E_iconst 0 dX6_has_15 ic_0 ?_
    refine E_iconst 2 dX6_has_16 ic_2 ?_
    obtain ⟨r5, hc4, hf⟩ := bd_some hf
    try dsimp only at hf
    refine E_callNi (rest := []) cn_RX6_23 dX6_has_17 (MX11_within hc4) rfl rfl rfl (fun _ => Nat.le_of_ble_eq_true rfl) ?_
    refine E_if_eq 27 dX6_has_20 (by decide) (fun hc6 => ?_) (fun hc6 => ?_)
    · rw [if_pos hc6] at hf
      refine E_iconst 0 dX6_has_27 ic_0 ?_
      obtain rfl := Option.some.inj hf
      exact E.done (by rw [eQ]; exact ⟨rfl, Or.inl ⟨_, _, rfl, rfl, dX6_has_28, rfl, rfl⟩⟩)
    · rw [if_neg hc6] at hf
      refine E_iconst 1 dX6_has_23 ic_1 ?_
      refine E_goto 28 dX6_has_24 (by decide) ?_
      obtain rfl := Option.some.inj hf
      exact E.done (by rw [eQ]; exact ⟨rfl, Or.inl ⟨_, _, rfl, rfl, dX6_has_28, rfl, rfl⟩⟩)
set_option maxRecDepth 10000 in
set_option maxHeartbeats 2000000 in
theorem MX11_alterRow {a0 : Int32} {a1 : Int32} {a2 : Int32} {w : AW} {rZ : Int32} {wZ : AW} (hf : fX11_alterRow a0 a1 a2 w = some (rZ, wZ)) : CallOK PC yX11_alterRow cX11_alterRow 6 (some .int) 3 [.ref 0, .int a0, .int a1, .int a2] w (some (.int rZ)) wZ := by
  refine CallOK.of (ls := [some (.ref 0), some (.int a0), some (.int a1), some (.int a2), none, none]) (by decide) (by simp) rfl rfl ?_
  obtain ⟨Q, eQ⟩ : ∃ Q, Q = Qret cX11_alterRow (some .int) (some (.int rZ)) wZ := ⟨_, rfl⟩
  rw [← eQ]
  unfold fX11_alterRow at hf
  refine E_aload_n (v := 0) dX11_alterRow_0 rfl ?_
  refine E_getR fg_RX11_75 dX11_alterRow_1 sC_0 rfl rC_0_10 (Nat.succ_ne_zero _) ?_
  refine E_iload_n (v := a0) dX11_alterRow_4 rfl ?_
  refine E_iload_n (v := a1) dX11_alterRow_5 rfl ?_
  obtain ⟨r2, hc1, hf⟩ := bd_some hf
  try dsimp only at hf
  refine E_callVi (rest := []) (ci := 6) cv_RX11_290 dX11_alterRow_6 (MX6_has hc1) rfl sC_59 rfl (by decide) rfl rfl (fun _ => Nat.le_of_ble_eq_true rfl) ?_
  refine E_if_ne 15 dX11_alterRow_9 (by decide) (fun hc3 => ?_) (fun hc3 => ?_)
  · rw [if_pos hc3] at hf
    refine E_ldc (-2147483648) dX11_alterRow_12 wk_RX11_207 ?_
    obtain ⟨rfl, rfl⟩ := ret2 hf
    exact E.done (by rw [eQ]; exact ⟨rfl, Or.inl ⟨_, _, rfl, rfl, dX11_alterRow_14, rfl, rfl⟩⟩)
  · rw [if_neg hc3] at hf
    refine E_iload_n (v := a0) dX11_alterRow_15 rfl ?_
    refine E_iconst 3 dX11_alterRow_16 ic_3 ?_
    refine E_imul dX11_alterRow_17 ?_
    refine E_iload_n (v := a1) dX11_alterRow_18 rfl ?_
    refine E_iadd dX11_alterRow_19 ?_
    refine E_istore (ls' := [some (.ref 0), some (.int a0), some (.int a1), some (.int a2), some (.int ((a0 * 3) + a1)), none]) dX11_alterRow_20 rfl rfl rfl ?_
    refine E_aload_n (v := 0) dX11_alterRow_22 rfl ?_
    refine E_getR fg_RX11_75 dX11_alterRow_23 sC_0 rfl rC_0_10 (Nat.succ_ne_zero _) ?_
    refine E_getR fg_RX11_293 dX11_alterRow_26 sC_59 rfl rC_59_1 (Nat.succ_ne_zero _) ?_
    refine E_iload (v := ((a0 * 3) + a1)) dX11_alterRow_29 rfl ?_
    obtain ⟨hi4, hf⟩ := gd_some hf
    refine E_iald (n := 18) dX11_alterRow_31 sC_60 (by decide) (inb_in hi4) ?_
    obtain ⟨v5, ev5, hf⟩ := lw_some hf
    try dsimp only at hf
    rw [← ev5]
    refine E_istore (ls' := [some (.ref 0), some (.int a0), some (.int a1), some (.int a2), some (.int ((a0 * 3) + a1)), some (.int v5)]) dX11_alterRow_32 rfl rfl rfl ?_
    refine E_aload_n (v := 0) dX11_alterRow_34 rfl ?_
    refine E_getR fg_RX11_75 dX11_alterRow_35 sC_0 rfl rC_0_10 (Nat.succ_ne_zero _) ?_
    refine E_getR fg_RX11_293 dX11_alterRow_38 sC_59 rfl rC_59_1 (Nat.succ_ne_zero _) ?_
    refine E_iload (v := ((a0 * 3) + a1)) dX11_alterRow_41 rfl ?_
    refine E_iload_n (v := a2) dX11_alterRow_43 rfl ?_
    obtain ⟨w6, ew6, hf⟩ := lw_some hf
    try dsimp only at hf
    refine E_iast (n := 18) dX11_alterRow_44 sC_60 (by decide) (inb_in hi4) ?_
    rw [← ew6]
    refine E_iload (v := v5) dX11_alterRow_45 rfl ?_
    obtain ⟨rfl, rfl⟩ := ret2 hf
    exact E.done (by rw [eQ]; exact ⟨rfl, Or.inl ⟨_, _, rfl, rfl, dX11_alterRow_47, rfl, rfl⟩⟩)
set_option maxRecDepth 10000 in
set_option maxHeartbeats 2000000 in
theorem MX11_digitsOf {N : Nat} {r0 : Nat} {a1 : Int32} {w : AW} {rZ : Int32} (hr0 : PC.1[r0]? = some 106) (hf : fX11_digitsOf N r0 a1 w = some rZ) : CallOK PC yX11_digitsOf cX11_digitsOf 4 (some .int) 1 [.ref r0, .int a1] w (some (.int rZ)) w := by
  refine CallOK.of (ls := [some (.ref r0), some (.int a1), none, none]) (by decide) (by simp) rfl rfl ?_
  obtain ⟨Q, eQ⟩ : ∃ Q, Q = Qret cX11_digitsOf (some .int) (some (.int rZ)) w := ⟨_, rfl⟩
  rw [← eQ]
  unfold fX11_digitsOf at hf
  refine E_iconst 0 dX11_digitsOf_0 ic_0 ?_
  refine E_istore_n (ls' := [some (.ref r0), some (.int a1), some (.int 0), none]) dX11_digitsOf_1 rfl rfl rfl ?_
  refine E_iconst 0 dX11_digitsOf_2 ic_0 ?_
  refine E_istore_n (ls' := [some (.ref r0), some (.int a1), some (.int 0), some (.int 0)]) dX11_digitsOf_3 rfl rfl rfl ?_
  obtain ⟨q, hw5, hf⟩ := bd_some hf
  try dsimp only at hf
  show (fun (s : Int32 × Int32) => E PC RX11 cX11_digitsOf 4 1 4 [some (.ref r0), some (.int a1), some (.int s.1), some (.int s.2)] [] w Q) (0, 0)
  refine wh_E (K := (fun (s : Int32 × Int32) => E PC RX11 cX11_digitsOf 4 1 4 [some (.ref r0), some (.int a1), some (.int s.1), some (.int s.2)] [] w Q)) (X := (fun (s : Int32) => E PC RX11 cX11_digitsOf 4 1 31 [none, none, some (.int s), none] [] w Q)) ?_ hw5 ?_
  · intro s9 z9 hf k9
    obtain ⟨x2_4_1, x3_4_1⟩ := s9
    dsimp only [lbX11_digitsOf_4_1] at hf
    show E PC RX11 cX11_digitsOf 4 1 4 [some (.ref r0), some (.int a1), some (.int x2_4_1), some (.int x3_4_1)] [] w Q
    refine E_iload_n (v := x3_4_1) dX11_digitsOf_4 rfl ?_
    refine E_iload_n (v := a1) dX11_digitsOf_5 rfl ?_
    refine E_icmp_ge 31 dX11_digitsOf_6 (by decide) (fun hc1 => ?_) (fun hc1 => ?_)
    · rw [if_pos hc1] at hf
      obtain rfl := Option.some.inj hf
      refine E.fewer (ls' := [none, none, some (.int x2_4_1), none]) ⟨Or.inl rfl, ⟨Or.inl rfl, ⟨Or.inr rfl, ⟨Or.inl rfl, trivial⟩⟩⟩⟩ ?_
      exact k9
    · rw [if_neg hc1] at hf
      refine E_iload_n (v := x3_4_1) dX11_digitsOf_9 rfl ?_
      refine E_aload_n (v := r0) dX11_digitsOf_10 rfl ?_
      refine E_alenI (n := 6) 6 dX11_digitsOf_11 hr0 (by decide) rfl ?_
      refine E_icmp_ge 31 dX11_digitsOf_12 (by decide) (fun hc2 => ?_) (fun hc2 => ?_)
      · rw [if_pos hc2] at hf
        obtain rfl := Option.some.inj hf
        refine E.fewer (ls' := [none, none, some (.int x2_4_1), none]) ⟨Or.inl rfl, ⟨Or.inl rfl, ⟨Or.inr rfl, ⟨Or.inl rfl, trivial⟩⟩⟩⟩ ?_
        exact k9
      · rw [if_neg hc2] at hf
        refine E_iload_n (v := x2_4_1) dX11_digitsOf_15 rfl ?_
        refine E_aload_n (v := r0) dX11_digitsOf_16 rfl ?_
        refine E_iload_n (v := x3_4_1) dX11_digitsOf_17 rfl ?_
        obtain ⟨hi3, hf⟩ := gd_some hf
        refine E_iald (n := 6) dX11_digitsOf_18 hr0 (by decide) (inb_in hi3) ?_
        refine E_iconst 3 dX11_digitsOf_19 ic_3 ?_
        refine E_iload_n (v := x3_4_1) dX11_digitsOf_20 rfl ?_
        refine E_imul dX11_digitsOf_21 ?_
        refine E_ishl dX11_digitsOf_22 ?_
        refine E_ior dX11_digitsOf_23 ?_
        obtain ⟨v4, ev4, hf⟩ := lw_some hf
        try dsimp only at hf
        rw [← ev4]
        refine E_istore_n (ls' := [some (.ref r0), some (.int a1), some (.int v4), some (.int x3_4_1)]) dX11_digitsOf_24 rfl rfl rfl ?_
        refine E_iinc (ls' := [some (.ref r0), some (.int a1), some (.int v4), some (.int (x3_4_1 + 1))]) 1 dX11_digitsOf_25 rfl ic_1 rfl rfl rfl ?_
        refine E_goto 4 dX11_digitsOf_28 (by decide) ?_
        obtain rfl := Option.some.inj hf
        exact k9
  · skip
    obtain ⟨y6, hq9⟩ : ∃ a, a = q := ⟨_, rfl⟩
    subst hq9
    try dsimp only at hf
    show E PC RX11 cX11_digitsOf 4 1 31 [none, none, some (.int y6), none] [] w Q
    refine E_iload_n (v := y6) dX11_digitsOf_31 rfl ?_
    obtain rfl := Option.some.inj hf
    exact E.done (by rw [eQ]; exact ⟨rfl, Or.inl ⟨_, _, rfl, rfl, dX11_digitsOf_32, rfl, rfl⟩⟩)
set_option maxRecDepth 10000 in
set_option maxHeartbeats 2000000 in
theorem MX11_best {N : Nat} {a0 : Int32} {w : AW} {rZ : Int32} {wZ : AW} (hf : fX11_best N a0 w = some (rZ, wZ)) : CallOK PC yX11_best cX11_best 3 (some .int) 14 [.ref 0, .int a0] w (some (.int rZ)) wZ := by
  refine CallOK.of (ls := [some (.ref 0), some (.int a0), none]) (by decide) (by simp) rfl rfl ?_
  obtain ⟨Q, eQ⟩ : ∃ Q, Q = Qret cX11_best (some .int) (some (.int rZ)) wZ := ⟨_, rfl⟩
  rw [← eQ]
  unfold fX11_best at hf
  refine E_iload_n (v := a0) dX11_best_0 rfl ?_
  refine E_iconst 0 dX11_best_1 ic_0 ?_
  refine E_iconst 1 dX11_best_2 ic_1 ?_
  obtain ⟨r2, hc1, hf⟩ := bd_some hf
  try dsimp only at hf
  refine E_callSi (rest := []) cs_RX11_100 dX11_best_3 (MX11_within hc1) rfl rfl rfl (fun _ => Nat.le_of_ble_eq_true rfl) ?_
  refine E_if_ne 12 dX11_best_6 (by decide) (fun hc3 => ?_) (fun hc3 => ?_)
  · rw [if_pos hc3] at hf
    refine E_ldc (-2147483648) dX11_best_9 wk_RX11_207 ?_
    obtain ⟨rfl, rfl⟩ := ret2 hf
    exact E.done (by rw [eQ]; exact ⟨rfl, Or.inl ⟨_, _, rfl, rfl, dX11_best_11, rfl, rfl⟩⟩)
  · rw [if_neg hc3] at hf
    refine E_aload_n (v := 0) dX11_best_12 rfl ?_
    refine E_getR fg_RX11_43 dX11_best_13 sC_0 rfl rC_0_6 (Nat.succ_ne_zero _) ?_
    refine E_aload_n (v := 0) dX11_best_16 rfl ?_
    refine E_getR fg_RX11_10 dX11_best_17 sC_0 rfl rC_0_0 (Nat.succ_ne_zero _) ?_
    refine E_iconst 0 dX11_best_20 ic_0 ?_
    obtain ⟨w5, hc4, hf⟩ := bd_some hf
    try dsimp only at hf
    refine E_callVv (rest := []) (ci := 3) cv_RX11_208 dX11_best_21 (MX3_measure B_is1 hc4) rfl sC_46 rfl (by decide) rfl rfl (fun _ => Nat.le_of_ble_eq_true rfl) ?_
    refine E_aload_n (v := 0) dX11_best_24 rfl ?_
    refine E_getR fg_RX11_52 dX11_best_25 sC_0 rfl rC_0_7 (Nat.succ_ne_zero _) ?_
    refine E_aload_n (v := 0) dX11_best_28 rfl ?_
    refine E_getR fg_RX11_10 dX11_best_29 sC_0 rfl rC_0_0 (Nat.succ_ne_zero _) ?_
    refine E_getR fg_RX11_130 dX11_best_32 sC_1 rfl rC_1_0 (Nat.succ_ne_zero _) ?_
    refine E_bipush (-9) dX11_best_35 bp_m9 ?_
    obtain ⟨r7, w8, hc6, hf⟩ := bd2_some hf
    try dsimp only at hf
    refine E_callVi (rest := []) (ci := 5) cv_RX11_212 dX11_best_37 (MX5_mostWorth J_is2 hc6) rfl sC_49 rfl (by decide) rfl rfl (fun _ => Nat.le_of_ble_eq_true rfl) ?_
    refine E_istore_n (ls' := [some (.ref 0), some (.int a0), some (.int r7)]) dX11_best_40 rfl rfl rfl ?_
    refine E_iload_n (v := a0) dX11_best_41 rfl ?_
    refine E_if_ne 49 dX11_best_42 (by decide) (fun hc10 => ?_) (fun hc10 => ?_)
    · rw [if_pos hc10] at hf
      refine E_iload_n (v := r7) dX11_best_45 rfl ?_
      refine E_goto 69 dX11_best_46 (by decide) ?_
      obtain ⟨rfl, rfl⟩ := ret2 hf
      exact E.done (by rw [eQ]; exact ⟨rfl, Or.inl ⟨_, _, rfl, rfl, dX11_best_69, rfl, rfl⟩⟩)
    · rw [if_neg hc10] at hf
      refine E_aload_n (v := 0) dX11_best_49 rfl ?_
      refine E_getR fg_RX11_52 dX11_best_50 sC_0 rfl rC_0_7 (Nat.succ_ne_zero _) ?_
      refine E_getR fg_RX11_216 dX11_best_53 sC_49 rfl rC_49_2 (Nat.succ_ne_zero _) ?_
      refine E_aload_n (v := 0) dX11_best_56 rfl ?_
      refine E_getR fg_RX11_10 dX11_best_57 sC_0 rfl rC_0_0 (Nat.succ_ne_zero _) ?_
      refine E_getR fg_RX11_130 dX11_best_60 sC_1 rfl rC_1_0 (Nat.succ_ne_zero _) ?_
      refine E_getI fg_RX11_131 dX11_best_63 sC_2 rfl ?_
      obtain ⟨r12, hc11, hf⟩ := bd_some hf
      try dsimp only at hf
      refine E_callSi (rest := []) cs_RX11_219 dX11_best_66 (MX11_digitsOf sC_51 hc11) rfl rfl rfl (fun _ => Nat.le_of_ble_eq_true rfl) ?_
      obtain ⟨rfl, rfl⟩ := ret2 hf
      exact E.done (by rw [eQ]; exact ⟨rfl, Or.inl ⟨_, _, rfl, rfl, dX11_best_69, rfl, rfl⟩⟩)
set_option maxRecDepth 10000 in
set_option maxHeartbeats 2000000 in
theorem MX1_begin {N : Nat} {b : Nat} {o0 : Nat} {r1 : Nat} {w : AW} {wZ : AW} (hb : isB b) (ho0 : isJ o0) (hr1 : PC.1[r1]? = some 104) (hf : fX1_begin N b o0 r1 w = some wZ) : CallOK PC yX1_begin cX1_begin 4 none 2 [.ref b, .ref o0, .ref r1] w none wZ := by
  refine CallOK.of (ls := [some (.ref b), some (.ref o0), some (.ref r1), none]) (by decide) (by simp) rfl rfl ?_
  obtain ⟨Q, eQ⟩ : ∃ Q, Q = Qret cX1_begin none none wZ := ⟨_, rfl⟩
  rw [← eQ]
  unfold fX1_begin at hf
  refine E_aload_n (v := b) dX1_begin_0 rfl ?_
  refine E_getR fg_RX1_12 dX1_begin_1 (B_s0 hb) rfl (B_r0_0 hb) (Nat.succ_ne_zero _) ?_
  refine E_aload_n (v := o0) dX1_begin_4 rfl ?_
  obtain ⟨w2, hc1, hf⟩ := bd_some hf
  try dsimp only at hf
  refine E_callVv (rest := []) (ci := 4) cv_RX1_50 dX1_begin_5 (MX4_copy (B_j1 hb) ho0 hc1) rfl (B_s1 hb) rfl (by decide) rfl rfl (fun _ => Nat.le_of_ble_eq_true rfl) ?_
  refine E_iconst 0 dX1_begin_8 ic_0 ?_
  refine E_istore_n (ls' := [some (.ref b), some (.ref o0), some (.ref r1), some (.int 0)]) dX1_begin_9 rfl rfl rfl ?_
  obtain ⟨q, hw6, hf⟩ := bd_some hf
  try dsimp only at hf
  refine E.fewer (ls' := [some (.ref b), none, some (.ref r1), some (.int 0)]) ⟨Or.inr rfl, ⟨Or.inl rfl, ⟨Or.inr rfl, ⟨Or.inr rfl, trivial⟩⟩⟩⟩ ?_
  show (fun (s : Int32 × AW) => E PC RX1 cX1_begin 4 2 10 [some (.ref b), none, some (.ref r1), some (.int s.1)] [] s.2 Q) (0, w2)
  refine wh_E (K := (fun (s : Int32 × AW) => E PC RX1 cX1_begin 4 2 10 [some (.ref b), none, some (.ref r1), some (.int s.1)] [] s.2 Q)) (X := (fun (s : AW) => E PC RX1 cX1_begin 4 2 29 [some (.ref b), none, some (.ref r1), none] [] s Q)) ?_ hw6 ?_
  · intro s9 z9 hf k9
    obtain ⟨x3_10_1, w_10_1⟩ := s9
    dsimp only [lbX1_begin_10_1] at hf
    show E PC RX1 cX1_begin 4 2 10 [some (.ref b), none, some (.ref r1), some (.int x3_10_1)] [] w_10_1 Q
    refine E_iload_n (v := x3_10_1) dX1_begin_10 rfl ?_
    refine E_bipush 6 dX1_begin_11 bp_6 ?_
    refine E_icmp_ge 29 dX1_begin_13 (by decide) (fun hc3 => ?_) (fun hc3 => ?_)
    · rw [if_pos hc3] at hf
      obtain rfl := Option.some.inj hf
      refine E.fewer (ls' := [some (.ref b), none, some (.ref r1), none]) ⟨Or.inr rfl, ⟨Or.inl rfl, ⟨Or.inr rfl, ⟨Or.inl rfl, trivial⟩⟩⟩⟩ ?_
      exact k9
    · rw [if_neg hc3] at hf
      refine E_aload_n (v := b) dX1_begin_16 rfl ?_
      refine E_getR fg_RX1_28 dX1_begin_17 (B_s0 hb) rfl (B_r0_4 hb) (Nat.succ_ne_zero _) ?_
      refine E_iload_n (v := x3_10_1) dX1_begin_20 rfl ?_
      refine E_iload_n (v := x3_10_1) dX1_begin_21 rfl ?_
      obtain ⟨hi4, hf⟩ := gd_some hf
      obtain ⟨w5, ew5, hf⟩ := lw_some hf
      try dsimp only at hf
      refine E_iast (n := 6) dX1_begin_22 (B_s10 hb) (by decide) (inb_in hi4) ?_
      rw [← ew5]
      refine E_iinc (ls' := [some (.ref b), none, some (.ref r1), some (.int (x3_10_1 + 1))]) 1 dX1_begin_23 rfl ic_1 rfl rfl rfl ?_
      refine E_goto 10 dX1_begin_26 (by decide) ?_
      obtain rfl := Option.some.inj hf
      exact k9
  · skip
    obtain ⟨w7, hq9⟩ : ∃ a, a = q := ⟨_, rfl⟩
    subst hq9
    try dsimp only at hf
    show E PC RX1 cX1_begin 4 2 29 [some (.ref b), none, some (.ref r1), none] [] w7 Q
    refine E_iconst 0 dX1_begin_29 ic_0 ?_
    refine E_istore_n (ls' := [some (.ref b), none, some (.ref r1), some (.int 0)]) dX1_begin_30 rfl rfl rfl ?_
    obtain ⟨q, hw13, hf⟩ := bd_some hf
    try dsimp only at hf
    show (fun (s : Int32 × AW) => E PC RX1 cX1_begin 4 2 31 [some (.ref b), none, some (.ref r1), some (.int s.1)] [] s.2 Q) (0, w7)
    refine wh_E (K := (fun (s : Int32 × AW) => E PC RX1 cX1_begin 4 2 31 [some (.ref b), none, some (.ref r1), some (.int s.1)] [] s.2 Q)) (X := (fun (s : AW) => E PC RX1 cX1_begin 4 2 63 [some (.ref b), none, none, none] [] s Q)) ?_ hw13 ?_
    · intro s9 z9 hf k9
      obtain ⟨x3_31_2, w_31_2⟩ := s9
      dsimp only [lbX1_begin_31_2] at hf
      show E PC RX1 cX1_begin 4 2 31 [some (.ref b), none, some (.ref r1), some (.int x3_31_2)] [] w_31_2 Q
      refine E_iload_n (v := x3_31_2) dX1_begin_31 rfl ?_
      refine E_iconst 4 dX1_begin_32 ic_4 ?_
      refine E_icmp_ge 63 dX1_begin_33 (by decide) (fun hc8 => ?_) (fun hc8 => ?_)
      · rw [if_pos hc8] at hf
        obtain rfl := Option.some.inj hf
        refine E.fewer (ls' := [some (.ref b), none, none, none]) ⟨Or.inr rfl, ⟨Or.inl rfl, ⟨Or.inl rfl, ⟨Or.inl rfl, trivial⟩⟩⟩⟩ ?_
        exact k9
      · rw [if_neg hc8] at hf
        refine E_iload_n (v := x3_31_2) dX1_begin_36 rfl ?_
        refine E_aload_n (v := r1) dX1_begin_37 rfl ?_
        refine E_alenI (n := 4) 4 dX1_begin_38 hr1 (by decide) rfl ?_
        refine E_icmp_ge 63 dX1_begin_39 (by decide) (fun hc9 => ?_) (fun hc9 => ?_)
        · rw [if_pos hc9] at hf
          obtain rfl := Option.some.inj hf
          refine E.fewer (ls' := [some (.ref b), none, none, none]) ⟨Or.inr rfl, ⟨Or.inl rfl, ⟨Or.inl rfl, ⟨Or.inl rfl, trivial⟩⟩⟩⟩ ?_
          exact k9
        · rw [if_neg hc9] at hf
          refine E_aload_n (v := r1) dX1_begin_42 rfl ?_
          refine E_iload_n (v := x3_31_2) dX1_begin_43 rfl ?_
          obtain ⟨hi10, hf⟩ := gd_some hf
          refine E_iald (n := 4) dX1_begin_44 hr1 (by decide) (inb_in hi10) ?_
          refine E_if_lt 57 dX1_begin_45 (by decide) (fun hc11 => ?_) (fun hc11 => ?_)
          · rw [if_pos hc11] at hf
            refine E_iinc (ls' := [some (.ref b), none, some (.ref r1), some (.int (x3_31_2 + 1))]) 1 dX1_begin_57 rfl ic_1 rfl rfl rfl ?_
            refine E_goto 31 dX1_begin_60 (by decide) ?_
            obtain rfl := Option.some.inj hf
            exact k9
          · rw [if_neg hc11] at hf
            refine E_aload_n (v := b) dX1_begin_48 rfl ?_
            refine E_getR fg_RX1_18 dX1_begin_49 (B_s0 hb) rfl (B_r0_1 hb) (Nat.succ_ne_zero _) ?_
            refine E_iload_n (v := x3_31_2) dX1_begin_52 rfl ?_
            refine E_aload_n (v := r1) dX1_begin_53 rfl ?_
            refine E_iload_n (v := x3_31_2) dX1_begin_54 rfl ?_
            refine E_iald (n := 4) dX1_begin_55 hr1 (by decide) (inb_in hi10) ?_
            obtain ⟨w12, ew12, hf⟩ := lw_some hf
            try dsimp only at hf
            refine E_iast (n := 4) dX1_begin_56 (B_s7 hb) (by decide) (inb_in hi10) ?_
            rw [← ew12]
            refine E_iinc (ls' := [some (.ref b), none, some (.ref r1), some (.int (x3_31_2 + 1))]) 1 dX1_begin_57 rfl ic_1 rfl rfl rfl ?_
            refine E_goto 31 dX1_begin_60 (by decide) ?_
            obtain rfl := Option.some.inj hf
            exact k9
    · skip
      obtain ⟨w14, hq9⟩ : ∃ a, a = q := ⟨_, rfl⟩
      subst hq9
      try dsimp only at hf
      show E PC RX1 cX1_begin 4 2 63 [some (.ref b), none, none, none] [] w14 Q
      refine E_iconst 0 dX1_begin_63 ic_0 ?_
      refine E_istore_n (ls' := [some (.ref b), none, none, some (.int 0)]) dX1_begin_64 rfl rfl rfl ?_
      obtain ⟨q, hw19, hf⟩ := bd_some hf
      try dsimp only at hf
      show (fun (s : Int32 × AW) => E PC RX1 cX1_begin 4 2 65 [some (.ref b), none, none, some (.int s.1)] [] s.2 Q) (0, w14)
      refine wh_E (K := (fun (s : Int32 × AW) => E PC RX1 cX1_begin 4 2 65 [some (.ref b), none, none, some (.int s.1)] [] s.2 Q)) (X := (fun (s : AW) => E PC RX1 cX1_begin 4 2 91 [some (.ref b), none, none, none] [] s Q)) ?_ hw19 ?_
      · intro s9 z9 hf k9
        obtain ⟨x3_65_3, w_65_3⟩ := s9
        dsimp only [lbX1_begin_65_3] at hf
        show E PC RX1 cX1_begin 4 2 65 [some (.ref b), none, none, some (.int x3_65_3)] [] w_65_3 Q
        refine E_iload_n (v := x3_65_3) dX1_begin_65 rfl ?_
        refine E_bipush 60 dX1_begin_66 bp_60 ?_
        refine E_icmp_gt 91 dX1_begin_68 (by decide) (fun hc15 => ?_) (fun hc15 => ?_)
        · rw [if_pos hc15] at hf
          obtain rfl := Option.some.inj hf
          refine E.fewer (ls' := [some (.ref b), none, none, none]) ⟨Or.inr rfl, ⟨Or.inl rfl, ⟨Or.inl rfl, ⟨Or.inl rfl, trivial⟩⟩⟩⟩ ?_
          exact k9
        · rw [if_neg hc15] at hf
          refine E_aload_n (v := b) dX1_begin_71 rfl ?_
          refine E_getR fg_RX1_22 dX1_begin_72 (B_s0 hb) rfl (B_r0_2 hb) (Nat.succ_ne_zero _) ?_
          refine E_iload_n (v := x3_65_3) dX1_begin_75 rfl ?_
          refine E_iconst 0 dX1_begin_76 ic_0 ?_
          obtain ⟨hi16, hf⟩ := gd_some hf
          obtain ⟨w17, ew17, hf⟩ := lw_some hf
          try dsimp only at hf
          refine E_iast (n := 61) dX1_begin_77 (B_s8 hb) (by decide) (inb_in hi16) ?_
          rw [← ew17]
          refine E_aload_n (v := b) dX1_begin_78 rfl ?_
          refine E_getR fg_RX1_25 dX1_begin_79 (B_s0 hb) rfl (B_r0_3 hb) (Nat.succ_ne_zero _) ?_
          refine E_iload_n (v := x3_65_3) dX1_begin_82 rfl ?_
          refine E_iconst 0 dX1_begin_83 ic_0 ?_
          obtain ⟨w18, ew18, hf⟩ := lw_some hf
          try dsimp only at hf
          refine E_iast (n := 61) dX1_begin_84 (B_s9 hb) (by decide) (inb_in hi16) ?_
          rw [← ew18]
          refine E_iinc (ls' := [some (.ref b), none, none, some (.int (x3_65_3 + 1))]) 1 dX1_begin_85 rfl ic_1 rfl rfl rfl ?_
          refine E_goto 65 dX1_begin_88 (by decide) ?_
          obtain rfl := Option.some.inj hf
          exact k9
      · skip
        obtain ⟨w20, hq9⟩ : ∃ a, a = q := ⟨_, rfl⟩
        subst hq9
        try dsimp only at hf
        show E PC RX1 cX1_begin 4 2 91 [some (.ref b), none, none, none] [] w20 Q
        refine E_aload_n (v := b) dX1_begin_91 rfl ?_
        refine E_iconst 0 dX1_begin_92 ic_0 ?_
        obtain ⟨w21, ew21, hf⟩ := lw_some hf
        try dsimp only at hf
        refine E_putI fp_RX1_31 dX1_begin_93 (B_s0 hb) rfl rfl rfl ?_
        rw [← ew21]
        refine E_aload_n (v := b) dX1_begin_96 rfl ?_
        refine E_iconst 0 dX1_begin_97 ic_0 ?_
        obtain ⟨w22, ew22, hf⟩ := lw_some hf
        try dsimp only at hf
        refine E_putI fp_RX1_35 dX1_begin_98 (B_s0 hb) rfl rfl rfl ?_
        rw [← ew22]
        refine E_aload_n (v := b) dX1_begin_101 rfl ?_
        refine E_iconst 0 dX1_begin_102 ic_0 ?_
        obtain ⟨w23, ew23, hf⟩ := lw_some hf
        try dsimp only at hf
        refine E_putI fp_RX1_38 dX1_begin_103 (B_s0 hb) rfl rfl rfl ?_
        rw [← ew23]
        refine E_aload_n (v := b) dX1_begin_106 rfl ?_
        refine E_iconst 0 dX1_begin_107 ic_0 ?_
        obtain ⟨w24, ew24, hf⟩ := lw_some hf
        try dsimp only at hf
        refine E_putI fp_RX1_41 dX1_begin_108 (B_s0 hb) rfl rfl rfl ?_
        rw [← ew24]
        obtain rfl := Option.some.inj hf
        exact E.done (by rw [eQ]; exact ⟨rfl, Or.inr ⟨rfl, rfl, dX1_begin_111, rfl⟩⟩)
set_option maxRecDepth 10000 in
set_option maxHeartbeats 2000000 in
theorem MJ0_isLatin1_aae02 {i : Nat} {w : AW} {rZ : Int32} (hi : i < 12) (hf : fJ0_isLatin1_aae02 i w = some rZ) : CallOK PC yJ0_isLatin1_aae02 cJ0_isLatin1_aae02 1 (some .boolean) 1 [.retAddr (9 + i + 1)] w (some (.int rZ)) w := by
  refine CallOK.of (ls := [some (.retAddr (9 + i + 1))]) (by decide) (by simp) rfl rfl ?_
  obtain ⟨Q, eQ⟩ : ∃ Q, Q = Qret cJ0_isLatin1_aae02 (some .boolean) (some (.int rZ)) w := ⟨_, rfl⟩
  rw [← eQ]
  unfold fJ0_isLatin1_aae02 at hf
  refine E_getsZ (v := .int 1) (fun _ _ _ _ h => st_compact h) wf_RJ0_38 dJ0_isLatin1_aae02_0 ?_
  refine E_if_eq 17 dJ0_isLatin1_aae02_3 (by decide) (fun hc1 => absurd hc1 (by decide)) (fun _ => ?_)
  refine E_aloadx_n dJ0_isLatin1_aae02_6 rfl ?_
  refine E_xcod i wf_RJ0_15 dJ0_isLatin1_aae02_7 hi ?_
  refine E_if_ne 17 dJ0_isLatin1_aae02_10 (by decide) (fun _ => ?_) (fun hc2 => absurd (by decide) hc2)
  refine E_iconst 1 dJ0_isLatin1_aae02_13 ic_1 ?_
  refine E_goto 18 dJ0_isLatin1_aae02_14 (by decide) ?_
  obtain rfl := Option.some.inj hf
  exact E.done (by rw [eQ]; exact ⟨rfl, Or.inl ⟨_, _, rfl, rfl, dJ0_isLatin1_aae02_18, rfl, rfl⟩⟩)
set_option maxRecDepth 10000 in
set_option maxHeartbeats 2000000 in
theorem MJ3_checkIndex_8e157 {a0 : Int32} {a1 : Int32} {w : AW} {rZ : Int32} (hf : fJ3_checkIndex_8e157 a0 a1 w = some rZ) : CallOK PC yJ3_checkIndex_8e157 cJ3_checkIndex_8e157 3 (some .int) 1 [.int a0, .int a1, .retAddr 0] w (some (.int rZ)) w := by
  refine CallOK.of (ls := [some (.int a0), some (.int a1), some (.retAddr 0)]) (by decide) (by simp) rfl rfl ?_
  obtain ⟨Q, eQ⟩ : ∃ Q, Q = Qret cJ3_checkIndex_8e157 (some .int) (some (.int rZ)) w := ⟨_, rfl⟩
  rw [← eQ]
  unfold fJ3_checkIndex_8e157 at hf
  refine E_iload_n (v := a0) dJ3_checkIndex_8e157_0 rfl ?_
  refine E_if_lt 9 dJ3_checkIndex_8e157_1 (by decide) (fun hc1 => ?_) (fun hc1 => ?_)
  · rw [if_pos hc1] at hf
    exact absurd hf (by simp)
  · rw [if_neg hc1] at hf
    refine E_iload_n (v := a0) dJ3_checkIndex_8e157_4 rfl ?_
    refine E_iload_n (v := a1) dJ3_checkIndex_8e157_5 rfl ?_
    refine E_icmp_lt 16 dJ3_checkIndex_8e157_6 (by decide) (fun hc2 => ?_) (fun hc2 => ?_)
    · rw [if_pos hc2] at hf
      refine E_iload_n (v := a0) dJ3_checkIndex_8e157_16 rfl ?_
      obtain rfl := Option.some.inj hf
      exact E.done (by rw [eQ]; exact ⟨rfl, Or.inl ⟨_, _, rfl, rfl, dJ3_checkIndex_8e157_17, rfl, rfl⟩⟩)
    · rw [if_neg hc2] at hf
      exact absurd hf (by simp)
set_option maxRecDepth 10000 in
set_option maxHeartbeats 2000000 in
theorem MJ0_checkIndex_df160 {a0 : Int32} {a1 : Int32} {w : AW} {wZ : AW} (hf : fJ0_checkIndex_df160 a0 a1 w = some wZ) : CallOK PC yJ0_checkIndex_df160 cJ0_checkIndex_df160 2 none 2 [.int a0, .int a1] w none w := by
  refine CallOK.of (ls := [some (.int a0), some (.int a1)]) (by decide) (by simp) rfl rfl ?_
  obtain ⟨Q, eQ⟩ : ∃ Q, Q = Qret cJ0_checkIndex_df160 none none w := ⟨_, rfl⟩
  rw [← eQ]
  unfold fJ0_checkIndex_df160 at hf
  refine E_iload_n (v := a0) dJ0_checkIndex_df160_0 rfl ?_
  refine E_iload_n (v := a1) dJ0_checkIndex_df160_1 rfl ?_
  refine E_getsZ (v := .retAddr 0) (fun _ _ _ _ h => st_form h) wf_RJ0_1053 dJ0_checkIndex_df160_2 ?_
  obtain ⟨r2, hc1, hf⟩ := bd_some hf
  try dsimp only at hf
  refine E_callSi (rest := []) cs_RJ0_1059 dJ0_checkIndex_df160_5 (MJ3_checkIndex_8e157 hc1) rfl rfl rfl (fun _ => Nat.le_of_ble_eq_true rfl) ?_
  refine E_pop_i dJ0_checkIndex_df160_8 ?_
  obtain rfl := Option.some.inj hf
  exact E.done (by rw [eQ]; exact ⟨rfl, Or.inr ⟨rfl, rfl, dJ0_checkIndex_df160_9, rfl⟩⟩)
set_option maxRecDepth 10000 in
set_option maxHeartbeats 2000000 in
theorem MJ1_charAt_3b067 {i0 : Nat} {a1 : Int32} {w : AW} {rZ : Int32} (hi0 : i0 < 12) (hf : fJ1_charAt_3b067 i0 a1 w = some rZ) : CallOK PC yJ1_charAt_3b067 cJ1_charAt_3b067 2 (some .char) 3 [.retAddr (29 + i0 + 1), .int a1] w (some (.int rZ)) w := by
  refine CallOK.of (ls := [some (.retAddr (29 + i0 + 1)), some (.int a1)]) (by decide) (by simp) rfl rfl ?_
  obtain ⟨Q, eQ⟩ : ∃ Q, Q = Qret cJ1_charAt_3b067 (some .char) (some (.int rZ)) w := ⟨_, rfl⟩
  rw [← eQ]
  unfold fJ1_charAt_3b067 at hf
  refine E_iload_n (v := a1) dJ1_charAt_3b067_0 rfl ?_
  refine E_aloadx_n dJ1_charAt_3b067_1 rfl ?_
  refine E_xlen i0 dJ1_charAt_3b067_2 hi0 ?_
  obtain ⟨w2, hc1, hf⟩ := bd_some hf
  try dsimp only at hf
  refine E_callSv (rest := []) cs_RJ1_9 dJ1_charAt_3b067_3 (MJ0_checkIndex_df160 hc1) rfl rfl rfl (fun _ => Nat.le_of_ble_eq_true rfl) ?_
  refine E_aloadx_n dJ1_charAt_3b067_6 rfl ?_
  refine E_iload_n (v := a1) dJ1_charAt_3b067_7 rfl ?_
  obtain ⟨hi3, hf⟩ := gd_some hf
  refine E_xbald i0 dJ1_charAt_3b067_8 hi0 (inb_in hi3) ?_
  refine E_sipush 255 dJ1_charAt_3b067_9 sp_255 ?_
  refine E_iand dJ1_charAt_3b067_12 ?_
  refine E_i2c dJ1_charAt_3b067_13 ?_
  obtain rfl := Option.some.inj hf
  exact E.done (by rw [eQ]; exact ⟨rfl, Or.inl ⟨_, _, rfl, rfl, dJ1_charAt_3b067_14, rfl, (pk_nc _)⟩⟩)
set_option maxRecDepth 10000 in
set_option maxHeartbeats 2000000 in
theorem MJ0_charAt_5068e {i : Nat} {a0 : Int32} {w : AW} {rZ : Int32} (hi : i < 12) (hf : fJ0_charAt_5068e i a0 w = some rZ) : CallOK PC yJ0_charAt_5068e cJ0_charAt_5068e 2 (some .char) 5 [.retAddr (9 + i + 1), .int a0] w (some (.int rZ)) w := by
  refine CallOK.of (ls := [some (.retAddr (9 + i + 1)), some (.int a0)]) (by decide) (by simp) rfl rfl ?_
  obtain ⟨Q, eQ⟩ : ∃ Q, Q = Qret cJ0_charAt_5068e (some .char) (some (.int rZ)) w := ⟨_, rfl⟩
  rw [← eQ]
  unfold fJ0_charAt_5068e at hf
  refine E_aloadx_n dJ0_charAt_5068e_0 rfl ?_
  obtain ⟨r2, hc1, hf⟩ := bd_some hf
  try dsimp only at hf
  refine E_callXi (rest := []) cv_RJ0_492 dJ0_charAt_5068e_1 (MJ0_isLatin1_aae02 hi hc1) rfl hi rfl rfl (fun _ => Nat.le_of_ble_eq_true rfl) ?_
  refine E_if_eq 16 dJ0_charAt_5068e_4 (by decide) (fun hc3 => ?_) (fun hc3 => ?_)
  · rw [if_pos hc3] at hf
    exact absurd hf (by simp)
  · rw [if_neg hc3] at hf
    refine E_aloadx_n dJ0_charAt_5068e_7 rfl ?_
    refine E_xval i wf_RJ0_9 dJ0_charAt_5068e_8 hi ?_
    refine E_iload_n (v := a0) dJ0_charAt_5068e_11 rfl ?_
    obtain ⟨r5, hc4, hf⟩ := bd_some hf
    try dsimp only at hf
    refine E_callSi (rest := []) cs_RJ0_495 dJ0_charAt_5068e_12 (MJ1_charAt_3b067 hi hc4) rfl rfl rfl (fun _ => Nat.le_of_ble_eq_true rfl) ?_
    obtain ⟨hb6, hf⟩ := gd_some hf
    obtain rfl := Option.some.inj hf
    exact E.done (by rw [eQ]; exact ⟨rfl, Or.inl ⟨_, _, rfl, rfl, dJ0_charAt_5068e_15, rfl, (isc_n hb6)⟩⟩)
set_option maxRecDepth 10000 in
set_option maxHeartbeats 2000000 in
theorem MJ0_coder_7d493 {i : Nat} {w : AW} {rZ : Int32} (hi : i < 12) (hf : fJ0_coder_7d493 i w = some rZ) : CallOK PC yJ0_coder_7d493 cJ0_coder_7d493 1 (some .byte) 1 [.retAddr (9 + i + 1)] w (some (.int rZ)) w := by
  refine CallOK.of (ls := [some (.retAddr (9 + i + 1))]) (by decide) (by simp) rfl rfl ?_
  obtain ⟨Q, eQ⟩ : ∃ Q, Q = Qret cJ0_coder_7d493 (some .byte) (some (.int rZ)) w := ⟨_, rfl⟩
  rw [← eQ]
  unfold fJ0_coder_7d493 at hf
  refine E_getsZ (v := .int 1) (fun _ _ _ _ h => st_compact h) wf_RJ0_38 dJ0_coder_7d493_0 ?_
  refine E_if_eq 13 dJ0_coder_7d493_3 (by decide) (fun hc1 => absurd hc1 (by decide)) (fun _ => ?_)
  refine E_aloadx_n dJ0_coder_7d493_6 rfl ?_
  refine E_xcod i wf_RJ0_15 dJ0_coder_7d493_7 hi ?_
  refine E_goto 14 dJ0_coder_7d493_10 (by decide) ?_
  obtain rfl := Option.some.inj hf
  exact E.done (by rw [eQ]; exact ⟨rfl, Or.inl ⟨_, _, rfl, rfl, dJ0_coder_7d493_14, rfl, rfl⟩⟩)
