set_option maxRecDepth 10000 in
set_option maxHeartbeats 2000000 in
theorem MX12_isShelf {a0 : Int32} {w : AW} {rZ : Int32} (hf : fX12_isShelf a0 w = some rZ) : CallOK PM yX12_isShelf cX12_isShelf 1 (some .boolean) 2 [.int a0] w (some (.int rZ)) w := by
  refine CallOK.of (ls := [some (.int a0)]) (by decide) (by simp) rfl rfl ?_
  obtain ⟨Q, eQ⟩ : ∃ Q, Q = Qret cX12_isShelf (some .boolean) (some (.int rZ)) w := ⟨_, rfl⟩
  rw [← eQ]
  unfold fX12_isShelf at hf
  refine E_iload_n (v := a0) dX12_isShelf_0 rfl ?_
  refine E_iconst 0 dX12_isShelf_1 ic_0 ?_
  refine E_iconst 3 dX12_isShelf_2 ic_3 ?_
  obtain ⟨r2, hc1, hf⟩ := bd_some hf
  try dsimp only at hf
  refine E_callSi (rest := []) cs_RX12_99 dX12_isShelf_3 (MX12_in hc1) rfl rfl rfl (fun _ => Nat.le_of_ble_eq_true rfl) ?_
  obtain ⟨hb3, hf⟩ := gd_some hf
  obtain rfl := Option.some.inj hf
  exact E.done (by rw [eQ]; exact ⟨rfl, Or.inl ⟨_, _, rfl, rfl, dX12_isShelf_6, rfl, (isb_n hb3)⟩⟩)
set_option maxRecDepth 10000 in
set_option maxHeartbeats 2000000 in
theorem MX12_isJob {a0 : Int32} {w : AW} {rZ : Int32} (hf : fX12_isJob a0 w = some rZ) : CallOK PM yX12_isJob cX12_isJob 2 (some .boolean) 2 [.ref 0, .int a0] w (some (.int rZ)) w := by
  refine CallOK.of (ls := [some (.ref 0), some (.int a0)]) (by decide) (by simp) rfl rfl ?_
  obtain ⟨Q, eQ⟩ : ∃ Q, Q = Qret cX12_isJob (some .boolean) (some (.int rZ)) w := ⟨_, rfl⟩
  rw [← eQ]
  unfold fX12_isJob at hf
  refine E_iload_n (v := a0) dX12_isJob_0 rfl ?_
  refine E_iconst 0 dX12_isJob_1 ic_0 ?_
  refine E_aload_n (v := 0) dX12_isJob_2 rfl ?_
  refine E_getI fg_RX12_96 dX12_isJob_3 sM_0 rfl ?_
  refine E_iconst 1 dX12_isJob_6 ic_1 ?_
  refine E_isub dX12_isJob_7 ?_
  obtain ⟨r2, hc1, hf⟩ := bd_some hf
  try dsimp only at hf
  refine E_callSi (rest := []) cs_RX12_99 dX12_isJob_8 (MX12_in hc1) rfl rfl rfl (fun _ => Nat.le_of_ble_eq_true rfl) ?_
  obtain ⟨hb3, hf⟩ := gd_some hf
  obtain rfl := Option.some.inj hf
  exact E.done (by rw [eQ]; exact ⟨rfl, Or.inl ⟨_, _, rfl, rfl, dX12_isJob_11, rfl, (isb_n hb3)⟩⟩)
set_option maxRecDepth 10000 in
set_option maxHeartbeats 2000000 in
theorem MX12_kindOn {a0 : Int32} {w : AW} {rZ : Int32} (hf : fX12_kindOn a0 w = some rZ) : CallOK PM yX12_kindOn cX12_kindOn 2 (some .int) 3 [.ref 0, .int a0] w (some (.int rZ)) w := by
  refine CallOK.of (ls := [some (.ref 0), some (.int a0)]) (by decide) (by simp) rfl rfl ?_
  obtain ⟨Q, eQ⟩ : ∃ Q, Q = Qret cX12_kindOn (some .int) (some (.int rZ)) w := ⟨_, rfl⟩
  rw [← eQ]
  unfold fX12_kindOn at hf
  refine E_aload_n (v := 0) dX12_kindOn_0 rfl ?_
  refine E_getR fg_RX12_78 dX12_kindOn_1 sM_0 rfl rM_0_41 (Nat.succ_ne_zero _) ?_
  refine E_iload_n (v := a0) dX12_kindOn_4 rfl ?_
  obtain ⟨hi1, hf⟩ := gd_some hf
  refine E_iald (n := 4) dX12_kindOn_5 sM_22 (by decide) (inb_in hi1) ?_
  refine E_if_eq 25 dX12_kindOn_6 (by decide) (fun hc2 => ?_) (fun hc2 => ?_)
  · rw [if_pos hc2] at hf
    refine E_aload_n (v := 0) dX12_kindOn_25 rfl ?_
    refine E_aload_n (v := 0) dX12_kindOn_26 rfl ?_
    refine E_getR fg_RX12_81 dX12_kindOn_27 sM_0 rfl rM_0_42 (Nat.succ_ne_zero _) ?_
    refine E_iload_n (v := a0) dX12_kindOn_30 rfl ?_
    refine E_iald (n := 4) dX12_kindOn_31 sM_23 (by decide) (inb_in hi1) ?_
    obtain ⟨r4, hc3, hf⟩ := bd_some hf
    try dsimp only at hf
    refine E_callVi (rest := []) (ci := 12) cv_RX12_239 dX12_kindOn_32 (MX12_isJob hc3) rfl sM_0 rfl (by decide) rfl rfl (fun _ => Nat.le_of_ble_eq_true rfl) ?_
    refine E_if_eq 52 dX12_kindOn_35 (by decide) (fun hc5 => ?_) (fun hc5 => ?_)
    · rw [if_pos hc5] at hf
      refine E_iconst (-1) dX12_kindOn_52 ic_m1 ?_
      obtain rfl := Option.some.inj hf
      exact E.done (by rw [eQ]; exact ⟨rfl, Or.inl ⟨_, _, rfl, rfl, dX12_kindOn_53, rfl, rfl⟩⟩)
    · rw [if_neg hc5] at hf
      refine E_aload_n (v := 0) dX12_kindOn_38 rfl ?_
      refine E_aload_n (v := 0) dX12_kindOn_39 rfl ?_
      refine E_getR fg_RX12_81 dX12_kindOn_40 sM_0 rfl rM_0_42 (Nat.succ_ne_zero _) ?_
      refine E_iload_n (v := a0) dX12_kindOn_43 rfl ?_
      refine E_iald (n := 4) dX12_kindOn_44 sM_23 (by decide) (inb_in hi1) ?_
      refine E_iconst 0 dX12_kindOn_45 ic_0 ?_
      obtain ⟨r7, hc6, hf⟩ := bd_some hf
      try dsimp only at hf
      refine E_callVi (rest := []) (ci := 12) cv_RX12_242 dX12_kindOn_46 (MX12_its hc6) rfl sM_0 rfl (by decide) rfl rfl (fun _ => Nat.le_of_ble_eq_true rfl) ?_
      refine E_goto 53 dX12_kindOn_49 (by decide) ?_
      obtain rfl := Option.some.inj hf
      exact E.done (by rw [eQ]; exact ⟨rfl, Or.inl ⟨_, _, rfl, rfl, dX12_kindOn_53, rfl, rfl⟩⟩)
  · rw [if_neg hc2] at hf
    refine E_aload_n (v := 0) dX12_kindOn_9 rfl ?_
    refine E_getR fg_RX12_78 dX12_kindOn_10 sM_0 rfl rM_0_41 (Nat.succ_ne_zero _) ?_
    refine E_iload_n (v := a0) dX12_kindOn_13 rfl ?_
    refine E_iald (n := 4) dX12_kindOn_14 sM_22 (by decide) (inb_in hi1) ?_
    refine E_if_ge 22 dX12_kindOn_15 (by decide) (fun hc8 => ?_) (fun hc8 => ?_)
    · rw [if_pos hc8] at hf
      refine E_bipush 9 dX12_kindOn_22 bp_9 ?_
      obtain rfl := Option.some.inj hf
      exact E.done (by rw [eQ]; exact ⟨rfl, Or.inl ⟨_, _, rfl, rfl, dX12_kindOn_24, rfl, rfl⟩⟩)
    · rw [if_neg hc8] at hf
      refine E_iconst (-1) dX12_kindOn_18 ic_m1 ?_
      refine E_goto 24 dX12_kindOn_19 (by decide) ?_
      obtain rfl := Option.some.inj hf
      exact E.done (by rw [eQ]; exact ⟨rfl, Or.inl ⟨_, _, rfl, rfl, dX12_kindOn_24, rfl, rfl⟩⟩)
set_option maxRecDepth 10000 in
set_option maxHeartbeats 2000000 in
theorem MX12_ran {a0 : Int32} {w : AW} {wZ : AW} (hf : fX12_ran a0 w = some wZ) : CallOK PM yX12_ran cX12_ran 2 none 1 [.ref 0, .int a0] w none wZ := by
  refine CallOK.of (ls := [some (.ref 0), some (.int a0)]) (by decide) (by simp) rfl rfl ?_
  obtain ⟨Q, eQ⟩ : ∃ Q, Q = Qret cX12_ran none none wZ := ⟨_, rfl⟩
  rw [← eQ]
  unfold fX12_ran at hf
  refine E_aload_n (v := 0) dX12_ran_0 rfl ?_
  refine E_getI fg_RX12_361 dX12_ran_1 sM_0 rfl ?_
  refine E_bipush 30 dX12_ran_4 bp_30 ?_
  refine E_icmp_ge 29 dX12_ran_6 (by decide) (fun hc1 => ?_) (fun hc1 => ?_)
  · rw [if_pos hc1] at hf
    obtain rfl := Option.some.inj hf
    exact E.done (by rw [eQ]; exact ⟨rfl, Or.inr ⟨rfl, rfl, dX12_ran_29, rfl⟩⟩)
  · rw [if_neg hc1] at hf
    refine E_aload_n (v := 0) dX12_ran_9 rfl ?_
    refine E_getR fg_RX12_87 dX12_ran_10 sM_0 rfl rM_0_47 (Nat.succ_ne_zero _) ?_
    refine E_aload_n (v := 0) dX12_ran_13 rfl ?_
    refine E_getI fg_RX12_361 dX12_ran_14 sM_0 rfl ?_
    refine E_iload_n (v := a0) dX12_ran_17 rfl ?_
    obtain ⟨hi2, hf⟩ := gd_some hf
    obtain ⟨w3, ew3, hf⟩ := lw_some hf
    try dsimp only at hf
    refine E_iast (n := 30) dX12_ran_18 sM_25 (by decide) (inb_in hi2) ?_
    rw [← ew3]
    refine E_aload_n (v := 0) dX12_ran_19 rfl ?_
    refine E_dup_r dX12_ran_20 ?_
    refine E_getI fg_RX12_361 dX12_ran_21 sM_0 rfl ?_
    refine E_iconst 1 dX12_ran_24 ic_1 ?_
    refine E_iadd dX12_ran_25 ?_
    obtain ⟨w4, ew4, hf⟩ := lw_some hf
    try dsimp only at hf
    refine E_putI fp_RX12_361 dX12_ran_26 sM_0 rfl rfl rfl ?_
    rw [← ew4]
    obtain rfl := Option.some.inj hf
    exact E.done (by rw [eQ]; exact ⟨rfl, Or.inr ⟨rfl, rfl, dX12_ran_29, rfl⟩⟩)
set_option maxRecDepth 10000 in
set_option maxHeartbeats 2000000 in
theorem MX12_plainPrints {a0 : Int32} {w : AW} {rZ : Int32} {wZ : AW} (hf : fX12_plainPrints a0 w = some (rZ, wZ)) : CallOK PM yX12_plainPrints cX12_plainPrints 2 (some .int) 2 [.ref 0, .int a0] w (some (.int rZ)) wZ := by
  refine CallOK.of (ls := [some (.ref 0), some (.int a0)]) (by decide) (by simp) rfl rfl ?_
  obtain ⟨Q, eQ⟩ : ∃ Q, Q = Qret cX12_plainPrints (some .int) (some (.int rZ)) wZ := ⟨_, rfl⟩
  rw [← eQ]
  unfold fX12_plainPrints at hf
  refine E_aload_n (v := 0) dX12_plainPrints_0 rfl ?_
  refine E_bipush 10 dX12_plainPrints_1 bp_10 ?_
  obtain ⟨w2, hc1, hf⟩ := bd_some hf
  try dsimp only at hf
  refine E_callVv (rest := []) (ci := 12) cv_RX12_364 dX12_plainPrints_3 (MX12_ran hc1) rfl sM_0 rfl (by decide) rfl rfl (fun _ => Nat.le_of_ble_eq_true rfl) ?_
  refine E_iload_n (v := a0) dX12_plainPrints_6 rfl ?_
  refine E_aload_n (v := 0) dX12_plainPrints_7 rfl ?_
  refine E_getI fg_RX12_367 dX12_plainPrints_8 sM_0 rfl ?_
  refine E_iadd dX12_plainPrints_11 ?_
  obtain ⟨rfl, rfl⟩ := ret2 hf
  exact E.done (by rw [eQ]; exact ⟨rfl, Or.inl ⟨_, _, rfl, rfl, dX12_plainPrints_12, rfl, rfl⟩⟩)
set_option maxRecDepth 10000 in
set_option maxHeartbeats 2000000 in
theorem MX12_posterPrints {a0 : Int32} {w : AW} {rZ : Int32} {wZ : AW} (hf : fX12_posterPrints a0 w = some (rZ, wZ)) : CallOK PM yX12_posterPrints cX12_posterPrints 2 (some .int) 3 [.ref 0, .int a0] w (some (.int rZ)) wZ := by
  refine CallOK.of (ls := [some (.ref 0), some (.int a0)]) (by decide) (by simp) rfl rfl ?_
  obtain ⟨Q, eQ⟩ : ∃ Q, Q = Qret cX12_posterPrints (some .int) (some (.int rZ)) wZ := ⟨_, rfl⟩
  rw [← eQ]
  unfold fX12_posterPrints at hf
  refine E_aload_n (v := 0) dX12_posterPrints_0 rfl ?_
  refine E_bipush 30 dX12_posterPrints_1 bp_30 ?_
  obtain ⟨w2, hc1, hf⟩ := bd_some hf
  try dsimp only at hf
  refine E_callVv (rest := []) (ci := 12) cv_RX12_364 dX12_posterPrints_3 (MX12_ran hc1) rfl sM_0 rfl (by decide) rfl rfl (fun _ => Nat.le_of_ble_eq_true rfl) ?_
  refine E_aload_n (v := 0) dX12_posterPrints_6 rfl ?_
  refine E_iload_n (v := a0) dX12_posterPrints_7 rfl ?_
  obtain ⟨r4, w5, hc3, hf⟩ := bd2_some hf
  try dsimp only at hf
  refine E_callVi (rest := []) (ci := 12) cv_RX12_370 dX12_posterPrints_8 (MX12_plainPrints hc3) rfl sM_0 rfl (by decide) rfl rfl (fun _ => Nat.le_of_ble_eq_true rfl) ?_
  refine E_iconst 3 dX12_posterPrints_11 ic_3 ?_
  refine E_imul dX12_posterPrints_12 ?_
  obtain ⟨rfl, rfl⟩ := ret2 hf
  exact E.done (by rw [eQ]; exact ⟨rfl, Or.inl ⟨_, _, rfl, rfl, dX12_posterPrints_13, rfl, rfl⟩⟩)
set_option maxRecDepth 10000 in
set_option maxHeartbeats 2000000 in
theorem MX12_printsIt {a0 : Int32} {w : AW} {rZ : Int32} {wZ : AW} (hf : fX12_printsIt a0 w = some (rZ, wZ)) : CallOK PM yX12_printsIt cX12_printsIt 2 (some .int) 4 [.ref 0, .int a0] w (some (.int rZ)) wZ := by
  refine CallOK.of (ls := [some (.ref 0), some (.int a0)]) (by decide) (by simp) rfl rfl ?_
  obtain ⟨Q, eQ⟩ : ∃ Q, Q = Qret cX12_printsIt (some .int) (some (.int rZ)) wZ := ⟨_, rfl⟩
  rw [← eQ]
  unfold fX12_printsIt at hf
  refine E_aload_n (v := 0) dX12_printsIt_0 rfl ?_
  refine E_getI fg_RX12_373 dX12_printsIt_1 sM_0 rfl ?_
  by_cases hc1 : (w.1 0 44) = 2
  · rw [if_pos hc1] at hf
    refine E_tableIn 32 dX12_printsIt_4 (by rw [hc1]; decide) (by rw [hc1]; decide) (by rw [hc1]; rfl) (by decide) ?_
    refine E_aload_n (v := 0) dX12_printsIt_32 rfl ?_
    refine E_iload_n (v := a0) dX12_printsIt_33 rfl ?_
    obtain ⟨r3, w4, hc2, hf⟩ := bd2_some hf
    try dsimp only at hf
    refine E_callVi (rest := []) (ci := 12) cv_RX12_376 dX12_printsIt_34 (MX12_posterPrints hc2) rfl sM_0 rfl (by decide) rfl rfl (fun _ => Nat.le_of_ble_eq_true rfl) ?_
    obtain ⟨rfl, rfl⟩ := ret2 hf
    exact E.done (by rw [eQ]; exact ⟨rfl, Or.inl ⟨_, _, rfl, rfl, dX12_printsIt_37, rfl, rfl⟩⟩)
  · rw [if_neg hc1] at hf
    by_cases hc6 : (w.1 0 44) = 3
    · rw [if_pos hc6] at hf
      refine E_tableIn 38 dX12_printsIt_4 (by rw [hc6]; decide) (by rw [hc6]; decide) (by rw [hc6]; rfl) (by decide) ?_
      refine E_aload_n (v := 0) dX12_printsIt_38 rfl ?_
      refine E_bipush 41 dX12_printsIt_39 bp_41 ?_
      obtain ⟨w8, hc7, hf⟩ := bd_some hf
      try dsimp only at hf
      refine E_callVv (rest := []) (ci := 12) cv_RX12_364 dX12_printsIt_41 (MX12_ran hc7) rfl sM_0 rfl (by decide) rfl rfl (fun _ => Nat.le_of_ble_eq_true rfl) ?_
      refine E_aload_n (v := 0) dX12_printsIt_44 rfl ?_
      refine E_iload_n (v := a0) dX12_printsIt_45 rfl ?_
      obtain ⟨r10, w11, hc9, hf⟩ := bd2_some hf
      try dsimp only at hf
      refine E_callVi (rest := []) (ci := 12) cv_RX12_376 dX12_printsIt_46 (MX12_posterPrints hc9) rfl sM_0 rfl (by decide) rfl rfl (fun _ => Nat.le_of_ble_eq_true rfl) ?_
      refine E_aload_n (v := 0) dX12_printsIt_49 rfl ?_
      refine E_getI fg_RX12_367 dX12_printsIt_50 sM_0 rfl ?_
      refine E_isub dX12_printsIt_53 ?_
      obtain ⟨rfl, rfl⟩ := ret2 hf
      exact E.done (by rw [eQ]; exact ⟨rfl, Or.inl ⟨_, _, rfl, rfl, dX12_printsIt_54, rfl, rfl⟩⟩)
    · rw [if_neg hc6] at hf
      by_cases hc13 : (w.1 0 44) = 4
      · rw [if_pos hc13] at hf
        refine E_tableIn 55 dX12_printsIt_4 (by rw [hc13]; decide) (by rw [hc13]; decide) (by rw [hc13]; rfl) (by decide) ?_
        refine E_aload_n (v := 0) dX12_printsIt_55 rfl ?_
        refine E_bipush 50 dX12_printsIt_56 bp_50 ?_
        obtain ⟨w15, hc14, hf⟩ := bd_some hf
        try dsimp only at hf
        refine E_callVv (rest := []) (ci := 12) cv_RX12_364 dX12_printsIt_58 (MX12_ran hc14) rfl sM_0 rfl (by decide) rfl rfl (fun _ => Nat.le_of_ble_eq_true rfl) ?_
        refine E_iconst 0 dX12_printsIt_61 ic_0 ?_
        refine E_aload_n (v := 0) dX12_printsIt_62 rfl ?_
        refine E_iload_n (v := a0) dX12_printsIt_63 rfl ?_
        obtain ⟨r17, w18, hc16, hf⟩ := bd2_some hf
        try dsimp only at hf
        refine E_callVi (rest := [.int 0]) (ci := 12) cv_RX12_370 dX12_printsIt_64 (MX12_plainPrints hc16) rfl sM_0 rfl (by decide) rfl rfl (fun _ => Nat.le_of_ble_eq_true rfl) ?_
        refine E_isub dX12_printsIt_67 ?_
        obtain ⟨rfl, rfl⟩ := ret2 hf
        exact E.done (by rw [eQ]; exact ⟨rfl, Or.inl ⟨_, _, rfl, rfl, dX12_printsIt_68, rfl, rfl⟩⟩)
      · rw [if_neg hc13] at hf
        refine E_tableOut 69 dX12_printsIt_4 (tb_2_4 hc1 hc6 hc13) (by decide) ?_
        refine E_aload_n (v := 0) dX12_printsIt_69 rfl ?_
        refine E_iload_n (v := a0) dX12_printsIt_70 rfl ?_
        obtain ⟨r21, w22, hc20, hf⟩ := bd2_some hf
        try dsimp only at hf
        refine E_callVi (rest := []) (ci := 12) cv_RX12_370 dX12_printsIt_71 (MX12_plainPrints hc20) rfl sM_0 rfl (by decide) rfl rfl (fun _ => Nat.le_of_ble_eq_true rfl) ?_
        obtain ⟨rfl, rfl⟩ := ret2 hf
        exact E.done (by rw [eQ]; exact ⟨rfl, Or.inl ⟨_, _, rfl, rfl, dX12_printsIt_74, rfl, rfl⟩⟩)
set_option maxRecDepth 10000 in
set_option maxHeartbeats 2000000 in
theorem MX12_plainSets {a0 : Int32} {w : AW} {rZ : Int32} {wZ : AW} (hf : fX12_plainSets a0 w = some (rZ, wZ)) : CallOK PM yX12_plainSets cX12_plainSets 2 (some .int) 5 [.ref 0, .int a0] w (some (.int rZ)) wZ := by
  refine CallOK.of (ls := [some (.ref 0), some (.int a0)]) (by decide) (by simp) rfl rfl ?_
  obtain ⟨Q, eQ⟩ : ∃ Q, Q = Qret cX12_plainSets (some .int) (some (.int rZ)) wZ := ⟨_, rfl⟩
  rw [← eQ]
  unfold fX12_plainSets at hf
  refine E_aload_n (v := 0) dX12_plainSets_0 rfl ?_
  refine E_bipush 11 dX12_plainSets_1 bp_11 ?_
  obtain ⟨w2, hc1, hf⟩ := bd_some hf
  try dsimp only at hf
  refine E_callVv (rest := []) (ci := 12) cv_RX12_364 dX12_plainSets_3 (MX12_ran hc1) rfl sM_0 rfl (by decide) rfl rfl (fun _ => Nat.le_of_ble_eq_true rfl) ?_
  refine E_aload_n (v := 0) dX12_plainSets_6 rfl ?_
  refine E_iload_n (v := a0) dX12_plainSets_7 rfl ?_
  obtain ⟨r4, w5, hc3, hf⟩ := bd2_some hf
  try dsimp only at hf
  refine E_callVi (rest := []) (ci := 12) cv_RX12_379 dX12_plainSets_8 (MX12_printsIt hc3) rfl sM_0 rfl (by decide) rfl rfl (fun _ => Nat.le_of_ble_eq_true rfl) ?_
  refine E_iconst 2 dX12_plainSets_11 ic_2 ?_
  refine E_imul dX12_plainSets_12 ?_
  obtain ⟨rfl, rfl⟩ := ret2 hf
  exact E.done (by rw [eQ]; exact ⟨rfl, Or.inl ⟨_, _, rfl, rfl, dX12_plainSets_13, rfl, rfl⟩⟩)
set_option maxRecDepth 10000 in
set_option maxHeartbeats 2000000 in
theorem MX12_weddingSets {a0 : Int32} {w : AW} {rZ : Int32} {wZ : AW} (hf : fX12_weddingSets a0 w = some (rZ, wZ)) : CallOK PM yX12_weddingSets cX12_weddingSets 2 (some .int) 6 [.ref 0, .int a0] w (some (.int rZ)) wZ := by
  refine CallOK.of (ls := [some (.ref 0), some (.int a0)]) (by decide) (by simp) rfl rfl ?_
  obtain ⟨Q, eQ⟩ : ∃ Q, Q = Qret cX12_weddingSets (some .int) (some (.int rZ)) wZ := ⟨_, rfl⟩
  rw [← eQ]
  unfold fX12_weddingSets at hf
  refine E_aload_n (v := 0) dX12_weddingSets_0 rfl ?_
  refine E_bipush 20 dX12_weddingSets_1 bp_20 ?_
  obtain ⟨w2, hc1, hf⟩ := bd_some hf
  try dsimp only at hf
  refine E_callVv (rest := []) (ci := 12) cv_RX12_364 dX12_weddingSets_3 (MX12_ran hc1) rfl sM_0 rfl (by decide) rfl rfl (fun _ => Nat.le_of_ble_eq_true rfl) ?_
  refine E_aload_n (v := 0) dX12_weddingSets_6 rfl ?_
  refine E_iload_n (v := a0) dX12_weddingSets_7 rfl ?_
  obtain ⟨r4, w5, hc3, hf⟩ := bd2_some hf
  try dsimp only at hf
  refine E_callVi (rest := []) (ci := 12) cv_RX12_382 dX12_weddingSets_8 (MX12_plainSets hc3) rfl sM_0 rfl (by decide) rfl rfl (fun _ => Nat.le_of_ble_eq_true rfl) ?_
  refine E_aload_n (v := 0) dX12_weddingSets_11 rfl ?_
  refine E_getI fg_RX12_385 dX12_weddingSets_12 sM_0 rfl ?_
  refine E_isub dX12_weddingSets_15 ?_
  obtain ⟨rfl, rfl⟩ := ret2 hf
  exact E.done (by rw [eQ]; exact ⟨rfl, Or.inl ⟨_, _, rfl, rfl, dX12_weddingSets_16, rfl, rfl⟩⟩)
set_option maxRecDepth 10000 in
set_option maxHeartbeats 2000000 in
theorem MX12_setsIt {a0 : Int32} {w : AW} {rZ : Int32} {wZ : AW} (hf : fX12_setsIt a0 w = some (rZ, wZ)) : CallOK PM yX12_setsIt cX12_setsIt 3 (some .int) 7 [.ref 0, .int a0] w (some (.int rZ)) wZ := by
  refine CallOK.of (ls := [some (.ref 0), some (.int a0), none]) (by decide) (by simp) rfl rfl ?_
  obtain ⟨Q, eQ⟩ : ∃ Q, Q = Qret cX12_setsIt (some .int) (some (.int rZ)) wZ := ⟨_, rfl⟩
  rw [← eQ]
  unfold fX12_setsIt at hf
  refine E_aload_n (v := 0) dX12_setsIt_0 rfl ?_
  refine E_getI fg_RX12_373 dX12_setsIt_1 sM_0 rfl ?_
  refine E_iconst 4 dX12_setsIt_4 ic_4 ?_
  refine E_icmp_ne 31 dX12_setsIt_5 (by decide) (fun hc1 => ?_) (fun hc1 => ?_)
  · rw [if_pos hc1] at hf
    refine E_aload_n (v := 0) dX12_setsIt_8 rfl ?_
    refine E_bipush 51 dX12_setsIt_9 bp_51 ?_
    obtain ⟨w3, hc2, hf⟩ := bd_some hf
    try dsimp only at hf
    refine E_callVv (rest := []) (ci := 12) cv_RX12_364 dX12_setsIt_11 (MX12_ran hc2) rfl sM_0 rfl (by decide) rfl rfl (fun _ => Nat.le_of_ble_eq_true rfl) ?_
    refine E_aload_n (v := 0) dX12_setsIt_14 rfl ?_
    refine E_iload_n (v := a0) dX12_setsIt_15 rfl ?_
    obtain ⟨r5, w6, hc4, hf⟩ := bd2_some hf
    try dsimp only at hf
    refine E_callVi (rest := []) (ci := 12) cv_RX12_388 dX12_setsIt_16 (MX12_weddingSets hc4) rfl sM_0 rfl (by decide) rfl rfl (fun _ => Nat.le_of_ble_eq_true rfl) ?_
    refine E_istore_n (ls' := [some (.ref 0), some (.int a0), some (.int r5)]) dX12_setsIt_19 rfl rfl rfl ?_
    refine E_iload_n (v := r5) dX12_setsIt_20 rfl ?_
    refine E_aload_n (v := 0) dX12_setsIt_21 rfl ?_
    refine E_aload_n (v := 0) dX12_setsIt_22 rfl ?_
    refine E_getI fg_RX12_367 dX12_setsIt_23 sM_0 rfl ?_
    obtain ⟨r9, w10, hc8, hf⟩ := bd2_some hf
    try dsimp only at hf
    refine E_callVi (rest := [.int r5]) (ci := 12) cv_RX12_379 dX12_setsIt_26 (MX12_printsIt hc8) rfl sM_0 rfl (by decide) rfl rfl (fun _ => Nat.le_of_ble_eq_true rfl) ?_
    refine E_iadd dX12_setsIt_29 ?_
    obtain ⟨rfl, rfl⟩ := ret2 hf
    exact E.done (by rw [eQ]; exact ⟨rfl, Or.inl ⟨_, _, rfl, rfl, dX12_setsIt_30, rfl, rfl⟩⟩)
  · rw [if_neg hc1] at hf
    refine E_aload_n (v := 0) dX12_setsIt_31 rfl ?_
    refine E_getI fg_RX12_373 dX12_setsIt_32 sM_0 rfl ?_
    refine E_iconst 1 dX12_setsIt_35 ic_1 ?_
    refine E_icmp_ne 47 dX12_setsIt_36 (by decide) (fun hc12 => ?_) (fun hc12 => ?_)
    · rw [if_pos hc12] at hf
      refine E_aload_n (v := 0) dX12_setsIt_39 rfl ?_
      refine E_iload_n (v := a0) dX12_setsIt_40 rfl ?_
      obtain ⟨r14, w15, hc13, hf⟩ := bd2_some hf
      try dsimp only at hf
      refine E_callVi (rest := []) (ci := 12) cv_RX12_388 dX12_setsIt_41 (MX12_weddingSets hc13) rfl sM_0 rfl (by decide) rfl rfl (fun _ => Nat.le_of_ble_eq_true rfl) ?_
      refine E_goto 52 dX12_setsIt_44 (by decide) ?_
      obtain ⟨rfl, rfl⟩ := ret2 hf
      exact E.done (by rw [eQ]; exact ⟨rfl, Or.inl ⟨_, _, rfl, rfl, dX12_setsIt_52, rfl, rfl⟩⟩)
    · rw [if_neg hc12] at hf
      refine E_aload_n (v := 0) dX12_setsIt_47 rfl ?_
      refine E_iload_n (v := a0) dX12_setsIt_48 rfl ?_
      obtain ⟨r18, w19, hc17, hf⟩ := bd2_some hf
      try dsimp only at hf
      refine E_callVi (rest := []) (ci := 12) cv_RX12_382 dX12_setsIt_49 (MX12_plainSets hc17) rfl sM_0 rfl (by decide) rfl rfl (fun _ => Nat.le_of_ble_eq_true rfl) ?_
      obtain ⟨rfl, rfl⟩ := ret2 hf
      exact E.done (by rw [eQ]; exact ⟨rfl, Or.inl ⟨_, _, rfl, rfl, dX12_setsIt_52, rfl, rfl⟩⟩)
set_option maxRecDepth 10000 in
set_option maxHeartbeats 2000000 in
theorem MX12_plainShares {a0 : Int32} {w : AW} {rZ : Int32} {wZ : AW} (hf : fX12_plainShares a0 w = some (rZ, wZ)) : CallOK PM yX12_plainShares cX12_plainShares 2 (some .int) 2 [.ref 0, .int a0] w (some (.int rZ)) wZ := by
  refine CallOK.of (ls := [some (.ref 0), some (.int a0)]) (by decide) (by simp) rfl rfl ?_
  obtain ⟨Q, eQ⟩ : ∃ Q, Q = Qret cX12_plainShares (some .int) (some (.int rZ)) wZ := ⟨_, rfl⟩
  rw [← eQ]
  unfold fX12_plainShares at hf
  refine E_aload_n (v := 0) dX12_plainShares_0 rfl ?_
  refine E_bipush 12 dX12_plainShares_1 bp_12 ?_
  obtain ⟨w2, hc1, hf⟩ := bd_some hf
  try dsimp only at hf
  refine E_callVv (rest := []) (ci := 12) cv_RX12_364 dX12_plainShares_3 (MX12_ran hc1) rfl sM_0 rfl (by decide) rfl rfl (fun _ => Nat.le_of_ble_eq_true rfl) ?_
  refine E_aload_n (v := 0) dX12_plainShares_6 rfl ?_
  refine E_getI fg_RX12_385 dX12_plainShares_7 sM_0 rfl ?_
  refine E_aload_n (v := 0) dX12_plainShares_10 rfl ?_
  refine E_getI fg_RX12_367 dX12_plainShares_11 sM_0 rfl ?_
  refine E_icmp_ne 24 dX12_plainShares_14 (by decide) (fun hc3 => ?_) (fun hc3 => ?_)
  · rw [if_pos hc3] at hf
    refine E_aload_n (v := 0) dX12_plainShares_17 rfl ?_
    refine E_iconst 1 dX12_plainShares_18 ic_1 ?_
    obtain ⟨w4, ew4, hf⟩ := lw_some hf
    try dsimp only at hf
    refine E_putI fp_RX12_391 dX12_plainShares_19 sM_0 rfl rfl rfl ?_
    rw [← ew4]
    refine E_iconst 0 dX12_plainShares_22 ic_0 ?_
    obtain ⟨rfl, rfl⟩ := ret2 hf
    exact E.done (by rw [eQ]; exact ⟨rfl, Or.inl ⟨_, _, rfl, rfl, dX12_plainShares_23, rfl, rfl⟩⟩)
  · rw [if_neg hc3] at hf
    refine E_iload_n (v := a0) dX12_plainShares_24 rfl ?_
    refine E_aload_n (v := 0) dX12_plainShares_25 rfl ?_
    refine E_getI fg_RX12_385 dX12_plainShares_26 sM_0 rfl ?_
    refine E_aload_n (v := 0) dX12_plainShares_29 rfl ?_
    refine E_getI fg_RX12_367 dX12_plainShares_30 sM_0 rfl ?_
    refine E_isub dX12_plainShares_33 ?_
    obtain ⟨hz5, hf⟩ := gd_some hf
    refine E_idiv dX12_plainShares_34 (of_decide_eq_true hz5) ?_
    obtain ⟨rfl, rfl⟩ := ret2 hf
    exact E.done (by rw [eQ]; exact ⟨rfl, Or.inl ⟨_, _, rfl, rfl, dX12_plainShares_35, rfl, rfl⟩⟩)
set_option maxRecDepth 10000 in
set_option maxHeartbeats 2000000 in
theorem MX12_sharesIt {a0 : Int32} {w : AW} {rZ : Int32} {wZ : AW} (hf : fX12_sharesIt a0 w = some (rZ, wZ)) : CallOK PM yX12_sharesIt cX12_sharesIt 3 (some .int) 5 [.ref 0, .int a0] w (some (.int rZ)) wZ := by
  refine CallOK.of (ls := [some (.ref 0), some (.int a0), none]) (by decide) (by simp) rfl rfl ?_
  obtain ⟨Q, eQ⟩ : ∃ Q, Q = Qret cX12_sharesIt (some .int) (some (.int rZ)) wZ := ⟨_, rfl⟩
  rw [← eQ]
  unfold fX12_sharesIt at hf
  refine E_aload_n (v := 0) dX12_sharesIt_0 rfl ?_
  refine E_getI fg_RX12_373 dX12_sharesIt_1 sM_0 rfl ?_
  refine E_iconst 3 dX12_sharesIt_4 ic_3 ?_
  refine E_icmp_ne 24 dX12_sharesIt_5 (by decide) (fun hc1 => ?_) (fun hc1 => ?_)
  · rw [if_pos hc1] at hf
    refine E_aload_n (v := 0) dX12_sharesIt_8 rfl ?_
    refine E_bipush 40 dX12_sharesIt_9 bp_40 ?_
    obtain ⟨w3, hc2, hf⟩ := bd_some hf
    try dsimp only at hf
    refine E_callVv (rest := []) (ci := 12) cv_RX12_364 dX12_sharesIt_11 (MX12_ran hc2) rfl sM_0 rfl (by decide) rfl rfl (fun _ => Nat.le_of_ble_eq_true rfl) ?_
    refine E_aload_n (v := 0) dX12_sharesIt_14 rfl ?_
    refine E_iload_n (v := a0) dX12_sharesIt_15 rfl ?_
    refine E_iconst 2 dX12_sharesIt_16 ic_2 ?_
    refine E_iadd dX12_sharesIt_17 ?_
    obtain ⟨r5, w6, hc4, hf⟩ := bd2_some hf
    try dsimp only at hf
    refine E_callVi (rest := []) (ci := 12) cv_RX12_394 dX12_sharesIt_18 (MX12_plainShares hc4) rfl sM_0 rfl (by decide) rfl rfl (fun _ => Nat.le_of_ble_eq_true rfl) ?_
    refine E_iconst 1 dX12_sharesIt_21 ic_1 ?_
    refine E_ixor dX12_sharesIt_22 ?_
    obtain ⟨rfl, rfl⟩ := ret2 hf
    exact E.done (by rw [eQ]; exact ⟨rfl, Or.inl ⟨_, _, rfl, rfl, dX12_sharesIt_23, rfl, rfl⟩⟩)
  · rw [if_neg hc1] at hf
    refine E_aload_n (v := 0) dX12_sharesIt_24 rfl ?_
    refine E_getI fg_RX12_373 dX12_sharesIt_25 sM_0 rfl ?_
    refine E_iconst 5 dX12_sharesIt_28 ic_5 ?_
    refine E_icmp_ne 66 dX12_sharesIt_29 (by decide) (fun hc8 => ?_) (fun hc8 => ?_)
    · rw [if_pos hc8] at hf
      refine E_aload_n (v := 0) dX12_sharesIt_32 rfl ?_
      refine E_bipush 61 dX12_sharesIt_33 bp_61 ?_
      obtain ⟨w10, hc9, hf⟩ := bd_some hf
      try dsimp only at hf
      refine E_callVv (rest := []) (ci := 12) cv_RX12_364 dX12_sharesIt_35 (MX12_ran hc9) rfl sM_0 rfl (by decide) rfl rfl (fun _ => Nat.le_of_ble_eq_true rfl) ?_
      refine E_aload_n (v := 0) dX12_sharesIt_38 rfl ?_
      refine E_iload_n (v := a0) dX12_sharesIt_39 rfl ?_
      obtain ⟨r12, w13, hc11, hf⟩ := bd2_some hf
      try dsimp only at hf
      refine E_callVi (rest := []) (ci := 12) cv_RX12_394 dX12_sharesIt_40 (MX12_plainShares hc11) rfl sM_0 rfl (by decide) rfl rfl (fun _ => Nat.le_of_ble_eq_true rfl) ?_
      refine E_istore_n (ls' := [some (.ref 0), some (.int a0), some (.int r12)]) dX12_sharesIt_43 rfl rfl rfl ?_
      refine E_aload_n (v := 0) dX12_sharesIt_44 rfl ?_
      refine E_getI fg_RX12_391 dX12_sharesIt_45 sM_0 rfl ?_
      refine E_if_eq 55 dX12_sharesIt_48 (by decide) (fun hc15 => ?_) (fun hc15 => ?_)
      · rw [if_pos hc15] at hf
        refine E_iload_n (v := r12) dX12_sharesIt_55 rfl ?_
        refine E_aload_n (v := 0) dX12_sharesIt_56 rfl ?_
        refine E_aload_n (v := 0) dX12_sharesIt_57 rfl ?_
        refine E_getI fg_RX12_385 dX12_sharesIt_58 sM_0 rfl ?_
        obtain ⟨r17, w18, hc16, hf⟩ := bd2_some hf
        try dsimp only at hf
        refine E_callVi (rest := [.int r12]) (ci := 12) cv_RX12_379 dX12_sharesIt_61 (MX12_printsIt hc16) rfl sM_0 rfl (by decide) rfl rfl (fun _ => Nat.le_of_ble_eq_true rfl) ?_
        refine E_iadd dX12_sharesIt_64 ?_
        obtain ⟨rfl, rfl⟩ := ret2 hf
        exact E.done (by rw [eQ]; exact ⟨rfl, Or.inl ⟨_, _, rfl, rfl, dX12_sharesIt_65, rfl, rfl⟩⟩)
      · rw [if_neg hc15] at hf
        refine E_iconst 0 dX12_sharesIt_51 ic_0 ?_
        refine E_goto 65 dX12_sharesIt_52 (by decide) ?_
        obtain ⟨rfl, rfl⟩ := ret2 hf
        exact E.done (by rw [eQ]; exact ⟨rfl, Or.inl ⟨_, _, rfl, rfl, dX12_sharesIt_65, rfl, rfl⟩⟩)
    · rw [if_neg hc8] at hf
      refine E_aload_n (v := 0) dX12_sharesIt_66 rfl ?_
      refine E_iload_n (v := a0) dX12_sharesIt_67 rfl ?_
      obtain ⟨r21, w22, hc20, hf⟩ := bd2_some hf
      try dsimp only at hf
      refine E_callVi (rest := []) (ci := 12) cv_RX12_394 dX12_sharesIt_68 (MX12_plainShares hc20) rfl sM_0 rfl (by decide) rfl rfl (fun _ => Nat.le_of_ble_eq_true rfl) ?_
      obtain ⟨rfl, rfl⟩ := ret2 hf
      exact E.done (by rw [eQ]; exact ⟨rfl, Or.inl ⟨_, _, rfl, rfl, dX12_sharesIt_71, rfl, rfl⟩⟩)
set_option maxRecDepth 10000 in
set_option maxHeartbeats 2000000 in
theorem MX12_plainTells {a0 : Int32} {w : AW} {rZ : Int32} {wZ : AW} (hf : fX12_plainTells a0 w = some (rZ, wZ)) : CallOK PM yX12_plainTells cX12_plainTells 2 (some .int) 8 [.ref 0, .int a0] w (some (.int rZ)) wZ := by
  refine CallOK.of (ls := [some (.ref 0), some (.int a0)]) (by decide) (by simp) rfl rfl ?_
  obtain ⟨Q, eQ⟩ : ∃ Q, Q = Qret cX12_plainTells (some .int) (some (.int rZ)) wZ := ⟨_, rfl⟩
  rw [← eQ]
  unfold fX12_plainTells at hf
  refine E_aload_n (v := 0) dX12_plainTells_0 rfl ?_
  refine E_bipush 13 dX12_plainTells_1 bp_13 ?_
  obtain ⟨w2, hc1, hf⟩ := bd_some hf
  try dsimp only at hf
  refine E_callVv (rest := []) (ci := 12) cv_RX12_364 dX12_plainTells_3 (MX12_ran hc1) rfl sM_0 rfl (by decide) rfl rfl (fun _ => Nat.le_of_ble_eq_true rfl) ?_
  refine E_aload_n (v := 0) dX12_plainTells_6 rfl ?_
  refine E_iload_n (v := a0) dX12_plainTells_7 rfl ?_
  obtain ⟨r4, w5, hc3, hf⟩ := bd2_some hf
  try dsimp only at hf
  refine E_callVi (rest := []) (ci := 12) cv_RX12_397 dX12_plainTells_8 (MX12_setsIt hc3) rfl sM_0 rfl (by decide) rfl rfl (fun _ => Nat.le_of_ble_eq_true rfl) ?_
  refine E_aload_n (v := 0) dX12_plainTells_11 rfl ?_
  refine E_getI fg_RX12_385 dX12_plainTells_12 sM_0 rfl ?_
  refine E_ixor dX12_plainTells_15 ?_
  obtain ⟨rfl, rfl⟩ := ret2 hf
  exact E.done (by rw [eQ]; exact ⟨rfl, Or.inl ⟨_, _, rfl, rfl, dX12_plainTells_16, rfl, rfl⟩⟩)
set_option maxRecDepth 10000 in
set_option maxHeartbeats 2000000 in
theorem MX12_tellsIt {a0 : Int32} {w : AW} {rZ : Int32} {wZ : AW} (hf : fX12_tellsIt a0 w = some (rZ, wZ)) : CallOK PM yX12_tellsIt cX12_tellsIt 3 (some .int) 9 [.ref 0, .int a0] w (some (.int rZ)) wZ := by
  refine CallOK.of (ls := [some (.ref 0), some (.int a0), none]) (by decide) (by simp) rfl rfl ?_
  obtain ⟨Q, eQ⟩ : ∃ Q, Q = Qret cX12_tellsIt (some .int) (some (.int rZ)) wZ := ⟨_, rfl⟩
  rw [← eQ]
  unfold fX12_tellsIt at hf
  refine E_aload_n (v := 0) dX12_tellsIt_0 rfl ?_
  refine E_getI fg_RX12_373 dX12_tellsIt_1 sM_0 rfl ?_
  refine E_iconst 2 dX12_tellsIt_4 ic_2 ?_
  refine E_icmp_eq 16 dX12_tellsIt_5 (by decide) (fun hc1 => ?_) (fun hc1 => ?_)
  · rw [if_pos hc1] at hf
    refine E_aload_n (v := 0) dX12_tellsIt_16 rfl ?_
    refine E_bipush 31 dX12_tellsIt_17 bp_31 ?_
    obtain ⟨w3, hc2, hf⟩ := bd_some hf
    try dsimp only at hf
    refine E_callVv (rest := []) (ci := 12) cv_RX12_364 dX12_tellsIt_19 (MX12_ran hc2) rfl sM_0 rfl (by decide) rfl rfl (fun _ => Nat.le_of_ble_eq_true rfl) ?_
    refine E_aload_n (v := 0) dX12_tellsIt_22 rfl ?_
    refine E_iload_n (v := a0) dX12_tellsIt_23 rfl ?_
    obtain ⟨r5, w6, hc4, hf⟩ := bd2_some hf
    try dsimp only at hf
    refine E_callVi (rest := []) (ci := 12) cv_RX12_400 dX12_tellsIt_24 (MX12_plainTells hc4) rfl sM_0 rfl (by decide) rfl rfl (fun _ => Nat.le_of_ble_eq_true rfl) ?_
    refine E_istore_n (ls' := [some (.ref 0), some (.int a0), some (.int r5)]) dX12_tellsIt_27 rfl rfl rfl ?_
    refine E_iload_n (v := r5) dX12_tellsIt_28 rfl ?_
    refine E_aload_n (v := 0) dX12_tellsIt_29 rfl ?_
    refine E_aload_n (v := 0) dX12_tellsIt_30 rfl ?_
    refine E_getI fg_RX12_367 dX12_tellsIt_31 sM_0 rfl ?_
    obtain ⟨r9, w10, hc8, hf⟩ := bd2_some hf
    try dsimp only at hf
    refine E_callVi (rest := [.int r5]) (ci := 12) cv_RX12_403 dX12_tellsIt_34 (MX12_sharesIt hc8) rfl sM_0 rfl (by decide) rfl rfl (fun _ => Nat.le_of_ble_eq_true rfl) ?_
    refine E_iadd dX12_tellsIt_37 ?_
    obtain ⟨rfl, rfl⟩ := ret2 hf
    exact E.done (by rw [eQ]; exact ⟨rfl, Or.inl ⟨_, _, rfl, rfl, dX12_tellsIt_38, rfl, rfl⟩⟩)
  · rw [if_neg hc1] at hf
    refine E_aload_n (v := 0) dX12_tellsIt_8 rfl ?_
    refine E_getI fg_RX12_373 dX12_tellsIt_9 sM_0 rfl ?_
    refine E_iconst 3 dX12_tellsIt_12 ic_3 ?_
    refine E_icmp_ne 39 dX12_tellsIt_13 (by decide) (fun hc12 => ?_) (fun hc12 => ?_)
    · rw [if_pos hc12] at hf
      refine E_aload_n (v := 0) dX12_tellsIt_16 rfl ?_
      refine E_bipush 31 dX12_tellsIt_17 bp_31 ?_
      obtain ⟨w14, hc13, hf⟩ := bd_some hf
      try dsimp only at hf
      refine E_callVv (rest := []) (ci := 12) cv_RX12_364 dX12_tellsIt_19 (MX12_ran hc13) rfl sM_0 rfl (by decide) rfl rfl (fun _ => Nat.le_of_ble_eq_true rfl) ?_
      refine E_aload_n (v := 0) dX12_tellsIt_22 rfl ?_
      refine E_iload_n (v := a0) dX12_tellsIt_23 rfl ?_
      obtain ⟨r16, w17, hc15, hf⟩ := bd2_some hf
      try dsimp only at hf
      refine E_callVi (rest := []) (ci := 12) cv_RX12_400 dX12_tellsIt_24 (MX12_plainTells hc15) rfl sM_0 rfl (by decide) rfl rfl (fun _ => Nat.le_of_ble_eq_true rfl) ?_
      refine E_istore_n (ls' := [some (.ref 0), some (.int a0), some (.int r16)]) dX12_tellsIt_27 rfl rfl rfl ?_
      refine E_iload_n (v := r16) dX12_tellsIt_28 rfl ?_
      refine E_aload_n (v := 0) dX12_tellsIt_29 rfl ?_
      refine E_aload_n (v := 0) dX12_tellsIt_30 rfl ?_
      refine E_getI fg_RX12_367 dX12_tellsIt_31 sM_0 rfl ?_
      obtain ⟨r20, w21, hc19, hf⟩ := bd2_some hf
      try dsimp only at hf
      refine E_callVi (rest := [.int r16]) (ci := 12) cv_RX12_403 dX12_tellsIt_34 (MX12_sharesIt hc19) rfl sM_0 rfl (by decide) rfl rfl (fun _ => Nat.le_of_ble_eq_true rfl) ?_
      refine E_iadd dX12_tellsIt_37 ?_
      obtain ⟨rfl, rfl⟩ := ret2 hf
      exact E.done (by rw [eQ]; exact ⟨rfl, Or.inl ⟨_, _, rfl, rfl, dX12_tellsIt_38, rfl, rfl⟩⟩)
    · rw [if_neg hc12] at hf
      refine E_aload_n (v := 0) dX12_tellsIt_39 rfl ?_
      refine E_getI fg_RX12_373 dX12_tellsIt_40 sM_0 rfl ?_
      refine E_iconst 5 dX12_tellsIt_43 ic_5 ?_
      refine E_icmp_ne 61 dX12_tellsIt_44 (by decide) (fun hc23 => ?_) (fun hc23 => ?_)
      · rw [if_pos hc23] at hf
        refine E_aload_n (v := 0) dX12_tellsIt_47 rfl ?_
        refine E_bipush 60 dX12_tellsIt_48 bp_60 ?_
        obtain ⟨w25, hc24, hf⟩ := bd_some hf
        try dsimp only at hf
        refine E_callVv (rest := []) (ci := 12) cv_RX12_364 dX12_tellsIt_50 (MX12_ran hc24) rfl sM_0 rfl (by decide) rfl rfl (fun _ => Nat.le_of_ble_eq_true rfl) ?_
        refine E_aload_n (v := 0) dX12_tellsIt_53 rfl ?_
        refine E_iload_n (v := a0) dX12_tellsIt_54 rfl ?_
        obtain ⟨r27, w28, hc26, hf⟩ := bd2_some hf
        try dsimp only at hf
        refine E_callVi (rest := []) (ci := 12) cv_RX12_400 dX12_tellsIt_55 (MX12_plainTells hc26) rfl sM_0 rfl (by decide) rfl rfl (fun _ => Nat.le_of_ble_eq_true rfl) ?_
        refine E_iconst 2 dX12_tellsIt_58 ic_2 ?_
        refine E_imul dX12_tellsIt_59 ?_
        obtain ⟨rfl, rfl⟩ := ret2 hf
        exact E.done (by rw [eQ]; exact ⟨rfl, Or.inl ⟨_, _, rfl, rfl, dX12_tellsIt_60, rfl, rfl⟩⟩)
      · rw [if_neg hc23] at hf
        refine E_aload_n (v := 0) dX12_tellsIt_61 rfl ?_
        refine E_iload_n (v := a0) dX12_tellsIt_62 rfl ?_
        obtain ⟨r31, w32, hc30, hf⟩ := bd2_some hf
        try dsimp only at hf
        refine E_callVi (rest := []) (ci := 12) cv_RX12_400 dX12_tellsIt_63 (MX12_plainTells hc30) rfl sM_0 rfl (by decide) rfl rfl (fun _ => Nat.le_of_ble_eq_true rfl) ?_
        obtain ⟨rfl, rfl⟩ := ret2 hf
        exact E.done (by rw [eQ]; exact ⟨rfl, Or.inl ⟨_, _, rfl, rfl, dX12_tellsIt_66, rfl, rfl⟩⟩)
set_option maxRecDepth 10000 in
set_option maxHeartbeats 2000000 in
theorem BX12_act_21 (p1_21 : Int32) (p2_21 : Int32) (p3_21 : Int32) (q0_21 : Int32) (w : AW) (rZ : Int32) (wZ : AW) {Q : Nat → List (Option Value) → List Value → AW → Prop} (eQ : Q = Qret cX12_act (some .int) (some (.int rZ)) wZ) (hf : bX12_act_21 p1_21 p2_21 p3_21 q0_21 w = some (rZ, wZ)) : E PM RX12 cX12_act 6 10 21 [some (.ref 0), some (.int p1_21), some (.int p2_21), some (.int p3_21), none, none] [.int q0_21] w Q := by
  unfold bX12_act_21 at hf
  refine E_istore (ls' := [some (.ref 0), some (.int p1_21), some (.int p2_21), some (.int p3_21), some (.int q0_21), none]) dX12_act_21 rfl rfl rfl ?_
  refine E_iload_n (v := p2_21) dX12_act_23 rfl ?_
  refine E_iconst 0 dX12_act_24 ic_0 ?_
  refine E_iconst 3 dX12_act_25 ic_3 ?_
  obtain ⟨r6, hc5, hf⟩ := bd_some hf
  try dsimp only at hf
  refine E_callSi (rest := []) cs_RX12_99 dX12_act_26 (MX12_in hc5) rfl rfl rfl (fun _ => Nat.le_of_ble_eq_true rfl) ?_
  refine E_if_eq 42 dX12_act_29 (by decide) (fun hc7 => ?_) (fun hc7 => ?_)
  · rw [if_pos hc7] at hf
    refine E_iconst 0 dX12_act_42 ic_0 ?_
    obtain ⟨rfl, rfl⟩ := ret2 hf
    exact E.done (by rw [eQ]; exact ⟨rfl, Or.inl ⟨_, _, rfl, rfl, dX12_act_43, rfl, rfl⟩⟩)
  · rw [if_neg hc7] at hf
    refine E_iload (v := q0_21) dX12_act_32 rfl ?_
    refine E_iconst 0 dX12_act_34 ic_0 ?_
    refine E_iconst 5 dX12_act_35 ic_5 ?_
    obtain ⟨r9, hc8, hf⟩ := bd_some hf
    try dsimp only at hf
    refine E_callSi (rest := []) cs_RX12_99 dX12_act_36 (MX12_in hc8) rfl rfl rfl (fun _ => Nat.le_of_ble_eq_true rfl) ?_
    refine E_if_ne 44 dX12_act_39 (by decide) (fun hc10 => ?_) (fun hc10 => ?_)
    · rw [if_pos hc10] at hf
      refine E_iconst 0 dX12_act_42 ic_0 ?_
      obtain ⟨rfl, rfl⟩ := ret2 hf
      exact E.done (by rw [eQ]; exact ⟨rfl, Or.inl ⟨_, _, rfl, rfl, dX12_act_43, rfl, rfl⟩⟩)
    · rw [if_neg hc10] at hf
      refine E_aload_n (v := 0) dX12_act_44 rfl ?_
      refine E_iload (v := q0_21) dX12_act_45 rfl ?_
      obtain ⟨w11, ew11, hf⟩ := lw_some hf
      try dsimp only at hf
      refine E_putI fp_RX12_373 dX12_act_47 sM_0 rfl rfl rfl ?_
      rw [← ew11]
      refine E_aload_n (v := 0) dX12_act_50 rfl ?_
      refine E_aload_n (v := 0) dX12_act_51 rfl ?_
      refine E_getR fg_RX12_81 dX12_act_52 sM_0 rfl rM_0_42 (Nat.succ_ne_zero _) ?_
      refine E_iload_n (v := p1_21) dX12_act_55 rfl ?_
      obtain ⟨hi12, hf⟩ := gd_some hf
      refine E_iald (n := 4) dX12_act_56 sM_23 (by decide) (inb_in hi12) ?_
      obtain ⟨w13, ew13, hf⟩ := lw_some hf
      try dsimp only at hf
      refine E_putI fp_RX12_367 dX12_act_57 sM_0 rfl rfl rfl ?_
      rw [← ew13]
      refine E_aload_n (v := 0) dX12_act_60 rfl ?_
      refine E_aload_n (v := 0) dX12_act_61 rfl ?_
      refine E_aload_n (v := 0) dX12_act_62 rfl ?_
      refine E_getI fg_RX12_367 dX12_act_63 sM_0 rfl ?_
      refine E_iconst 4 dX12_act_66 ic_4 ?_
      obtain ⟨r15, hc14, hf⟩ := bd_some hf
      try dsimp only at hf
      refine E_callVi (rest := [.ref 0]) (ci := 12) cv_RX12_242 dX12_act_67 (MX12_its hc14) rfl sM_0 rfl (by decide) rfl rfl (fun _ => Nat.le_of_ble_eq_true rfl) ?_
      obtain ⟨w16, ew16, hf⟩ := lw_some hf
      try dsimp only at hf
      refine E_putI fp_RX12_385 dX12_act_70 sM_0 rfl rfl rfl ?_
      rw [← ew16]
      refine E_aload_n (v := 0) dX12_act_73 rfl ?_
      refine E_iconst 0 dX12_act_74 ic_0 ?_
      obtain ⟨w17, ew17, hf⟩ := lw_some hf
      try dsimp only at hf
      refine E_putI fp_RX12_391 dX12_act_75 sM_0 rfl rfl rfl ?_
      rw [← ew17]
      refine E_iload_n (v := p2_21) dX12_act_78 rfl ?_
      refine E_if_ne 90 dX12_act_79 (by decide) (fun hc18 => ?_) (fun hc18 => ?_)
      · rw [if_pos hc18] at hf
        refine E_aload_n (v := 0) dX12_act_82 rfl ?_
        refine E_iload_n (v := p3_21) dX12_act_83 rfl ?_
        obtain ⟨r20, w21, hc19, hf⟩ := bd2_some hf
        try dsimp only at hf
        refine E_callVi (rest := []) (ci := 12) cv_RX12_379 dX12_act_84 (MX12_printsIt hc19) rfl sM_0 rfl (by decide) rfl rfl (fun _ => Nat.le_of_ble_eq_true rfl) ?_
        refine E_goto 121 dX12_act_87 (by decide) ?_
        refine E_istore (ls' := [some (.ref 0), some (.int p1_21), some (.int p2_21), some (.int p3_21), some (.int q0_21), some (.int r20)]) dX12_act_121 rfl rfl rfl ?_
        refine E_aload_n (v := 0) dX12_act_123 rfl ?_
        refine E_getI fg_RX12_391 dX12_act_124 sM_0 rfl ?_
        refine E_if_eq 135 dX12_act_127 (by decide) (fun hc23 => ?_) (fun hc23 => ?_)
        · rw [if_pos hc23] at hf
          refine E_iload (v := r20) dX12_act_135 rfl ?_
          obtain ⟨rfl, rfl⟩ := ret2 hf
          exact E.done (by rw [eQ]; exact ⟨rfl, Or.inl ⟨_, _, rfl, rfl, dX12_act_137, rfl, rfl⟩⟩)
        · rw [if_neg hc23] at hf
          refine E_bipush (-15) dX12_act_130 bp_m15 ?_
          refine E_goto 137 dX12_act_132 (by decide) ?_
          obtain ⟨rfl, rfl⟩ := ret2 hf
          exact E.done (by rw [eQ]; exact ⟨rfl, Or.inl ⟨_, _, rfl, rfl, dX12_act_137, rfl, rfl⟩⟩)
      · rw [if_neg hc18] at hf
        refine E_iload_n (v := p2_21) dX12_act_90 rfl ?_
        refine E_iconst 1 dX12_act_91 ic_1 ?_
        refine E_icmp_ne 103 dX12_act_92 (by decide) (fun hc24 => ?_) (fun hc24 => ?_)
        · rw [if_pos hc24] at hf
          refine E_aload_n (v := 0) dX12_act_95 rfl ?_
          refine E_iload_n (v := p3_21) dX12_act_96 rfl ?_
          obtain ⟨r26, w27, hc25, hf⟩ := bd2_some hf
          try dsimp only at hf
          refine E_callVi (rest := []) (ci := 12) cv_RX12_397 dX12_act_97 (MX12_setsIt hc25) rfl sM_0 rfl (by decide) rfl rfl (fun _ => Nat.le_of_ble_eq_true rfl) ?_
          refine E_goto 121 dX12_act_100 (by decide) ?_
          refine E_istore (ls' := [some (.ref 0), some (.int p1_21), some (.int p2_21), some (.int p3_21), some (.int q0_21), some (.int r26)]) dX12_act_121 rfl rfl rfl ?_
          refine E_aload_n (v := 0) dX12_act_123 rfl ?_
          refine E_getI fg_RX12_391 dX12_act_124 sM_0 rfl ?_
          refine E_if_eq 135 dX12_act_127 (by decide) (fun hc29 => ?_) (fun hc29 => ?_)
          · rw [if_pos hc29] at hf
            refine E_iload (v := r26) dX12_act_135 rfl ?_
            obtain ⟨rfl, rfl⟩ := ret2 hf
            exact E.done (by rw [eQ]; exact ⟨rfl, Or.inl ⟨_, _, rfl, rfl, dX12_act_137, rfl, rfl⟩⟩)
          · rw [if_neg hc29] at hf
            refine E_bipush (-15) dX12_act_130 bp_m15 ?_
            refine E_goto 137 dX12_act_132 (by decide) ?_
            obtain ⟨rfl, rfl⟩ := ret2 hf
            exact E.done (by rw [eQ]; exact ⟨rfl, Or.inl ⟨_, _, rfl, rfl, dX12_act_137, rfl, rfl⟩⟩)
        · rw [if_neg hc24] at hf
          refine E_iload_n (v := p2_21) dX12_act_103 rfl ?_
          refine E_iconst 2 dX12_act_104 ic_2 ?_
          refine E_icmp_ne 116 dX12_act_105 (by decide) (fun hc30 => ?_) (fun hc30 => ?_)
          · rw [if_pos hc30] at hf
            refine E_aload_n (v := 0) dX12_act_108 rfl ?_
            refine E_iload_n (v := p3_21) dX12_act_109 rfl ?_
            obtain ⟨r32, w33, hc31, hf⟩ := bd2_some hf
            try dsimp only at hf
            refine E_callVi (rest := []) (ci := 12) cv_RX12_403 dX12_act_110 (MX12_sharesIt hc31) rfl sM_0 rfl (by decide) rfl rfl (fun _ => Nat.le_of_ble_eq_true rfl) ?_
            refine E_goto 121 dX12_act_113 (by decide) ?_
            refine E_istore (ls' := [some (.ref 0), some (.int p1_21), some (.int p2_21), some (.int p3_21), some (.int q0_21), some (.int r32)]) dX12_act_121 rfl rfl rfl ?_
            refine E_aload_n (v := 0) dX12_act_123 rfl ?_
            refine E_getI fg_RX12_391 dX12_act_124 sM_0 rfl ?_
            refine E_if_eq 135 dX12_act_127 (by decide) (fun hc35 => ?_) (fun hc35 => ?_)
            · rw [if_pos hc35] at hf
              refine E_iload (v := r32) dX12_act_135 rfl ?_
              obtain ⟨rfl, rfl⟩ := ret2 hf
              exact E.done (by rw [eQ]; exact ⟨rfl, Or.inl ⟨_, _, rfl, rfl, dX12_act_137, rfl, rfl⟩⟩)
            · rw [if_neg hc35] at hf
              refine E_bipush (-15) dX12_act_130 bp_m15 ?_
              refine E_goto 137 dX12_act_132 (by decide) ?_
              obtain ⟨rfl, rfl⟩ := ret2 hf
              exact E.done (by rw [eQ]; exact ⟨rfl, Or.inl ⟨_, _, rfl, rfl, dX12_act_137, rfl, rfl⟩⟩)
          · rw [if_neg hc30] at hf
            refine E_aload_n (v := 0) dX12_act_116 rfl ?_
            refine E_iload_n (v := p3_21) dX12_act_117 rfl ?_
            obtain ⟨r37, w38, hc36, hf⟩ := bd2_some hf
            try dsimp only at hf
            refine E_callVi (rest := []) (ci := 12) cv_RX12_406 dX12_act_118 (MX12_tellsIt hc36) rfl sM_0 rfl (by decide) rfl rfl (fun _ => Nat.le_of_ble_eq_true rfl) ?_
            refine E_istore (ls' := [some (.ref 0), some (.int p1_21), some (.int p2_21), some (.int p3_21), some (.int q0_21), some (.int r37)]) dX12_act_121 rfl rfl rfl ?_
            refine E_aload_n (v := 0) dX12_act_123 rfl ?_
            refine E_getI fg_RX12_391 dX12_act_124 sM_0 rfl ?_
            refine E_if_eq 135 dX12_act_127 (by decide) (fun hc40 => ?_) (fun hc40 => ?_)
            · rw [if_pos hc40] at hf
              refine E_iload (v := r37) dX12_act_135 rfl ?_
              obtain ⟨rfl, rfl⟩ := ret2 hf
              exact E.done (by rw [eQ]; exact ⟨rfl, Or.inl ⟨_, _, rfl, rfl, dX12_act_137, rfl, rfl⟩⟩)
            · rw [if_neg hc40] at hf
              refine E_bipush (-15) dX12_act_130 bp_m15 ?_
              refine E_goto 137 dX12_act_132 (by decide) ?_
              obtain ⟨rfl, rfl⟩ := ret2 hf
              exact E.done (by rw [eQ]; exact ⟨rfl, Or.inl ⟨_, _, rfl, rfl, dX12_act_137, rfl, rfl⟩⟩)
set_option maxRecDepth 10000 in
set_option maxHeartbeats 2000000 in
theorem MX12_act {a0 : Int32} {a1 : Int32} {a2 : Int32} {w : AW} {rZ : Int32} {wZ : AW} (hf : fX12_act a0 a1 a2 w = some (rZ, wZ)) : CallOK PM yX12_act cX12_act 6 (some .int) 10 [.ref 0, .int a0, .int a1, .int a2] w (some (.int rZ)) wZ := by
  refine CallOK.of (ls := [some (.ref 0), some (.int a0), some (.int a1), some (.int a2), none, none]) (by decide) (by simp) rfl rfl ?_
  obtain ⟨Q, eQ⟩ : ∃ Q, Q = Qret cX12_act (some .int) (some (.int rZ)) wZ := ⟨_, rfl⟩
  rw [← eQ]
  unfold fX12_act at hf
  refine E_aload_n (v := 0) dX12_act_0 rfl ?_
  refine E_iconst 0 dX12_act_1 ic_0 ?_
  obtain ⟨w1, ew1, hf⟩ := lw_some hf
  try dsimp only at hf
  refine E_putI fp_RX12_361 dX12_act_2 sM_0 rfl rfl rfl ?_
  rw [← ew1]
  refine E_iload_n (v := a0) dX12_act_5 rfl ?_
  obtain ⟨r3, hc2, hf⟩ := bd_some hf
  try dsimp only at hf
  refine E_callSi (rest := []) cs_RX12_346 dX12_act_6 (MX12_isShelf hc2) rfl rfl rfl (fun _ => Nat.le_of_ble_eq_true rfl) ?_
  refine E_if_eq 20 dX12_act_9 (by decide) (fun hc4 => ?_) (fun hc4 => ?_)
  · rw [if_pos hc4] at hf
    refine E_iconst (-1) dX12_act_20 ic_m1 ?_
    exact BX12_act_21 a0 a1 a2 (-1) w1  rZ wZ eQ hf
  · rw [if_neg hc4] at hf
    refine E_aload_n (v := 0) dX12_act_12 rfl ?_
    refine E_iload_n (v := a0) dX12_act_13 rfl ?_
    obtain ⟨r42, hc41, hf⟩ := bd_some hf
    try dsimp only at hf
    refine E_callVi (rest := []) (ci := 12) cv_RX12_355 dX12_act_14 (MX12_kindOn hc41) rfl sM_0 rfl (by decide) rfl rfl (fun _ => Nat.le_of_ble_eq_true rfl) ?_
    refine E_goto 21 dX12_act_17 (by decide) ?_
    exact BX12_act_21 a0 a1 a2 r42 w1  rZ wZ eQ hf
set_option maxRecDepth 10000 in
set_option maxHeartbeats 2000000 in
theorem MX12_byteAt {a0 : Int32} {w : AW} {rZ : Int32} (hf : fX12_byteAt a0 w = some rZ) : CallOK PM yX12_byteAt cX12_byteAt 2 (some .int) 1 [.ref 0, .int a0] w (some (.int rZ)) w := by
  refine CallOK.of (ls := [some (.ref 0), some (.int a0)]) (by decide) (by simp) rfl rfl ?_
  obtain ⟨Q, eQ⟩ : ∃ Q, Q = Qret cX12_byteAt (some .int) (some (.int rZ)) w := ⟨_, rfl⟩
  rw [← eQ]
  unfold fX12_byteAt at hf
  refine E_iload_n (v := a0) dX12_byteAt_0 rfl ?_
  refine E_aload_n (v := 0) dX12_byteAt_1 rfl ?_
  refine E_getI fg_RX12_111 dX12_byteAt_2 sM_0 rfl ?_
  refine E_icmp_ge 17 dX12_byteAt_5 (by decide) (fun hc1 => ?_) (fun hc1 => ?_)
  · rw [if_pos hc1] at hf
    refine E_iconst (-1) dX12_byteAt_17 ic_m1 ?_
    obtain rfl := Option.some.inj hf
    exact E.done (by rw [eQ]; exact ⟨rfl, Or.inl ⟨_, _, rfl, rfl, dX12_byteAt_18, rfl, rfl⟩⟩)
  · rw [if_neg hc1] at hf
    refine E_aload_n (v := 0) dX12_byteAt_8 rfl ?_
    refine E_getR fg_RX12_38 dX12_byteAt_9 sM_0 rfl rM_0_15 (Nat.succ_ne_zero _) ?_
    refine E_iload_n (v := a0) dX12_byteAt_12 rfl ?_
    obtain ⟨hi2, hf⟩ := gd_some hf
    refine E_iald (n := 200) dX12_byteAt_13 sM_9 (by decide) (inb_in hi2) ?_
    refine E_goto 18 dX12_byteAt_14 (by decide) ?_
    obtain rfl := Option.some.inj hf
    exact E.done (by rw [eQ]; exact ⟨rfl, Or.inl ⟨_, _, rfl, rfl, dX12_byteAt_18, rfl, rfl⟩⟩)
set_option maxRecDepth 10000 in
set_option maxHeartbeats 2000000 in
theorem MX12_isDigit {a0 : Int32} {w : AW} {rZ : Int32} (hf : fX12_isDigit a0 w = some rZ) : CallOK PM yX12_isDigit cX12_isDigit 1 (some .boolean) 2 [.int a0] w (some (.int rZ)) w := by
  refine CallOK.of (ls := [some (.int a0)]) (by decide) (by simp) rfl rfl ?_
  obtain ⟨Q, eQ⟩ : ∃ Q, Q = Qret cX12_isDigit (some .boolean) (some (.int rZ)) w := ⟨_, rfl⟩
  rw [← eQ]
  unfold fX12_isDigit at hf
  refine E_iload_n (v := a0) dX12_isDigit_0 rfl ?_
  refine E_bipush 48 dX12_isDigit_1 bp_48 ?_
  refine E_bipush 57 dX12_isDigit_3 bp_57 ?_
  obtain ⟨r2, hc1, hf⟩ := bd_some hf
  try dsimp only at hf
  refine E_callSi (rest := []) cs_RX12_99 dX12_isDigit_5 (MX12_in hc1) rfl rfl rfl (fun _ => Nat.le_of_ble_eq_true rfl) ?_
  obtain ⟨hb3, hf⟩ := gd_some hf
  obtain rfl := Option.some.inj hf
  exact E.done (by rw [eQ]; exact ⟨rfl, Or.inl ⟨_, _, rfl, rfl, dX12_isDigit_8, rfl, (isb_n hb3)⟩⟩)
set_option maxRecDepth 10000 in
set_option maxHeartbeats 2000000 in
theorem MX12_isLetter {a0 : Int32} {w : AW} {rZ : Int32} (hf : fX12_isLetter a0 w = some rZ) : CallOK PM yX12_isLetter cX12_isLetter 1 (some .boolean) 2 [.int a0] w (some (.int rZ)) w := by
  refine CallOK.of (ls := [some (.int a0)]) (by decide) (by simp) rfl rfl ?_
  obtain ⟨Q, eQ⟩ : ∃ Q, Q = Qret cX12_isLetter (some .boolean) (some (.int rZ)) w := ⟨_, rfl⟩
  rw [← eQ]
  unfold fX12_isLetter at hf
  refine E_iload_n (v := a0) dX12_isLetter_0 rfl ?_
  refine E_bipush 97 dX12_isLetter_1 bp_97 ?_
  refine E_bipush 122 dX12_isLetter_3 bp_122 ?_
  obtain ⟨r2, hc1, hf⟩ := bd_some hf
  try dsimp only at hf
  refine E_callSi (rest := []) cs_RX12_99 dX12_isLetter_5 (MX12_in hc1) rfl rfl rfl (fun _ => Nat.le_of_ble_eq_true rfl) ?_
  obtain ⟨hb3, hf⟩ := gd_some hf
  obtain rfl := Option.some.inj hf
  exact E.done (by rw [eQ]; exact ⟨rfl, Or.inl ⟨_, _, rfl, rfl, dX12_isLetter_8, rfl, (isb_n hb3)⟩⟩)
set_option maxRecDepth 10000 in
set_option maxHeartbeats 2000000 in
theorem BX12_advance_105 (N : Nat) (q0_105 : Int32) (w : AW) (wZ : AW) {Q : Nat → List (Option Value) → List Value → AW → Prop} (eQ : Q = Qret cX12_advance none none wZ) (hf : bX12_advance_105 N q0_105 w = some wZ) : E PM RX12 cX12_advance 2 3 105 [some (.ref 0), none] [.int q0_105, .ref 0] w Q := by
  unfold bX12_advance_105 at hf
  obtain ⟨w21, ew21, hf⟩ := lw_some hf
  try dsimp only at hf
  refine E_putI fp_RX12_139 dX12_advance_105 sM_0 rfl rfl rfl ?_
  rw [← ew21]
  refine E_aload_n (v := 0) dX12_advance_108 rfl ?_
  refine E_getI fg_RX12_132 dX12_advance_109 sM_0 rfl ?_
  refine E_iconst 3 dX12_advance_112 ic_3 ?_
  refine E_icmp_ne 126 dX12_advance_113 (by decide) (fun hc22 => ?_) (fun hc22 => ?_)
  · rw [if_pos hc22] at hf
    refine E_aload_n (v := 0) dX12_advance_116 rfl ?_
    refine E_dup_r dX12_advance_117 ?_
    refine E_getI fg_RX12_116 dX12_advance_118 sM_0 rfl ?_
    refine E_iconst 1 dX12_advance_121 ic_1 ?_
    refine E_iadd dX12_advance_122 ?_
    obtain ⟨w23, ew23, hf⟩ := lw_some hf
    try dsimp only at hf
    refine E_putI fp_RX12_116 dX12_advance_123 sM_0 rfl rfl rfl ?_
    rw [← ew23]
    obtain ⟨q, hw37, hf⟩ := bd_some hf
    try dsimp only at hf
    show (fun (s : AW) => E PM RX12 cX12_advance 2 3 126 [some (.ref 0), none] [] s Q) w23
    refine wh_E (K := (fun (s : AW) => E PM RX12 cX12_advance 2 3 126 [some (.ref 0), none] [] s Q)) (X := (fun (s : AW) => E PM RX12 cX12_advance 2 3 207 [some (.ref 0), none] [] s Q)) ?_ hw37 ?_
    · intro s9 z9 hf k9
      obtain ⟨w_126_2, hs9⟩ : ∃ a, a = s9 := ⟨_, rfl⟩
      subst hs9
      dsimp only [lbX12_advance_126_2] at hf
      show E PM RX12 cX12_advance 2 3 126 [some (.ref 0), none] [] w_126_2 Q
      refine E_aload_n (v := 0) dX12_advance_126 rfl ?_
      refine E_getI fg_RX12_132 dX12_advance_127 sM_0 rfl ?_
      refine E_iconst 1 dX12_advance_130 ic_1 ?_
      refine E_icmp_ne 207 dX12_advance_131 (by decide) (fun hc24 => ?_) (fun hc24 => ?_)
      · rw [if_pos hc24] at hf
        refine E_aload_n (v := 0) dX12_advance_134 rfl ?_
        refine E_aload_n (v := 0) dX12_advance_135 rfl ?_
        refine E_getI fg_RX12_116 dX12_advance_136 sM_0 rfl ?_
        obtain ⟨r26, hc25, hf⟩ := bd_some hf
        try dsimp only at hf
        refine E_callVi (rest := []) (ci := 12) cv_RX12_122 dX12_advance_139 (MX12_byteAt hc25) rfl sM_0 rfl (by decide) rfl rfl (fun _ => Nat.le_of_ble_eq_true rfl) ?_
        obtain ⟨r28, hc27, hf⟩ := bd_some hf
        try dsimp only at hf
        refine E_callSi (rest := []) cs_RX12_126 dX12_advance_142 (MX12_isLetter hc27) rfl rfl rfl (fun _ => Nat.le_of_ble_eq_true rfl) ?_
        refine E_if_eq 207 dX12_advance_145 (by decide) (fun hc29 => ?_) (fun hc29 => ?_)
        · rw [if_pos hc29] at hf
          obtain rfl := Option.some.inj hf
          exact k9
        · rw [if_neg hc29] at hf
          refine E_aload_n (v := 0) dX12_advance_148 rfl ?_
          refine E_aload_n (v := 0) dX12_advance_149 rfl ?_
          refine E_getI fg_RX12_116 dX12_advance_150 sM_0 rfl ?_
          refine E_aload_n (v := 0) dX12_advance_153 rfl ?_
          refine E_getI fg_RX12_119 dX12_advance_154 sM_0 rfl ?_
          refine E_isub dX12_advance_157 ?_
          refine E_bipush 8 dX12_advance_158 bp_8 ?_
          refine E_icmp_ge 188 dX12_advance_160 (by decide) (fun hc30 => ?_) (fun hc30 => ?_)
          · rw [if_pos hc30] at hf
            refine E_ldc2 (-1) dX12_advance_188 wk_RX12_146 ?_
            obtain ⟨w31, ew31, hf⟩ := lw_some hf
            try dsimp only at hf
            refine E_putL fp_RX12_135 dX12_advance_191 sM_0 rfl ?_
            rw [← ew31]
            refine E_aload_n (v := 0) dX12_advance_194 rfl ?_
            refine E_dup_r dX12_advance_195 ?_
            refine E_getI fg_RX12_116 dX12_advance_196 sM_0 rfl ?_
            refine E_iconst 1 dX12_advance_199 ic_1 ?_
            refine E_iadd dX12_advance_200 ?_
            obtain ⟨w32, ew32, hf⟩ := lw_some hf
            try dsimp only at hf
            refine E_putI fp_RX12_116 dX12_advance_201 sM_0 rfl rfl rfl ?_
            rw [← ew32]
            refine E_goto 126 dX12_advance_204 (by decide) ?_
            obtain rfl := Option.some.inj hf
            exact k9
          · rw [if_neg hc30] at hf
            refine E_ldc2 27 dX12_advance_163 wk_RX12_142 ?_
            refine E_aload_n (v := 0) dX12_advance_166 rfl ?_
            refine E_getL fg_RX12_135 dX12_advance_167 sM_0 rfl ?_
            refine E_lmul dX12_advance_170 ?_
            refine E_aload_n (v := 0) dX12_advance_171 rfl ?_
            refine E_aload_n (v := 0) dX12_advance_172 rfl ?_
            refine E_getI fg_RX12_116 dX12_advance_173 sM_0 rfl ?_
            obtain ⟨r34, hc33, hf⟩ := bd_some hf
            try dsimp only at hf
            refine E_callVi (rest := [.long (27 * (w_126_2.2 0 20)), .ref 0]) (ci := 12) cv_RX12_122 dX12_advance_176 (MX12_byteAt hc33) rfl sM_0 rfl (by decide) rfl rfl (fun _ => Nat.le_of_ble_eq_true rfl) ?_
            refine E_i2l dX12_advance_179 ?_
            refine E_ladd dX12_advance_180 ?_
            refine E_ldc2 96 dX12_advance_181 wk_RX12_144 ?_
            refine E_lsub dX12_advance_184 ?_
            refine E_goto 191 dX12_advance_185 (by decide) ?_
            obtain ⟨w35, ew35, hf⟩ := lw_some hf
            try dsimp only at hf
            refine E_putL fp_RX12_135 dX12_advance_191 sM_0 rfl ?_
            rw [← ew35]
            refine E_aload_n (v := 0) dX12_advance_194 rfl ?_
            refine E_dup_r dX12_advance_195 ?_
            refine E_getI fg_RX12_116 dX12_advance_196 sM_0 rfl ?_
            refine E_iconst 1 dX12_advance_199 ic_1 ?_
            refine E_iadd dX12_advance_200 ?_
            obtain ⟨w36, ew36, hf⟩ := lw_some hf
            try dsimp only at hf
            refine E_putI fp_RX12_116 dX12_advance_201 sM_0 rfl rfl rfl ?_
            rw [← ew36]
            refine E_goto 126 dX12_advance_204 (by decide) ?_
            obtain rfl := Option.some.inj hf
            exact k9
      · rw [if_neg hc24] at hf
        obtain rfl := Option.some.inj hf
        exact k9
    · skip
      obtain ⟨w38, hq9⟩ : ∃ a, a = q := ⟨_, rfl⟩
      subst hq9
      try dsimp only at hf
      show E PM RX12 cX12_advance 2 3 207 [some (.ref 0), none] [] w38 Q
      obtain ⟨q, hw52, hf⟩ := bd_some hf
      try dsimp only at hf
      show (fun (s : AW) => E PM RX12 cX12_advance 2 3 207 [some (.ref 0), none] [] s Q) w38
      refine wh_E (K := (fun (s : AW) => E PM RX12 cX12_advance 2 3 207 [some (.ref 0), none] [] s Q)) (X := (fun (s : AW) => E PM RX12 cX12_advance 2 3 282 [none, none] [] s Q)) ?_ hw52 ?_
      · intro s9 z9 hf k9
        obtain ⟨w_207_3, hs9⟩ : ∃ a, a = s9 := ⟨_, rfl⟩
        subst hs9
        dsimp only [lbX12_advance_207_3] at hf
        show E PM RX12 cX12_advance 2 3 207 [some (.ref 0), none] [] w_207_3 Q
        refine E_aload_n (v := 0) dX12_advance_207 rfl ?_
        refine E_getI fg_RX12_132 dX12_advance_208 sM_0 rfl ?_
        refine E_iconst 2 dX12_advance_211 ic_2 ?_
        refine E_icmp_ne 282 dX12_advance_212 (by decide) (fun hc39 => ?_) (fun hc39 => ?_)
        · rw [if_pos hc39] at hf
          refine E_aload_n (v := 0) dX12_advance_215 rfl ?_
          refine E_aload_n (v := 0) dX12_advance_216 rfl ?_
          refine E_getI fg_RX12_116 dX12_advance_217 sM_0 rfl ?_
          obtain ⟨r41, hc40, hf⟩ := bd_some hf
          try dsimp only at hf
          refine E_callVi (rest := []) (ci := 12) cv_RX12_122 dX12_advance_220 (MX12_byteAt hc40) rfl sM_0 rfl (by decide) rfl rfl (fun _ => Nat.le_of_ble_eq_true rfl) ?_
          obtain ⟨r43, hc42, hf⟩ := bd_some hf
          try dsimp only at hf
          refine E_callSi (rest := []) cs_RX12_129 dX12_advance_223 (MX12_isDigit hc42) rfl rfl rfl (fun _ => Nat.le_of_ble_eq_true rfl) ?_
          refine E_if_eq 282 dX12_advance_226 (by decide) (fun hc44 => ?_) (fun hc44 => ?_)
          · rw [if_pos hc44] at hf
            obtain rfl := Option.some.inj hf
            refine E.fewer (ls' := [none, none]) ⟨Or.inl rfl, ⟨Or.inl rfl, trivial⟩⟩ ?_
            exact k9
          · rw [if_neg hc44] at hf
            refine E_aload_n (v := 0) dX12_advance_229 rfl ?_
            refine E_aload_n (v := 0) dX12_advance_230 rfl ?_
            refine E_getI fg_RX12_116 dX12_advance_231 sM_0 rfl ?_
            refine E_aload_n (v := 0) dX12_advance_234 rfl ?_
            refine E_getI fg_RX12_119 dX12_advance_235 sM_0 rfl ?_
            refine E_isub dX12_advance_238 ?_
            refine E_iconst 2 dX12_advance_239 ic_2 ?_
            refine E_icmp_ge 265 dX12_advance_240 (by decide) (fun hc45 => ?_) (fun hc45 => ?_)
            · rw [if_pos hc45] at hf
              refine E_iconst (-1) dX12_advance_265 ic_m1 ?_
              obtain ⟨w46, ew46, hf⟩ := lw_some hf
              try dsimp only at hf
              refine E_putI fp_RX12_139 dX12_advance_266 sM_0 rfl rfl rfl ?_
              rw [← ew46]
              refine E_aload_n (v := 0) dX12_advance_269 rfl ?_
              refine E_dup_r dX12_advance_270 ?_
              refine E_getI fg_RX12_116 dX12_advance_271 sM_0 rfl ?_
              refine E_iconst 1 dX12_advance_274 ic_1 ?_
              refine E_iadd dX12_advance_275 ?_
              obtain ⟨w47, ew47, hf⟩ := lw_some hf
              try dsimp only at hf
              refine E_putI fp_RX12_116 dX12_advance_276 sM_0 rfl rfl rfl ?_
              rw [← ew47]
              refine E_goto 207 dX12_advance_279 (by decide) ?_
              obtain rfl := Option.some.inj hf
              exact k9
            · rw [if_neg hc45] at hf
              refine E_bipush 10 dX12_advance_243 bp_10 ?_
              refine E_aload_n (v := 0) dX12_advance_245 rfl ?_
              refine E_getI fg_RX12_139 dX12_advance_246 sM_0 rfl ?_
              refine E_imul dX12_advance_249 ?_
              refine E_aload_n (v := 0) dX12_advance_250 rfl ?_
              refine E_aload_n (v := 0) dX12_advance_251 rfl ?_
              refine E_getI fg_RX12_116 dX12_advance_252 sM_0 rfl ?_
              obtain ⟨r49, hc48, hf⟩ := bd_some hf
              try dsimp only at hf
              refine E_callVi (rest := [.int (10 * (w_207_3.1 0 21)), .ref 0]) (ci := 12) cv_RX12_122 dX12_advance_255 (MX12_byteAt hc48) rfl sM_0 rfl (by decide) rfl rfl (fun _ => Nat.le_of_ble_eq_true rfl) ?_
              refine E_iadd dX12_advance_258 ?_
              refine E_bipush 48 dX12_advance_259 bp_48 ?_
              refine E_isub dX12_advance_261 ?_
              refine E_goto 266 dX12_advance_262 (by decide) ?_
              obtain ⟨w50, ew50, hf⟩ := lw_some hf
              try dsimp only at hf
              refine E_putI fp_RX12_139 dX12_advance_266 sM_0 rfl rfl rfl ?_
              rw [← ew50]
              refine E_aload_n (v := 0) dX12_advance_269 rfl ?_
              refine E_dup_r dX12_advance_270 ?_
              refine E_getI fg_RX12_116 dX12_advance_271 sM_0 rfl ?_
              refine E_iconst 1 dX12_advance_274 ic_1 ?_
              refine E_iadd dX12_advance_275 ?_
              obtain ⟨w51, ew51, hf⟩ := lw_some hf
              try dsimp only at hf
              refine E_putI fp_RX12_116 dX12_advance_276 sM_0 rfl rfl rfl ?_
              rw [← ew51]
              refine E_goto 207 dX12_advance_279 (by decide) ?_
              obtain rfl := Option.some.inj hf
              exact k9
        · rw [if_neg hc39] at hf
          obtain rfl := Option.some.inj hf
          refine E.fewer (ls' := [none, none]) ⟨Or.inl rfl, ⟨Or.inl rfl, trivial⟩⟩ ?_
          exact k9
      · skip
        obtain ⟨w53, hq9⟩ : ∃ a, a = q := ⟨_, rfl⟩
        subst hq9
        try dsimp only at hf
        show E PM RX12 cX12_advance 2 3 282 [none, none] [] w53 Q
        obtain rfl := Option.some.inj hf
        exact E.done (by rw [eQ]; exact ⟨rfl, Or.inr ⟨rfl, rfl, dX12_advance_282, rfl⟩⟩)
  · rw [if_neg hc22] at hf
    obtain ⟨q, hw67, hf⟩ := bd_some hf
    try dsimp only at hf
    show (fun (s : AW) => E PM RX12 cX12_advance 2 3 126 [some (.ref 0), none] [] s Q) w21
    refine wh_E (K := (fun (s : AW) => E PM RX12 cX12_advance 2 3 126 [some (.ref 0), none] [] s Q)) (X := (fun (s : AW) => E PM RX12 cX12_advance 2 3 207 [some (.ref 0), none] [] s Q)) ?_ hw67 ?_
    · intro s9 z9 hf k9
      obtain ⟨w_126_4, hs9⟩ : ∃ a, a = s9 := ⟨_, rfl⟩
      subst hs9
      dsimp only [lbX12_advance_126_4] at hf
      show E PM RX12 cX12_advance 2 3 126 [some (.ref 0), none] [] w_126_4 Q
      refine E_aload_n (v := 0) dX12_advance_126 rfl ?_
      refine E_getI fg_RX12_132 dX12_advance_127 sM_0 rfl ?_
      refine E_iconst 1 dX12_advance_130 ic_1 ?_
      refine E_icmp_ne 207 dX12_advance_131 (by decide) (fun hc54 => ?_) (fun hc54 => ?_)
      · rw [if_pos hc54] at hf
        refine E_aload_n (v := 0) dX12_advance_134 rfl ?_
        refine E_aload_n (v := 0) dX12_advance_135 rfl ?_
        refine E_getI fg_RX12_116 dX12_advance_136 sM_0 rfl ?_
        obtain ⟨r56, hc55, hf⟩ := bd_some hf
        try dsimp only at hf
        refine E_callVi (rest := []) (ci := 12) cv_RX12_122 dX12_advance_139 (MX12_byteAt hc55) rfl sM_0 rfl (by decide) rfl rfl (fun _ => Nat.le_of_ble_eq_true rfl) ?_
        obtain ⟨r58, hc57, hf⟩ := bd_some hf
        try dsimp only at hf
        refine E_callSi (rest := []) cs_RX12_126 dX12_advance_142 (MX12_isLetter hc57) rfl rfl rfl (fun _ => Nat.le_of_ble_eq_true rfl) ?_
        refine E_if_eq 207 dX12_advance_145 (by decide) (fun hc59 => ?_) (fun hc59 => ?_)
        · rw [if_pos hc59] at hf
          obtain rfl := Option.some.inj hf
          exact k9
        · rw [if_neg hc59] at hf
          refine E_aload_n (v := 0) dX12_advance_148 rfl ?_
          refine E_aload_n (v := 0) dX12_advance_149 rfl ?_
          refine E_getI fg_RX12_116 dX12_advance_150 sM_0 rfl ?_
          refine E_aload_n (v := 0) dX12_advance_153 rfl ?_
          refine E_getI fg_RX12_119 dX12_advance_154 sM_0 rfl ?_
          refine E_isub dX12_advance_157 ?_
          refine E_bipush 8 dX12_advance_158 bp_8 ?_
          refine E_icmp_ge 188 dX12_advance_160 (by decide) (fun hc60 => ?_) (fun hc60 => ?_)
          · rw [if_pos hc60] at hf
            refine E_ldc2 (-1) dX12_advance_188 wk_RX12_146 ?_
            obtain ⟨w61, ew61, hf⟩ := lw_some hf
            try dsimp only at hf
            refine E_putL fp_RX12_135 dX12_advance_191 sM_0 rfl ?_
            rw [← ew61]
            refine E_aload_n (v := 0) dX12_advance_194 rfl ?_
            refine E_dup_r dX12_advance_195 ?_
            refine E_getI fg_RX12_116 dX12_advance_196 sM_0 rfl ?_
            refine E_iconst 1 dX12_advance_199 ic_1 ?_
            refine E_iadd dX12_advance_200 ?_
            obtain ⟨w62, ew62, hf⟩ := lw_some hf
            try dsimp only at hf
            refine E_putI fp_RX12_116 dX12_advance_201 sM_0 rfl rfl rfl ?_
            rw [← ew62]
            refine E_goto 126 dX12_advance_204 (by decide) ?_
            obtain rfl := Option.some.inj hf
            exact k9
          · rw [if_neg hc60] at hf
            refine E_ldc2 27 dX12_advance_163 wk_RX12_142 ?_
            refine E_aload_n (v := 0) dX12_advance_166 rfl ?_
            refine E_getL fg_RX12_135 dX12_advance_167 sM_0 rfl ?_
            refine E_lmul dX12_advance_170 ?_
            refine E_aload_n (v := 0) dX12_advance_171 rfl ?_
            refine E_aload_n (v := 0) dX12_advance_172 rfl ?_
            refine E_getI fg_RX12_116 dX12_advance_173 sM_0 rfl ?_
            obtain ⟨r64, hc63, hf⟩ := bd_some hf
            try dsimp only at hf
            refine E_callVi (rest := [.long (27 * (w_126_4.2 0 20)), .ref 0]) (ci := 12) cv_RX12_122 dX12_advance_176 (MX12_byteAt hc63) rfl sM_0 rfl (by decide) rfl rfl (fun _ => Nat.le_of_ble_eq_true rfl) ?_
            refine E_i2l dX12_advance_179 ?_
            refine E_ladd dX12_advance_180 ?_
            refine E_ldc2 96 dX12_advance_181 wk_RX12_144 ?_
            refine E_lsub dX12_advance_184 ?_
            refine E_goto 191 dX12_advance_185 (by decide) ?_
            obtain ⟨w65, ew65, hf⟩ := lw_some hf
            try dsimp only at hf
            refine E_putL fp_RX12_135 dX12_advance_191 sM_0 rfl ?_
            rw [← ew65]
            refine E_aload_n (v := 0) dX12_advance_194 rfl ?_
            refine E_dup_r dX12_advance_195 ?_
            refine E_getI fg_RX12_116 dX12_advance_196 sM_0 rfl ?_
            refine E_iconst 1 dX12_advance_199 ic_1 ?_
            refine E_iadd dX12_advance_200 ?_
            obtain ⟨w66, ew66, hf⟩ := lw_some hf
            try dsimp only at hf
            refine E_putI fp_RX12_116 dX12_advance_201 sM_0 rfl rfl rfl ?_
            rw [← ew66]
            refine E_goto 126 dX12_advance_204 (by decide) ?_
            obtain rfl := Option.some.inj hf
            exact k9
      · rw [if_neg hc54] at hf
        obtain rfl := Option.some.inj hf
        exact k9
    · skip
      obtain ⟨w68, hq9⟩ : ∃ a, a = q := ⟨_, rfl⟩
      subst hq9
      try dsimp only at hf
      show E PM RX12 cX12_advance 2 3 207 [some (.ref 0), none] [] w68 Q
      obtain ⟨q, hw82, hf⟩ := bd_some hf
      try dsimp only at hf
      show (fun (s : AW) => E PM RX12 cX12_advance 2 3 207 [some (.ref 0), none] [] s Q) w68
      refine wh_E (K := (fun (s : AW) => E PM RX12 cX12_advance 2 3 207 [some (.ref 0), none] [] s Q)) (X := (fun (s : AW) => E PM RX12 cX12_advance 2 3 282 [none, none] [] s Q)) ?_ hw82 ?_
      · intro s9 z9 hf k9
        obtain ⟨w_207_5, hs9⟩ : ∃ a, a = s9 := ⟨_, rfl⟩
        subst hs9
        dsimp only [lbX12_advance_207_5] at hf
        show E PM RX12 cX12_advance 2 3 207 [some (.ref 0), none] [] w_207_5 Q
        refine E_aload_n (v := 0) dX12_advance_207 rfl ?_
        refine E_getI fg_RX12_132 dX12_advance_208 sM_0 rfl ?_
        refine E_iconst 2 dX12_advance_211 ic_2 ?_
        refine E_icmp_ne 282 dX12_advance_212 (by decide) (fun hc69 => ?_) (fun hc69 => ?_)
        · rw [if_pos hc69] at hf
          refine E_aload_n (v := 0) dX12_advance_215 rfl ?_
          refine E_aload_n (v := 0) dX12_advance_216 rfl ?_
          refine E_getI fg_RX12_116 dX12_advance_217 sM_0 rfl ?_
          obtain ⟨r71, hc70, hf⟩ := bd_some hf
          try dsimp only at hf
          refine E_callVi (rest := []) (ci := 12) cv_RX12_122 dX12_advance_220 (MX12_byteAt hc70) rfl sM_0 rfl (by decide) rfl rfl (fun _ => Nat.le_of_ble_eq_true rfl) ?_
          obtain ⟨r73, hc72, hf⟩ := bd_some hf
          try dsimp only at hf
          refine E_callSi (rest := []) cs_RX12_129 dX12_advance_223 (MX12_isDigit hc72) rfl rfl rfl (fun _ => Nat.le_of_ble_eq_true rfl) ?_
          refine E_if_eq 282 dX12_advance_226 (by decide) (fun hc74 => ?_) (fun hc74 => ?_)
          · rw [if_pos hc74] at hf
            obtain rfl := Option.some.inj hf
            refine E.fewer (ls' := [none, none]) ⟨Or.inl rfl, ⟨Or.inl rfl, trivial⟩⟩ ?_
            exact k9
          · rw [if_neg hc74] at hf
            refine E_aload_n (v := 0) dX12_advance_229 rfl ?_
            refine E_aload_n (v := 0) dX12_advance_230 rfl ?_
            refine E_getI fg_RX12_116 dX12_advance_231 sM_0 rfl ?_
            refine E_aload_n (v := 0) dX12_advance_234 rfl ?_
            refine E_getI fg_RX12_119 dX12_advance_235 sM_0 rfl ?_
            refine E_isub dX12_advance_238 ?_
            refine E_iconst 2 dX12_advance_239 ic_2 ?_
            refine E_icmp_ge 265 dX12_advance_240 (by decide) (fun hc75 => ?_) (fun hc75 => ?_)
            · rw [if_pos hc75] at hf
              refine E_iconst (-1) dX12_advance_265 ic_m1 ?_
              obtain ⟨w76, ew76, hf⟩ := lw_some hf
              try dsimp only at hf
              refine E_putI fp_RX12_139 dX12_advance_266 sM_0 rfl rfl rfl ?_
              rw [← ew76]
              refine E_aload_n (v := 0) dX12_advance_269 rfl ?_
              refine E_dup_r dX12_advance_270 ?_
              refine E_getI fg_RX12_116 dX12_advance_271 sM_0 rfl ?_
              refine E_iconst 1 dX12_advance_274 ic_1 ?_
              refine E_iadd dX12_advance_275 ?_
              obtain ⟨w77, ew77, hf⟩ := lw_some hf
              try dsimp only at hf
              refine E_putI fp_RX12_116 dX12_advance_276 sM_0 rfl rfl rfl ?_
              rw [← ew77]
              refine E_goto 207 dX12_advance_279 (by decide) ?_
              obtain rfl := Option.some.inj hf
              exact k9
            · rw [if_neg hc75] at hf
              refine E_bipush 10 dX12_advance_243 bp_10 ?_
              refine E_aload_n (v := 0) dX12_advance_245 rfl ?_
              refine E_getI fg_RX12_139 dX12_advance_246 sM_0 rfl ?_
              refine E_imul dX12_advance_249 ?_
              refine E_aload_n (v := 0) dX12_advance_250 rfl ?_
              refine E_aload_n (v := 0) dX12_advance_251 rfl ?_
              refine E_getI fg_RX12_116 dX12_advance_252 sM_0 rfl ?_
              obtain ⟨r79, hc78, hf⟩ := bd_some hf
              try dsimp only at hf
              refine E_callVi (rest := [.int (10 * (w_207_5.1 0 21)), .ref 0]) (ci := 12) cv_RX12_122 dX12_advance_255 (MX12_byteAt hc78) rfl sM_0 rfl (by decide) rfl rfl (fun _ => Nat.le_of_ble_eq_true rfl) ?_
              refine E_iadd dX12_advance_258 ?_
              refine E_bipush 48 dX12_advance_259 bp_48 ?_
              refine E_isub dX12_advance_261 ?_
              refine E_goto 266 dX12_advance_262 (by decide) ?_
              obtain ⟨w80, ew80, hf⟩ := lw_some hf
              try dsimp only at hf
              refine E_putI fp_RX12_139 dX12_advance_266 sM_0 rfl rfl rfl ?_
              rw [← ew80]
              refine E_aload_n (v := 0) dX12_advance_269 rfl ?_
              refine E_dup_r dX12_advance_270 ?_
              refine E_getI fg_RX12_116 dX12_advance_271 sM_0 rfl ?_
              refine E_iconst 1 dX12_advance_274 ic_1 ?_
              refine E_iadd dX12_advance_275 ?_
              obtain ⟨w81, ew81, hf⟩ := lw_some hf
              try dsimp only at hf
              refine E_putI fp_RX12_116 dX12_advance_276 sM_0 rfl rfl rfl ?_
              rw [← ew81]
              refine E_goto 207 dX12_advance_279 (by decide) ?_
              obtain rfl := Option.some.inj hf
              exact k9
        · rw [if_neg hc69] at hf
          obtain rfl := Option.some.inj hf
          refine E.fewer (ls' := [none, none]) ⟨Or.inl rfl, ⟨Or.inl rfl, trivial⟩⟩ ?_
          exact k9
      · skip
        obtain ⟨w83, hq9⟩ : ∃ a, a = q := ⟨_, rfl⟩
        subst hq9
        try dsimp only at hf
        show E PM RX12 cX12_advance 2 3 282 [none, none] [] w83 Q
        obtain rfl := Option.some.inj hf
        exact E.done (by rw [eQ]; exact ⟨rfl, Or.inr ⟨rfl, rfl, dX12_advance_282, rfl⟩⟩)
set_option maxRecDepth 10000 in
set_option maxHeartbeats 2000000 in
theorem BX12_advance_83 (N : Nat) (p1_83 : Int32) (q0_83 : Int32) (w : AW) (wZ : AW) {Q : Nat → List (Option Value) → List Value → AW → Prop} (eQ : Q = Qret cX12_advance none none wZ) (hf : bX12_advance_83 N p1_83 q0_83 w = some wZ) : E PM RX12 cX12_advance 2 3 83 [some (.ref 0), some (.int p1_83)] [.int q0_83, .ref 0] w Q := by
  unfold bX12_advance_83 at hf
  obtain ⟨w18, ew18, hf⟩ := lw_some hf
  try dsimp only at hf
  refine E_putI fp_RX12_132 dX12_advance_83 sM_0 rfl rfl rfl ?_
  rw [← ew18]
  refine E_aload_n (v := 0) dX12_advance_86 rfl ?_
  refine E_lconst 0 dX12_advance_87 rfl ?_
  obtain ⟨w19, ew19, hf⟩ := lw_some hf
  try dsimp only at hf
  refine E_putL fp_RX12_135 dX12_advance_88 sM_0 rfl ?_
  rw [← ew19]
  refine E_aload_n (v := 0) dX12_advance_91 rfl ?_
  refine E_aload_n (v := 0) dX12_advance_92 rfl ?_
  refine E_getI fg_RX12_132 dX12_advance_93 sM_0 rfl ?_
  refine E_iconst 2 dX12_advance_96 ic_2 ?_
  refine E_icmp_ne 104 dX12_advance_97 (by decide) (fun hc20 => ?_) (fun hc20 => ?_)
  · rw [if_pos hc20] at hf
    refine E_iconst 0 dX12_advance_100 ic_0 ?_
    refine E_goto 105 dX12_advance_101 (by decide) ?_
    refine E.fewer (ls' := [some (.ref 0), none]) ⟨Or.inr rfl, ⟨Or.inl rfl, trivial⟩⟩ ?_
    exact BX12_advance_105 N 0 w19  wZ eQ hf
  · rw [if_neg hc20] at hf
    refine E_iload_n (v := p1_83) dX12_advance_104 rfl ?_
    refine E.fewer (ls' := [some (.ref 0), none]) ⟨Or.inr rfl, ⟨Or.inl rfl, trivial⟩⟩ ?_
    exact BX12_advance_105 N p1_83 w19  wZ eQ hf
set_option maxRecDepth 10000 in
set_option maxHeartbeats 2000000 in
theorem MX12_advance {N : Nat} {w : AW} {wZ : AW} (hf : fX12_advance N w = some wZ) : CallOK PM yX12_advance cX12_advance 2 none 3 [.ref 0] w none wZ := by
  refine CallOK.of (ls := [some (.ref 0), none]) (by decide) (by simp) rfl rfl ?_
  obtain ⟨Q, eQ⟩ : ∃ Q, Q = Qret cX12_advance none none wZ := ⟨_, rfl⟩
  rw [← eQ]
  unfold fX12_advance at hf
  refine E_aload_n (v := 0) dX12_advance_0 rfl ?_
  refine E_aload_n (v := 0) dX12_advance_1 rfl ?_
  refine E_getI fg_RX12_116 dX12_advance_2 sM_0 rfl ?_
  obtain ⟨w1, ew1, hf⟩ := lw_some hf
  try dsimp only at hf
  refine E_putI fp_RX12_119 dX12_advance_5 sM_0 rfl rfl rfl ?_
  rw [← ew1]
  obtain ⟨q, hw6, hf⟩ := bd_some hf
  try dsimp only at hf
  show (fun (s : AW) => E PM RX12 cX12_advance 2 3 8 [some (.ref 0), none] [] s Q) w1
  refine wh_E (K := (fun (s : AW) => E PM RX12 cX12_advance 2 3 8 [some (.ref 0), none] [] s Q)) (X := (fun (s : AW) => E PM RX12 cX12_advance 2 3 34 [some (.ref 0), none] [] s Q)) ?_ hw6 ?_
  · intro s9 z9 hf k9
    obtain ⟨w_8_1, hs9⟩ : ∃ a, a = s9 := ⟨_, rfl⟩
    subst hs9
    dsimp only [lbX12_advance_8_1] at hf
    show E PM RX12 cX12_advance 2 3 8 [some (.ref 0), none] [] w_8_1 Q
    refine E_aload_n (v := 0) dX12_advance_8 rfl ?_
    refine E_aload_n (v := 0) dX12_advance_9 rfl ?_
    refine E_getI fg_RX12_119 dX12_advance_10 sM_0 rfl ?_
    obtain ⟨r3, hc2, hf⟩ := bd_some hf
    try dsimp only at hf
    refine E_callVi (rest := []) (ci := 12) cv_RX12_122 dX12_advance_13 (MX12_byteAt hc2) rfl sM_0 rfl (by decide) rfl rfl (fun _ => Nat.le_of_ble_eq_true rfl) ?_
    refine E_bipush 32 dX12_advance_16 bp_32 ?_
    refine E_icmp_ne 34 dX12_advance_18 (by decide) (fun hc4 => ?_) (fun hc4 => ?_)
    · rw [if_pos hc4] at hf
      refine E_aload_n (v := 0) dX12_advance_21 rfl ?_
      refine E_dup_r dX12_advance_22 ?_
      refine E_getI fg_RX12_119 dX12_advance_23 sM_0 rfl ?_
      refine E_iconst 1 dX12_advance_26 ic_1 ?_
      refine E_iadd dX12_advance_27 ?_
      obtain ⟨w5, ew5, hf⟩ := lw_some hf
      try dsimp only at hf
      refine E_putI fp_RX12_119 dX12_advance_28 sM_0 rfl rfl rfl ?_
      rw [← ew5]
      refine E_goto 8 dX12_advance_31 (by decide) ?_
      obtain rfl := Option.some.inj hf
      exact k9
    · rw [if_neg hc4] at hf
      obtain rfl := Option.some.inj hf
      exact k9
  · skip
    obtain ⟨w7, hq9⟩ : ∃ a, a = q := ⟨_, rfl⟩
    subst hq9
    try dsimp only at hf
    show E PM RX12 cX12_advance 2 3 34 [some (.ref 0), none] [] w7 Q
    refine E_aload_n (v := 0) dX12_advance_34 rfl ?_
    refine E_aload_n (v := 0) dX12_advance_35 rfl ?_
    refine E_getI fg_RX12_119 dX12_advance_36 sM_0 rfl ?_
    obtain ⟨w8, ew8, hf⟩ := lw_some hf
    try dsimp only at hf
    refine E_putI fp_RX12_116 dX12_advance_39 sM_0 rfl rfl rfl ?_
    rw [← ew8]
    refine E_aload_n (v := 0) dX12_advance_42 rfl ?_
    refine E_aload_n (v := 0) dX12_advance_43 rfl ?_
    refine E_getI fg_RX12_119 dX12_advance_44 sM_0 rfl ?_
    obtain ⟨r10, hc9, hf⟩ := bd_some hf
    try dsimp only at hf
    refine E_callVi (rest := []) (ci := 12) cv_RX12_122 dX12_advance_47 (MX12_byteAt hc9) rfl sM_0 rfl (by decide) rfl rfl (fun _ => Nat.le_of_ble_eq_true rfl) ?_
    refine E_istore_n (ls' := [some (.ref 0), some (.int r10)]) dX12_advance_50 rfl rfl rfl ?_
    refine E_aload_n (v := 0) dX12_advance_51 rfl ?_
    refine E_iload_n (v := r10) dX12_advance_52 rfl ?_
    refine E_if_ge 60 dX12_advance_53 (by decide) (fun hc11 => ?_) (fun hc11 => ?_)
    · rw [if_pos hc11] at hf
      refine E_iload_n (v := r10) dX12_advance_60 rfl ?_
      obtain ⟨r13, hc12, hf⟩ := bd_some hf
      try dsimp only at hf
      refine E_callSi (rest := [.ref 0]) cs_RX12_126 dX12_advance_61 (MX12_isLetter hc12) rfl rfl rfl (fun _ => Nat.le_of_ble_eq_true rfl) ?_
      refine E_if_eq 71 dX12_advance_64 (by decide) (fun hc14 => ?_) (fun hc14 => ?_)
      · rw [if_pos hc14] at hf
        refine E_iload_n (v := r10) dX12_advance_71 rfl ?_
        obtain ⟨r16, hc15, hf⟩ := bd_some hf
        try dsimp only at hf
        refine E_callSi (rest := [.ref 0]) cs_RX12_129 dX12_advance_72 (MX12_isDigit hc15) rfl rfl rfl (fun _ => Nat.le_of_ble_eq_true rfl) ?_
        refine E_if_eq 82 dX12_advance_75 (by decide) (fun hc17 => ?_) (fun hc17 => ?_)
        · rw [if_pos hc17] at hf
          refine E_iconst 3 dX12_advance_82 ic_3 ?_
          exact BX12_advance_83 N r10 3 w8  wZ eQ hf
        · rw [if_neg hc17] at hf
          refine E_iconst 2 dX12_advance_78 ic_2 ?_
          refine E_goto 83 dX12_advance_79 (by decide) ?_
          exact BX12_advance_83 N r10 2 w8  wZ eQ hf
      · rw [if_neg hc14] at hf
        refine E_iconst 1 dX12_advance_67 ic_1 ?_
        refine E_goto 83 dX12_advance_68 (by decide) ?_
        exact BX12_advance_83 N r10 1 w8  wZ eQ hf
    · rw [if_neg hc11] at hf
      refine E_iconst 0 dX12_advance_56 ic_0 ?_
      refine E_goto 83 dX12_advance_57 (by decide) ?_
      exact BX12_advance_83 N r10 0 w8  wZ eQ hf
set_option maxRecDepth 10000 in
set_option maxHeartbeats 2000000 in
theorem MX12_move {N : Nat} {r0 : Nat} {l0 : Nat} {a1 : Int32} {a2 : Int32} {w : AW} {wZ : AW} (hr0 : PM.1[r0]? = some (100 + l0)) (hl0 : l0 < 900) (hf : fX12_move N r0 l0 a1 a2 w = some wZ) : CallOK PM yX12_move cX12_move 5 none 1 [.ref 0, .ref r0, .int a1, .int a2] w none wZ := by
  refine CallOK.of (ls := [some (.ref 0), some (.ref r0), some (.int a1), some (.int a2), none]) (by decide) (by simp) rfl rfl ?_
  obtain ⟨Q, eQ⟩ : ∃ Q, Q = Qret cX12_move none none wZ := ⟨_, rfl⟩
  rw [← eQ]
  unfold fX12_move at hf
  refine E_iconst 0 dX12_move_0 ic_0 ?_
  refine E_istore (ls' := [some (.ref 0), some (.ref r0), some (.int a1), some (.int a2), some (.int 0)]) dX12_move_1 rfl rfl rfl ?_
  obtain ⟨q, hw11, hf⟩ := bd_some hf
  try dsimp only at hf
  show (fun (s : Int32 × AW) => E PM RX12 cX12_move 5 1 3 [some (.ref 0), some (.ref r0), some (.int a1), some (.int a2), some (.int s.1)] [] s.2 Q) (0, w)
  refine wh_E (K := (fun (s : Int32 × AW) => E PM RX12 cX12_move 5 1 3 [some (.ref 0), some (.ref r0), some (.int a1), some (.int a2), some (.int s.1)] [] s.2 Q)) (X := (fun (s : AW) => E PM RX12 cX12_move 5 1 58 [none, none, none, none, none] [] s Q)) ?_ hw11 ?_
  · intro s9 z9 hf k9
    obtain ⟨x4_3_1, w_3_1⟩ := s9
    dsimp only [lbX12_move_3_1] at hf
    show E PM RX12 cX12_move 5 1 3 [some (.ref 0), some (.ref r0), some (.int a1), some (.int a2), some (.int x4_3_1)] [] w_3_1 Q
    refine E_iload (v := x4_3_1) dX12_move_3 rfl ?_
    refine E_iload_n (v := a1) dX12_move_5 rfl ?_
    refine E_icmp_ge 58 dX12_move_6 (by decide) (fun hc1 => ?_) (fun hc1 => ?_)
    · rw [if_pos hc1] at hf
      obtain rfl := Option.some.inj hf
      refine E.fewer (ls' := [none, none, none, none, none]) ⟨Or.inl rfl, ⟨Or.inl rfl, ⟨Or.inl rfl, ⟨Or.inl rfl, ⟨Or.inl rfl, trivial⟩⟩⟩⟩⟩ ?_
      exact k9
    · rw [if_neg hc1] at hf
      refine E_iload_n (v := a2) dX12_move_9 rfl ?_
      refine E_if_eq 29 dX12_move_10 (by decide) (fun hc2 => ?_) (fun hc2 => ?_)
      · rw [if_pos hc2] at hf
        refine E_aload_n (v := r0) dX12_move_29 rfl ?_
        refine E_iload (v := x4_3_1) dX12_move_30 rfl ?_
        refine E_aload_n (v := 0) dX12_move_32 rfl ?_
        refine E_getR fg_RX12_90 dX12_move_33 sM_0 rfl rM_0_51 (Nat.succ_ne_zero _) ?_
        refine E_aload_n (v := 0) dX12_move_36 rfl ?_
        refine E_getI fg_RX12_409 dX12_move_37 sM_0 rfl ?_
        obtain ⟨hi3, hf⟩ := gd_some hf
        refine E_iald (n := 260) dX12_move_40 sM_26 (by decide) (inb_in hi3) ?_
        obtain ⟨hi4, hf⟩ := gd_some hf
        obtain ⟨w5, ew5, hf⟩ := lw_some hf
        try dsimp only at hf
        refine E_iast (n := l0) dX12_move_41 hr0 hl0 (inb_in hi4) ?_
        rw [← ew5]
        refine E_aload_n (v := 0) dX12_move_42 rfl ?_
        refine E_dup_r dX12_move_43 ?_
        refine E_getI fg_RX12_409 dX12_move_44 sM_0 rfl ?_
        refine E_iconst 1 dX12_move_47 ic_1 ?_
        refine E_iadd dX12_move_48 ?_
        obtain ⟨w6, ew6, hf⟩ := lw_some hf
        try dsimp only at hf
        refine E_putI fp_RX12_409 dX12_move_49 sM_0 rfl rfl rfl ?_
        rw [← ew6]
        refine E_iinc (ls' := [some (.ref 0), some (.ref r0), some (.int a1), some (.int a2), some (.int (x4_3_1 + 1))]) 1 dX12_move_52 rfl ic_1 rfl rfl rfl ?_
        refine E_goto 3 dX12_move_55 (by decide) ?_
        obtain rfl := Option.some.inj hf
        exact k9
      · rw [if_neg hc2] at hf
        refine E_aload_n (v := 0) dX12_move_13 rfl ?_
        refine E_getR fg_RX12_90 dX12_move_14 sM_0 rfl rM_0_51 (Nat.succ_ne_zero _) ?_
        refine E_aload_n (v := 0) dX12_move_17 rfl ?_
        refine E_getI fg_RX12_409 dX12_move_18 sM_0 rfl ?_
        refine E_aload_n (v := r0) dX12_move_21 rfl ?_
        refine E_iload (v := x4_3_1) dX12_move_22 rfl ?_
        obtain ⟨hi7, hf⟩ := gd_some hf
        refine E_iald (n := l0) dX12_move_24 hr0 hl0 (inb_in hi7) ?_
        obtain ⟨hi8, hf⟩ := gd_some hf
        obtain ⟨w9, ew9, hf⟩ := lw_some hf
        try dsimp only at hf
        refine E_iast (n := 260) dX12_move_25 sM_26 (by decide) (inb_in hi8) ?_
        rw [← ew9]
        refine E_goto 42 dX12_move_26 (by decide) ?_
        refine E_aload_n (v := 0) dX12_move_42 rfl ?_
        refine E_dup_r dX12_move_43 ?_
        refine E_getI fg_RX12_409 dX12_move_44 sM_0 rfl ?_
        refine E_iconst 1 dX12_move_47 ic_1 ?_
        refine E_iadd dX12_move_48 ?_
        obtain ⟨w10, ew10, hf⟩ := lw_some hf
        try dsimp only at hf
        refine E_putI fp_RX12_409 dX12_move_49 sM_0 rfl rfl rfl ?_
        rw [← ew10]
        refine E_iinc (ls' := [some (.ref 0), some (.ref r0), some (.int a1), some (.int a2), some (.int (x4_3_1 + 1))]) 1 dX12_move_52 rfl ic_1 rfl rfl rfl ?_
        refine E_goto 3 dX12_move_55 (by decide) ?_
        obtain rfl := Option.some.inj hf
        exact k9
  · skip
    obtain ⟨w12, hq9⟩ : ∃ a, a = q := ⟨_, rfl⟩
    subst hq9
    try dsimp only at hf
    show E PM RX12 cX12_move 5 1 58 [none, none, none, none, none] [] w12 Q
    obtain rfl := Option.some.inj hf
    exact E.done (by rw [eQ]; exact ⟨rfl, Or.inr ⟨rfl, rfl, dX12_move_58, rfl⟩⟩)
set_option maxRecDepth 10000 in
set_option maxHeartbeats 2000000 in
theorem MX12_moveAll {N : Nat} {a0 : Int32} {w : AW} {wZ : AW} (hf : fX12_moveAll N a0 w = some wZ) : CallOK PM yX12_moveAll cX12_moveAll 2 none 2 [.ref 0, .int a0] w none wZ := by
  refine CallOK.of (ls := [some (.ref 0), some (.int a0)]) (by decide) (by simp) rfl rfl ?_
  obtain ⟨Q, eQ⟩ : ∃ Q, Q = Qret cX12_moveAll none none wZ := ⟨_, rfl⟩
  rw [← eQ]
  unfold fX12_moveAll at hf
  refine E_aload_n (v := 0) dX12_moveAll_0 rfl ?_
  refine E_iconst 0 dX12_moveAll_1 ic_0 ?_
  obtain ⟨w1, ew1, hf⟩ := lw_some hf
  try dsimp only at hf
  refine E_putI fp_RX12_409 dX12_moveAll_2 sM_0 rfl rfl rfl ?_
  rw [← ew1]
  refine E_aload_n (v := 0) dX12_moveAll_5 rfl ?_
  refine E_getR fg_RX12_93 dX12_moveAll_6 sM_0 rfl rM_0_53 (Nat.succ_ne_zero _) ?_
  refine E_iconst 0 dX12_moveAll_9 ic_0 ?_
  refine E_aload_n (v := 0) dX12_moveAll_10 rfl ?_
  refine E_getI fg_RX12_96 dX12_moveAll_11 sM_0 rfl ?_
  obtain ⟨w2, ew2, hf⟩ := lw_some hf
  try dsimp only at hf
  refine E_iast (n := 7) dX12_moveAll_14 sM_27 (by decide) (inb_in (by decide)) ?_
  rw [← ew2]
  refine E_aload_n (v := 0) dX12_moveAll_15 rfl ?_
  refine E_getR fg_RX12_93 dX12_moveAll_16 sM_0 rfl rM_0_53 (Nat.succ_ne_zero _) ?_
  refine E_iconst 1 dX12_moveAll_19 ic_1 ?_
  refine E_aload_n (v := 0) dX12_moveAll_20 rfl ?_
  refine E_getI fg_RX12_217 dX12_moveAll_21 sM_0 rfl ?_
  obtain ⟨w3, ew3, hf⟩ := lw_some hf
  try dsimp only at hf
  refine E_iast (n := 7) dX12_moveAll_24 sM_27 (by decide) (inb_in (by decide)) ?_
  rw [← ew3]
  refine E_aload_n (v := 0) dX12_moveAll_25 rfl ?_
  refine E_getR fg_RX12_93 dX12_moveAll_26 sM_0 rfl rM_0_53 (Nat.succ_ne_zero _) ?_
  refine E_iconst 2 dX12_moveAll_29 ic_2 ?_
  refine E_aload_n (v := 0) dX12_moveAll_30 rfl ?_
  refine E_getI fg_RX12_220 dX12_moveAll_31 sM_0 rfl ?_
  obtain ⟨w4, ew4, hf⟩ := lw_some hf
  try dsimp only at hf
  refine E_iast (n := 7) dX12_moveAll_34 sM_27 (by decide) (inb_in (by decide)) ?_
  rw [← ew4]
  refine E_aload_n (v := 0) dX12_moveAll_35 rfl ?_
  refine E_getR fg_RX12_93 dX12_moveAll_36 sM_0 rfl rM_0_53 (Nat.succ_ne_zero _) ?_
  refine E_iconst 3 dX12_moveAll_39 ic_3 ?_
  refine E_aload_n (v := 0) dX12_moveAll_40 rfl ?_
  refine E_getI fg_RX12_223 dX12_moveAll_41 sM_0 rfl ?_
  obtain ⟨w5, ew5, hf⟩ := lw_some hf
  try dsimp only at hf
  refine E_iast (n := 7) dX12_moveAll_44 sM_27 (by decide) (inb_in (by decide)) ?_
  rw [← ew5]
  refine E_aload_n (v := 0) dX12_moveAll_45 rfl ?_
  refine E_getR fg_RX12_93 dX12_moveAll_46 sM_0 rfl rM_0_53 (Nat.succ_ne_zero _) ?_
  refine E_iconst 4 dX12_moveAll_49 ic_4 ?_
  refine E_aload_n (v := 0) dX12_moveAll_50 rfl ?_
  refine E_getI fg_RX12_226 dX12_moveAll_51 sM_0 rfl ?_
  obtain ⟨w6, ew6, hf⟩ := lw_some hf
  try dsimp only at hf
  refine E_iast (n := 7) dX12_moveAll_54 sM_27 (by decide) (inb_in (by decide)) ?_
  rw [← ew6]
  refine E_aload_n (v := 0) dX12_moveAll_55 rfl ?_
  refine E_getR fg_RX12_93 dX12_moveAll_56 sM_0 rfl rM_0_53 (Nat.succ_ne_zero _) ?_
  refine E_iconst 5 dX12_moveAll_59 ic_5 ?_
  refine E_aload_n (v := 0) dX12_moveAll_60 rfl ?_
  refine E_getI fg_RX12_324 dX12_moveAll_61 sM_0 rfl ?_
  obtain ⟨w7, ew7, hf⟩ := lw_some hf
  try dsimp only at hf
  refine E_iast (n := 7) dX12_moveAll_64 sM_27 (by decide) (inb_in (by decide)) ?_
  rw [← ew7]
  refine E_aload_n (v := 0) dX12_moveAll_65 rfl ?_
  refine E_getR fg_RX12_93 dX12_moveAll_66 sM_0 rfl rM_0_53 (Nat.succ_ne_zero _) ?_
  refine E_bipush 6 dX12_moveAll_69 bp_6 ?_
  refine E_aload_n (v := 0) dX12_moveAll_71 rfl ?_
  refine E_getI fg_RX12_34 dX12_moveAll_72 sM_0 rfl ?_
  obtain ⟨w8, ew8, hf⟩ := lw_some hf
  try dsimp only at hf
  refine E_iast (n := 7) dX12_moveAll_75 sM_27 (by decide) (inb_in (by decide)) ?_
  rw [← ew8]
  refine E_aload_n (v := 0) dX12_moveAll_76 rfl ?_
  refine E_aload_n (v := 0) dX12_moveAll_77 rfl ?_
  refine E_getR fg_RX12_93 dX12_moveAll_78 sM_0 rfl rM_0_53 (Nat.succ_ne_zero _) ?_
  refine E_bipush 7 dX12_moveAll_81 bp_7 ?_
  refine E_iload_n (v := a0) dX12_moveAll_83 rfl ?_
  obtain ⟨w10, hc9, hf⟩ := bd_some hf
  try dsimp only at hf
  refine E_callVv (rest := []) (ci := 12) cv_RX12_412 dX12_moveAll_84 (MX12_move sM_27 (by decide) hc9) rfl sM_0 rfl (by decide) rfl rfl (fun _ => Nat.le_of_ble_eq_true rfl) ?_
  refine E_aload_n (v := 0) dX12_moveAll_87 rfl ?_
  refine E_aload_n (v := 0) dX12_moveAll_88 rfl ?_
  refine E_getR fg_RX12_7 dX12_moveAll_89 sM_0 rfl rM_0_1 (Nat.succ_ne_zero _) ?_
  refine E_bipush 50 dX12_moveAll_92 bp_50 ?_
  refine E_iload_n (v := a0) dX12_moveAll_94 rfl ?_
  obtain ⟨w12, hc11, hf⟩ := bd_some hf
  try dsimp only at hf
  refine E_callVv (rest := []) (ci := 12) cv_RX12_412 dX12_moveAll_95 (MX12_move sM_1 (by decide) hc11) rfl sM_0 rfl (by decide) rfl rfl (fun _ => Nat.le_of_ble_eq_true rfl) ?_
  refine E_aload_n (v := 0) dX12_moveAll_98 rfl ?_
  refine E_aload_n (v := 0) dX12_moveAll_99 rfl ?_
  refine E_getR fg_RX12_13 dX12_moveAll_100 sM_0 rfl rM_0_2 (Nat.succ_ne_zero _) ?_
  refine E_iconst 4 dX12_moveAll_103 ic_4 ?_
  refine E_iload_n (v := a0) dX12_moveAll_104 rfl ?_
  obtain ⟨w14, hc13, hf⟩ := bd_some hf
  try dsimp only at hf
  refine E_callVv (rest := []) (ci := 12) cv_RX12_412 dX12_moveAll_105 (MX12_move sM_2 (by decide) hc13) rfl sM_0 rfl (by decide) rfl rfl (fun _ => Nat.le_of_ble_eq_true rfl) ?_
  refine E_aload_n (v := 0) dX12_moveAll_108 rfl ?_
  refine E_aload_n (v := 0) dX12_moveAll_109 rfl ?_
  refine E_getR fg_RX12_22 dX12_moveAll_110 sM_0 rfl rM_0_9 (Nat.succ_ne_zero _) ?_
  refine E_bipush 61 dX12_moveAll_113 bp_61 ?_
  refine E_iload_n (v := a0) dX12_moveAll_115 rfl ?_
  obtain ⟨w16, hc15, hf⟩ := bd_some hf
  try dsimp only at hf
  refine E_callVv (rest := []) (ci := 12) cv_RX12_412 dX12_moveAll_116 (MX12_move sM_5 (by decide) hc15) rfl sM_0 rfl (by decide) rfl rfl (fun _ => Nat.le_of_ble_eq_true rfl) ?_
  refine E_aload_n (v := 0) dX12_moveAll_119 rfl ?_
  refine E_aload_n (v := 0) dX12_moveAll_120 rfl ?_
  refine E_getR fg_RX12_25 dX12_moveAll_121 sM_0 rfl rM_0_10 (Nat.succ_ne_zero _) ?_
  refine E_bipush 61 dX12_moveAll_124 bp_61 ?_
  refine E_iload_n (v := a0) dX12_moveAll_126 rfl ?_
  obtain ⟨w18, hc17, hf⟩ := bd_some hf
  try dsimp only at hf
  refine E_callVv (rest := []) (ci := 12) cv_RX12_412 dX12_moveAll_127 (MX12_move sM_6 (by decide) hc17) rfl sM_0 rfl (by decide) rfl rfl (fun _ => Nat.le_of_ble_eq_true rfl) ?_
  refine E_aload_n (v := 0) dX12_moveAll_130 rfl ?_
  refine E_aload_n (v := 0) dX12_moveAll_131 rfl ?_
  refine E_getR fg_RX12_28 dX12_moveAll_132 sM_0 rfl rM_0_11 (Nat.succ_ne_zero _) ?_
  refine E_bipush 8 dX12_moveAll_135 bp_8 ?_
  refine E_iload_n (v := a0) dX12_moveAll_137 rfl ?_
  obtain ⟨w20, hc19, hf⟩ := bd_some hf
  try dsimp only at hf
  refine E_callVv (rest := []) (ci := 12) cv_RX12_412 dX12_moveAll_138 (MX12_move sM_7 (by decide) hc19) rfl sM_0 rfl (by decide) rfl rfl (fun _ => Nat.le_of_ble_eq_true rfl) ?_
  refine E_aload_n (v := 0) dX12_moveAll_141 rfl ?_
  refine E_aload_n (v := 0) dX12_moveAll_142 rfl ?_
  refine E_getR fg_RX12_31 dX12_moveAll_143 sM_0 rfl rM_0_13 (Nat.succ_ne_zero _) ?_
  refine E_bipush 18 dX12_moveAll_146 bp_18 ?_
  refine E_iload_n (v := a0) dX12_moveAll_148 rfl ?_
  obtain ⟨w22, hc21, hf⟩ := bd_some hf
  try dsimp only at hf
  refine E_callVv (rest := []) (ci := 12) cv_RX12_412 dX12_moveAll_149 (MX12_move sM_8 (by decide) hc21) rfl sM_0 rfl (by decide) rfl rfl (fun _ => Nat.le_of_ble_eq_true rfl) ?_
  obtain rfl := Option.some.inj hf
  exact E.done (by rw [eQ]; exact ⟨rfl, Or.inr ⟨rfl, rfl, dX12_moveAll_152, rfl⟩⟩)
set_option maxRecDepth 10000 in
set_option maxHeartbeats 2000000 in
theorem MX12_again {N : Nat} {w : AW} {rZ : Int32} {wZ : AW} (hf : fX12_again N w = some (rZ, wZ)) : CallOK PM yX12_again cX12_again 1 (some .int) 3 [.ref 0] w (some (.int rZ)) wZ := by
  refine CallOK.of (ls := [some (.ref 0)]) (by decide) (by simp) rfl rfl ?_
  obtain ⟨Q, eQ⟩ : ∃ Q, Q = Qret cX12_again (some .int) (some (.int rZ)) wZ := ⟨_, rfl⟩
  rw [← eQ]
  unfold fX12_again at hf
  refine E_aload_n (v := 0) dX12_again_0 rfl ?_
  refine E_getI fg_RX12_420 dX12_again_1 sM_0 rfl ?_
  refine E_if_ne 10 dX12_again_4 (by decide) (fun hc1 => ?_) (fun hc1 => ?_)
  · rw [if_pos hc1] at hf
    refine E_bipush (-3) dX12_again_7 bp_m3 ?_
    obtain ⟨rfl, rfl⟩ := ret2 hf
    exact E.done (by rw [eQ]; exact ⟨rfl, Or.inl ⟨_, _, rfl, rfl, dX12_again_9, rfl, rfl⟩⟩)
  · rw [if_neg hc1] at hf
    refine E_aload_n (v := 0) dX12_again_10 rfl ?_
    refine E_iconst 0 dX12_again_11 ic_0 ?_
    obtain ⟨w3, hc2, hf⟩ := bd_some hf
    try dsimp only at hf
    refine E_callVv (rest := []) (ci := 12) cv_RX12_416 dX12_again_12 (MX12_moveAll hc2) rfl sM_0 rfl (by decide) rfl rfl (fun _ => Nat.le_of_ble_eq_true rfl) ?_
    refine E_aload_n (v := 0) dX12_again_15 rfl ?_
    refine E_aload_n (v := 0) dX12_again_16 rfl ?_
    refine E_getR fg_RX12_93 dX12_again_17 sM_0 rfl rM_0_53 (Nat.succ_ne_zero _) ?_
    refine E_iconst 0 dX12_again_20 ic_0 ?_
    refine E_iald (n := 7) dX12_again_21 sM_27 (by decide) (inb_in (by decide)) ?_
    obtain ⟨w4, ew4, hf⟩ := lw_some hf
    try dsimp only at hf
    refine E_putI fp_RX12_96 dX12_again_22 sM_0 rfl rfl rfl ?_
    rw [← ew4]
    refine E_aload_n (v := 0) dX12_again_25 rfl ?_
    refine E_aload_n (v := 0) dX12_again_26 rfl ?_
    refine E_getR fg_RX12_93 dX12_again_27 sM_0 rfl rM_0_53 (Nat.succ_ne_zero _) ?_
    refine E_iconst 1 dX12_again_30 ic_1 ?_
    refine E_iald (n := 7) dX12_again_31 sM_27 (by decide) (inb_in (by decide)) ?_
    obtain ⟨w5, ew5, hf⟩ := lw_some hf
    try dsimp only at hf
    refine E_putI fp_RX12_217 dX12_again_32 sM_0 rfl rfl rfl ?_
    rw [← ew5]
    refine E_aload_n (v := 0) dX12_again_35 rfl ?_
    refine E_aload_n (v := 0) dX12_again_36 rfl ?_
    refine E_getR fg_RX12_93 dX12_again_37 sM_0 rfl rM_0_53 (Nat.succ_ne_zero _) ?_
    refine E_iconst 2 dX12_again_40 ic_2 ?_
    refine E_iald (n := 7) dX12_again_41 sM_27 (by decide) (inb_in (by decide)) ?_
    obtain ⟨w6, ew6, hf⟩ := lw_some hf
    try dsimp only at hf
    refine E_putI fp_RX12_220 dX12_again_42 sM_0 rfl rfl rfl ?_
    rw [← ew6]
    refine E_aload_n (v := 0) dX12_again_45 rfl ?_
    refine E_aload_n (v := 0) dX12_again_46 rfl ?_
    refine E_getR fg_RX12_93 dX12_again_47 sM_0 rfl rM_0_53 (Nat.succ_ne_zero _) ?_
    refine E_iconst 3 dX12_again_50 ic_3 ?_
    refine E_iald (n := 7) dX12_again_51 sM_27 (by decide) (inb_in (by decide)) ?_
    obtain ⟨w7, ew7, hf⟩ := lw_some hf
    try dsimp only at hf
    refine E_putI fp_RX12_223 dX12_again_52 sM_0 rfl rfl rfl ?_
    rw [← ew7]
    refine E_aload_n (v := 0) dX12_again_55 rfl ?_
    refine E_aload_n (v := 0) dX12_again_56 rfl ?_
    refine E_getR fg_RX12_93 dX12_again_57 sM_0 rfl rM_0_53 (Nat.succ_ne_zero _) ?_
    refine E_iconst 4 dX12_again_60 ic_4 ?_
    refine E_iald (n := 7) dX12_again_61 sM_27 (by decide) (inb_in (by decide)) ?_
    obtain ⟨w8, ew8, hf⟩ := lw_some hf
    try dsimp only at hf
    refine E_putI fp_RX12_226 dX12_again_62 sM_0 rfl rfl rfl ?_
    rw [← ew8]
    refine E_aload_n (v := 0) dX12_again_65 rfl ?_
    refine E_aload_n (v := 0) dX12_again_66 rfl ?_
    refine E_getR fg_RX12_93 dX12_again_67 sM_0 rfl rM_0_53 (Nat.succ_ne_zero _) ?_
    refine E_iconst 5 dX12_again_70 ic_5 ?_
    refine E_iald (n := 7) dX12_again_71 sM_27 (by decide) (inb_in (by decide)) ?_
    obtain ⟨w9, ew9, hf⟩ := lw_some hf
    try dsimp only at hf
    refine E_putI fp_RX12_324 dX12_again_72 sM_0 rfl rfl rfl ?_
    rw [← ew9]
    refine E_aload_n (v := 0) dX12_again_75 rfl ?_
    refine E_aload_n (v := 0) dX12_again_76 rfl ?_
    refine E_getR fg_RX12_93 dX12_again_77 sM_0 rfl rM_0_53 (Nat.succ_ne_zero _) ?_
    refine E_bipush 6 dX12_again_80 bp_6 ?_
    refine E_iald (n := 7) dX12_again_82 sM_27 (by decide) (inb_in (by decide)) ?_
    obtain ⟨w10, ew10, hf⟩ := lw_some hf
    try dsimp only at hf
    refine E_putI fp_RX12_34 dX12_again_83 sM_0 rfl rfl rfl ?_
    rw [← ew10]
    refine E_aload_n (v := 0) dX12_again_86 rfl ?_
    refine E_getI fg_RX12_96 dX12_again_87 sM_0 rfl ?_
    obtain ⟨rfl, rfl⟩ := ret2 hf
    exact E.done (by rw [eQ]; exact ⟨rfl, Or.inl ⟨_, _, rfl, rfl, dX12_again_90, rfl, rfl⟩⟩)
set_option maxRecDepth 10000 in
set_option maxHeartbeats 2000000 in
theorem MX12_isTaken {N : Nat} {a0 : Int32} {w : AW} {rZ : Int32} (hf : fX12_isTaken N a0 w = some rZ) : CallOK PM yX12_isTaken cX12_isTaken 3 (some .boolean) 1 [.ref 0, .int a0] w (some (.int rZ)) w := by
  refine CallOK.of (ls := [some (.ref 0), some (.int a0), none]) (by decide) (by simp) rfl rfl ?_
  obtain ⟨Q, eQ⟩ : ∃ Q, Q = Qret cX12_isTaken (some .boolean) (some (.int rZ)) w := ⟨_, rfl⟩
  rw [← eQ]
  unfold fX12_isTaken at hf
  refine E_iload_n (v := a0) dX12_isTaken_0 rfl ?_
  refine E_istore_n (ls' := [some (.ref 0), some (.int a0), some (.int a0)]) dX12_isTaken_1 rfl rfl rfl ?_
  obtain ⟨q, hw4, hf⟩ := bd_some hf
  try dsimp only at hf
  refine E.fewer (ls' := [some (.ref 0), none, some (.int a0)]) ⟨Or.inr rfl, ⟨Or.inl rfl, ⟨Or.inr rfl, trivial⟩⟩⟩ ?_
  show (fun (s : Int32) => E PM RX12 cX12_isTaken 3 1 2 [some (.ref 0), none, some (.int s)] [] w Q) a0
  refine wh_E (K := (fun (s : Int32) => E PM RX12 cX12_isTaken 3 1 2 [some (.ref 0), none, some (.int s)] [] w Q)) (X := (se (fun (s : Unit) => E PM RX12 cX12_isTaken 3 1 31 [none, none, none] [] w Q) (fun (s : Unit) => E PM RX12 cX12_isTaken 3 1 22 [none, none, none] [] w Q))) ?_ hw4 ?_
  · intro s9 z9 hf k9
    obtain ⟨x2_2_1, hs9⟩ : ∃ a, a = s9 := ⟨_, rfl⟩
    subst hs9
    dsimp only [lbX12_isTaken_2_1] at hf
    show E PM RX12 cX12_isTaken 3 1 2 [some (.ref 0), none, some (.int x2_2_1)] [] w Q
    refine E_iload_n (v := x2_2_1) dX12_isTaken_2 rfl ?_
    refine E_if_eq 31 dX12_isTaken_3 (by decide) (fun hc1 => ?_) (fun hc1 => ?_)
    · rw [if_pos hc1] at hf
      obtain rfl := Option.some.inj hf
      refine E.fewer (ls' := [none, none, none]) ⟨Or.inl rfl, ⟨Or.inl rfl, ⟨Or.inl rfl, trivial⟩⟩⟩ ?_
      exact k9
    · rw [if_neg hc1] at hf
      refine E_iload_n (v := x2_2_1) dX12_isTaken_6 rfl ?_
      refine E_iconst 4 dX12_isTaken_7 ic_4 ?_
      refine E_irem dX12_isTaken_8 (by decide) ?_
      refine E_if_eq 22 dX12_isTaken_9 (by decide) (fun hc2 => ?_) (fun hc2 => ?_)
      · rw [if_pos hc2] at hf
        obtain rfl := Option.some.inj hf
        refine E.fewer (ls' := [none, none, none]) ⟨Or.inl rfl, ⟨Or.inl rfl, ⟨Or.inl rfl, trivial⟩⟩⟩ ?_
        exact k9
      · rw [if_neg hc2] at hf
        refine E_iload_n (v := x2_2_1) dX12_isTaken_12 rfl ?_
        refine E_iconst 4 dX12_isTaken_13 ic_4 ?_
        refine E_irem dX12_isTaken_14 (by decide) ?_
        refine E_aload_n (v := 0) dX12_isTaken_15 rfl ?_
        refine E_getI fg_RX12_324 dX12_isTaken_16 sM_0 rfl ?_
        refine E_icmp_le 24 dX12_isTaken_19 (by decide) (fun hc3 => ?_) (fun hc3 => ?_)
        · rw [if_pos hc3] at hf
          refine E_iload_n (v := x2_2_1) dX12_isTaken_24 rfl ?_
          refine E_iconst 4 dX12_isTaken_25 ic_4 ?_
          refine E_idiv dX12_isTaken_26 (by decide) ?_
          refine E_istore_n (ls' := [some (.ref 0), none, some (.int (x2_2_1 / 4))]) dX12_isTaken_27 rfl rfl rfl ?_
          refine E_goto 2 dX12_isTaken_28 (by decide) ?_
          obtain rfl := Option.some.inj hf
          exact k9
        · rw [if_neg hc3] at hf
          obtain rfl := Option.some.inj hf
          refine E.fewer (ls' := [none, none, none]) ⟨Or.inl rfl, ⟨Or.inl rfl, ⟨Or.inl rfl, trivial⟩⟩⟩ ?_
          exact k9
  · skip
    rcases q with q | q
    · dsimp only [se] at hf
      try dsimp only at hf
      show E PM RX12 cX12_isTaken 3 1 31 [none, none, none] [] w Q
      refine E_iconst 1 dX12_isTaken_31 ic_1 ?_
      obtain rfl := Option.some.inj hf
      exact E.done (by rw [eQ]; exact ⟨rfl, Or.inl ⟨_, _, rfl, rfl, dX12_isTaken_32, rfl, rfl⟩⟩)
    · dsimp only [se] at hf
      try dsimp only at hf
      show E PM RX12 cX12_isTaken 3 1 22 [none, none, none] [] w Q
      refine E_iconst 0 dX12_isTaken_22 ic_0 ?_
      obtain rfl := Option.some.inj hf
      exact E.done (by rw [eQ]; exact ⟨rfl, Or.inl ⟨_, _, rfl, rfl, dX12_isTaken_23, rfl, rfl⟩⟩)
set_option maxRecDepth 10000 in
set_option maxHeartbeats 2000000 in
theorem MX12_lowest {N : Nat} {a0 : Int32} {a1 : Int32} {w : AW} {wZ : AW} (hf : fX12_lowest N a0 a1 w = some wZ) : CallOK PM yX12_lowest cX12_lowest 6 none 1 [.ref 0, .int a0, .int a1] w none wZ := by
  refine CallOK.of (ls := [some (.ref 0), some (.int a0), some (.int a1), none, none, none]) (by decide) (by simp) rfl rfl ?_
  obtain ⟨Q, eQ⟩ : ∃ Q, Q = Qret cX12_lowest none none wZ := ⟨_, rfl⟩
  rw [← eQ]
  unfold fX12_lowest at hf
  refine E_iload_n (v := a0) dX12_lowest_0 rfl ?_
  refine E_if_ge 9 dX12_lowest_1 (by decide) (fun hc1 => ?_) (fun hc1 => ?_)
  · rw [if_pos hc1] at hf
    refine E_iload_n (v := a0) dX12_lowest_9 rfl ?_
    refine E_istore_n (ls' := [some (.ref 0), some (.int a0), some (.int a1), some (.int a0), none, none]) dX12_lowest_10 rfl rfl rfl ?_
    refine E_iload_n (v := a1) dX12_lowest_11 rfl ?_
    refine E_istore (ls' := [some (.ref 0), some (.int a0), some (.int a1), some (.int a0), some (.int a1), none]) dX12_lowest_12 rfl rfl rfl ?_
    obtain ⟨q, hw5, hf⟩ := bd_some hf
    try dsimp only at hf
    show (fun (s : Int32 × Int32) => E PM RX12 cX12_lowest 6 1 14 [some (.ref 0), some (.int a0), some (.int a1), some (.int s.1), some (.int s.2), none] [] w Q) (a0, a1)
    refine wh_E (K := (fun (s : Int32 × Int32) => E PM RX12 cX12_lowest 6 1 14 [some (.ref 0), some (.int a0), some (.int a1), some (.int s.1), some (.int s.2), none] [] w Q)) (X := (fun (s : Int32) => E PM RX12 cX12_lowest 6 1 35 [some (.ref 0), some (.int a0), some (.int a1), some (.int s), none, none] [] w Q)) ?_ hw5 ?_
    · intro s9 z9 hf k9
      obtain ⟨x3_14_1, x4_14_1⟩ := s9
      dsimp only [lbX12_lowest_14_1] at hf
      show E PM RX12 cX12_lowest 6 1 14 [some (.ref 0), some (.int a0), some (.int a1), some (.int x3_14_1), some (.int x4_14_1), none] [] w Q
      refine E_iload (v := x4_14_1) dX12_lowest_14 rfl ?_
      refine E_if_eq 35 dX12_lowest_16 (by decide) (fun hc2 => ?_) (fun hc2 => ?_)
      · rw [if_pos hc2] at hf
        obtain rfl := Option.some.inj hf
        refine E.fewer (ls' := [some (.ref 0), some (.int a0), some (.int a1), some (.int x3_14_1), none, none]) ⟨Or.inr rfl, ⟨Or.inr rfl, ⟨Or.inr rfl, ⟨Or.inr rfl, ⟨Or.inl rfl, ⟨Or.inl rfl, trivial⟩⟩⟩⟩⟩⟩ ?_
        exact k9
      · rw [if_neg hc2] at hf
        refine E_iload_n (v := x3_14_1) dX12_lowest_19 rfl ?_
        refine E_iload (v := x4_14_1) dX12_lowest_20 rfl ?_
        obtain ⟨hz3, hf⟩ := gd_some hf
        refine E_irem dX12_lowest_22 (of_decide_eq_true hz3) ?_
        obtain ⟨v4, ev4, hf⟩ := lw_some hf
        try dsimp only at hf
        rw [← ev4]
        refine E_istore (ls' := [some (.ref 0), some (.int a0), some (.int a1), some (.int x3_14_1), some (.int x4_14_1), some (.int v4)]) dX12_lowest_23 rfl rfl rfl ?_
        refine E_iload (v := x4_14_1) dX12_lowest_25 rfl ?_
        refine E_istore_n (ls' := [some (.ref 0), some (.int a0), some (.int a1), some (.int x4_14_1), some (.int x4_14_1), some (.int v4)]) dX12_lowest_27 rfl rfl rfl ?_
        refine E_iload (v := v4) dX12_lowest_28 rfl ?_
        refine E_istore (ls' := [some (.ref 0), some (.int a0), some (.int a1), some (.int x4_14_1), some (.int v4), some (.int v4)]) dX12_lowest_30 rfl rfl rfl ?_
        refine E_goto 14 dX12_lowest_32 (by decide) ?_
        obtain rfl := Option.some.inj hf
        refine E.fewer (ls' := [some (.ref 0), some (.int a0), some (.int a1), some (.int x4_14_1), some (.int v4), none]) ⟨Or.inr rfl, ⟨Or.inr rfl, ⟨Or.inr rfl, ⟨Or.inr rfl, ⟨Or.inr rfl, ⟨Or.inl rfl, trivial⟩⟩⟩⟩⟩⟩ ?_
        exact k9
    · skip
      obtain ⟨y6, hq9⟩ : ∃ a, a = q := ⟨_, rfl⟩
      subst hq9
      try dsimp only at hf
      show E PM RX12 cX12_lowest 6 1 35 [some (.ref 0), some (.int a0), some (.int a1), some (.int y6), none, none] [] w Q
      refine E_aload_n (v := 0) dX12_lowest_35 rfl ?_
      refine E_iload_n (v := a0) dX12_lowest_36 rfl ?_
      refine E_iload_n (v := y6) dX12_lowest_37 rfl ?_
      obtain ⟨hz7, hf⟩ := gd_some hf
      refine E_idiv dX12_lowest_38 (of_decide_eq_true hz7) ?_
      obtain ⟨w8, ew8, hf⟩ := lw_some hf
      try dsimp only at hf
      refine E_putI fp_RX12_306 dX12_lowest_39 sM_0 rfl rfl rfl ?_
      rw [← ew8]
      refine E_aload_n (v := 0) dX12_lowest_42 rfl ?_
      refine E_iload_n (v := a1) dX12_lowest_43 rfl ?_
      refine E_iload_n (v := y6) dX12_lowest_44 rfl ?_
      obtain ⟨hz9, hf⟩ := gd_some hf
      refine E_idiv dX12_lowest_45 (of_decide_eq_true hz9) ?_
      obtain ⟨w10, ew10, hf⟩ := lw_some hf
      try dsimp only at hf
      refine E_putI fp_RX12_309 dX12_lowest_46 sM_0 rfl rfl rfl ?_
      rw [← ew10]
      obtain rfl := Option.some.inj hf
      exact E.done (by rw [eQ]; exact ⟨rfl, Or.inr ⟨rfl, rfl, dX12_lowest_49, rfl⟩⟩)
  · rw [if_neg hc1] at hf
    refine E_iload_n (v := a0) dX12_lowest_4 rfl ?_
    refine E_ineg dX12_lowest_5 ?_
    refine E_goto 10 dX12_lowest_6 (by decide) ?_
    refine E_istore_n (ls' := [some (.ref 0), some (.int a0), some (.int a1), some (.int (-a0)), none, none]) dX12_lowest_10 rfl rfl rfl ?_
    refine E_iload_n (v := a1) dX12_lowest_11 rfl ?_
    refine E_istore (ls' := [some (.ref 0), some (.int a0), some (.int a1), some (.int (-a0)), some (.int a1), none]) dX12_lowest_12 rfl rfl rfl ?_
    obtain ⟨q, hw14, hf⟩ := bd_some hf
    try dsimp only at hf
    show (fun (s : Int32 × Int32) => E PM RX12 cX12_lowest 6 1 14 [some (.ref 0), some (.int a0), some (.int a1), some (.int s.1), some (.int s.2), none] [] w Q) ((-a0), a1)
    refine wh_E (K := (fun (s : Int32 × Int32) => E PM RX12 cX12_lowest 6 1 14 [some (.ref 0), some (.int a0), some (.int a1), some (.int s.1), some (.int s.2), none] [] w Q)) (X := (fun (s : Int32) => E PM RX12 cX12_lowest 6 1 35 [some (.ref 0), some (.int a0), some (.int a1), some (.int s), none, none] [] w Q)) ?_ hw14 ?_
    · intro s9 z9 hf k9
      obtain ⟨x3_14_2, x4_14_2⟩ := s9
      dsimp only [lbX12_lowest_14_2] at hf
      show E PM RX12 cX12_lowest 6 1 14 [some (.ref 0), some (.int a0), some (.int a1), some (.int x3_14_2), some (.int x4_14_2), none] [] w Q
      refine E_iload (v := x4_14_2) dX12_lowest_14 rfl ?_
      refine E_if_eq 35 dX12_lowest_16 (by decide) (fun hc11 => ?_) (fun hc11 => ?_)
      · rw [if_pos hc11] at hf
        obtain rfl := Option.some.inj hf
        refine E.fewer (ls' := [some (.ref 0), some (.int a0), some (.int a1), some (.int x3_14_2), none, none]) ⟨Or.inr rfl, ⟨Or.inr rfl, ⟨Or.inr rfl, ⟨Or.inr rfl, ⟨Or.inl rfl, ⟨Or.inl rfl, trivial⟩⟩⟩⟩⟩⟩ ?_
        exact k9
      · rw [if_neg hc11] at hf
        refine E_iload_n (v := x3_14_2) dX12_lowest_19 rfl ?_
        refine E_iload (v := x4_14_2) dX12_lowest_20 rfl ?_
        obtain ⟨hz12, hf⟩ := gd_some hf
        refine E_irem dX12_lowest_22 (of_decide_eq_true hz12) ?_
        obtain ⟨v13, ev13, hf⟩ := lw_some hf
        try dsimp only at hf
        rw [← ev13]
        refine E_istore (ls' := [some (.ref 0), some (.int a0), some (.int a1), some (.int x3_14_2), some (.int x4_14_2), some (.int v13)]) dX12_lowest_23 rfl rfl rfl ?_
        refine E_iload (v := x4_14_2) dX12_lowest_25 rfl ?_
        refine E_istore_n (ls' := [some (.ref 0), some (.int a0), some (.int a1), some (.int x4_14_2), some (.int x4_14_2), some (.int v13)]) dX12_lowest_27 rfl rfl rfl ?_
        refine E_iload (v := v13) dX12_lowest_28 rfl ?_
        refine E_istore (ls' := [some (.ref 0), some (.int a0), some (.int a1), some (.int x4_14_2), some (.int v13), some (.int v13)]) dX12_lowest_30 rfl rfl rfl ?_
        refine E_goto 14 dX12_lowest_32 (by decide) ?_
        obtain rfl := Option.some.inj hf
        refine E.fewer (ls' := [some (.ref 0), some (.int a0), some (.int a1), some (.int x4_14_2), some (.int v13), none]) ⟨Or.inr rfl, ⟨Or.inr rfl, ⟨Or.inr rfl, ⟨Or.inr rfl, ⟨Or.inr rfl, ⟨Or.inl rfl, trivial⟩⟩⟩⟩⟩⟩ ?_
        exact k9
    · skip
      obtain ⟨y15, hq9⟩ : ∃ a, a = q := ⟨_, rfl⟩
      subst hq9
      try dsimp only at hf
      show E PM RX12 cX12_lowest 6 1 35 [some (.ref 0), some (.int a0), some (.int a1), some (.int y15), none, none] [] w Q
      refine E_aload_n (v := 0) dX12_lowest_35 rfl ?_
      refine E_iload_n (v := a0) dX12_lowest_36 rfl ?_
      refine E_iload_n (v := y15) dX12_lowest_37 rfl ?_
      obtain ⟨hz16, hf⟩ := gd_some hf
      refine E_idiv dX12_lowest_38 (of_decide_eq_true hz16) ?_
      obtain ⟨w17, ew17, hf⟩ := lw_some hf
      try dsimp only at hf
      refine E_putI fp_RX12_306 dX12_lowest_39 sM_0 rfl rfl rfl ?_
      rw [← ew17]
      refine E_aload_n (v := 0) dX12_lowest_42 rfl ?_
      refine E_iload_n (v := a1) dX12_lowest_43 rfl ?_
      refine E_iload_n (v := y15) dX12_lowest_44 rfl ?_
      obtain ⟨hz18, hf⟩ := gd_some hf
      refine E_idiv dX12_lowest_45 (of_decide_eq_true hz18) ?_
      obtain ⟨w19, ew19, hf⟩ := lw_some hf
      try dsimp only at hf
      refine E_putI fp_RX12_309 dX12_lowest_46 sM_0 rfl rfl rfl ?_
      rw [← ew19]
      obtain rfl := Option.some.inj hf
      exact E.done (by rw [eQ]; exact ⟨rfl, Or.inr ⟨rfl, rfl, dX12_lowest_49, rfl⟩⟩)
