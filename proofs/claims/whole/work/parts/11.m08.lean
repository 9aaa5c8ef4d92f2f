set_option maxRecDepth 10000 in
set_option maxHeartbeats 2000000 in
theorem MX12_isRow {a0 : Int32} {a1 : Int32} {w : AW} {rZ : Int32} (hf : fX12_isRow a0 a1 w = some rZ) : CallOK PM yX12_isRow cX12_isRow 3 (some .boolean) 2 [.ref 0, .int a0, .int a1] w (some (.int rZ)) w := by
  refine CallOK.of (ls := [some (.ref 0), some (.int a0), some (.int a1)]) (by decide) (by simp) rfl rfl ?_
  obtain ⟨Q, eQ⟩ : ∃ Q, Q = Qret cX12_isRow (some .boolean) (some (.int rZ)) w := ⟨_, rfl⟩
  rw [← eQ]
  unfold fX12_isRow at hf
  refine E_iload_n (v := a0) dX12_isRow_0 rfl ?_
  refine E_iconst 0 dX12_isRow_1 ic_0 ?_
  refine E_aload_n (v := 0) dX12_isRow_2 rfl ?_
  refine E_getI fg_RX12_229 dX12_isRow_3 sM_0 rfl ?_
  refine E_iconst 1 dX12_isRow_6 ic_1 ?_
  refine E_isub dX12_isRow_7 ?_
  obtain ⟨r2, hc1, hf⟩ := bd_some hf
  try dsimp only at hf
  refine E_callSi (rest := []) cs_RX12_99 dX12_isRow_8 (MX12_in hc1) rfl rfl rfl (fun _ => Nat.le_of_ble_eq_true rfl) ?_
  refine E_if_eq 27 dX12_isRow_11 (by decide) (fun hc3 => ?_) (fun hc3 => ?_)
  · rw [if_pos hc3] at hf
    refine E_iconst 0 dX12_isRow_27 ic_0 ?_
    obtain rfl := Option.some.inj hf
    exact E.done (by rw [eQ]; exact ⟨rfl, Or.inl ⟨_, _, rfl, rfl, dX12_isRow_28, rfl, rfl⟩⟩)
  · rw [if_neg hc3] at hf
    refine E_iload_n (v := a1) dX12_isRow_14 rfl ?_
    refine E_iconst 0 dX12_isRow_15 ic_0 ?_
    refine E_iconst 2 dX12_isRow_16 ic_2 ?_
    obtain ⟨r5, hc4, hf⟩ := bd_some hf
    try dsimp only at hf
    refine E_callSi (rest := []) cs_RX12_99 dX12_isRow_17 (MX12_in hc4) rfl rfl rfl (fun _ => Nat.le_of_ble_eq_true rfl) ?_
    refine E_if_eq 27 dX12_isRow_20 (by decide) (fun hc6 => ?_) (fun hc6 => ?_)
    · rw [if_pos hc6] at hf
      refine E_iconst 0 dX12_isRow_27 ic_0 ?_
      obtain rfl := Option.some.inj hf
      exact E.done (by rw [eQ]; exact ⟨rfl, Or.inl ⟨_, _, rfl, rfl, dX12_isRow_28, rfl, rfl⟩⟩)
    · rw [if_neg hc6] at hf
      refine E_iconst 1 dX12_isRow_23 ic_1 ?_
      refine E_goto 28 dX12_isRow_24 (by decide) ?_
      obtain rfl := Option.some.inj hf
      exact E.done (by rw [eQ]; exact ⟨rfl, Or.inl ⟨_, _, rfl, rfl, dX12_isRow_28, rfl, rfl⟩⟩)
set_option maxRecDepth 10000 in
set_option maxHeartbeats 2000000 in
theorem MX12_alterRow {a0 : Int32} {a1 : Int32} {a2 : Int32} {w : AW} {rZ : Int32} {wZ : AW} (hf : fX12_alterRow a0 a1 a2 w = some (rZ, wZ)) : CallOK PM yX12_alterRow cX12_alterRow 5 (some .int) 3 [.ref 0, .int a0, .int a1, .int a2] w (some (.int rZ)) wZ := by
  refine CallOK.of (ls := [some (.ref 0), some (.int a0), some (.int a1), some (.int a2), none]) (by decide) (by simp) rfl rfl ?_
  obtain ⟨Q, eQ⟩ : ∃ Q, Q = Qret cX12_alterRow (some .int) (some (.int rZ)) wZ := ⟨_, rfl⟩
  rw [← eQ]
  unfold fX12_alterRow at hf
  refine E_aload_n (v := 0) dX12_alterRow_0 rfl ?_
  refine E_iload_n (v := a0) dX12_alterRow_1 rfl ?_
  refine E_iload_n (v := a1) dX12_alterRow_2 rfl ?_
  obtain ⟨r2, hc1, hf⟩ := bd_some hf
  try dsimp only at hf
  refine E_callVi (rest := []) (ci := 12) cv_RX12_343 dX12_alterRow_3 (MX12_isRow hc1) rfl sM_0 rfl (by decide) rfl rfl (fun _ => Nat.le_of_ble_eq_true rfl) ?_
  refine E_if_ne 13 dX12_alterRow_6 (by decide) (fun hc3 => ?_) (fun hc3 => ?_)
  · rw [if_pos hc3] at hf
    refine E_ldcw (-2147483648) dX12_alterRow_9 wk_RX12_284 ?_
    obtain ⟨rfl, rfl⟩ := ret2 hf
    exact E.done (by rw [eQ]; exact ⟨rfl, Or.inl ⟨_, _, rfl, rfl, dX12_alterRow_12, rfl, rfl⟩⟩)
  · rw [if_neg hc3] at hf
    refine E_aload_n (v := 0) dX12_alterRow_13 rfl ?_
    refine E_getR fg_RX12_65 dX12_alterRow_14 sM_0 rfl rM_0_36 (Nat.succ_ne_zero _) ?_
    refine E_iconst 3 dX12_alterRow_17 ic_3 ?_
    refine E_iload_n (v := a0) dX12_alterRow_18 rfl ?_
    refine E_imul dX12_alterRow_19 ?_
    refine E_iload_n (v := a1) dX12_alterRow_20 rfl ?_
    refine E_iadd dX12_alterRow_21 ?_
    obtain ⟨hi4, hf⟩ := gd_some hf
    refine E_iald (n := 18) dX12_alterRow_22 sM_18 (by decide) (inb_in hi4) ?_
    obtain ⟨v5, ev5, hf⟩ := lw_some hf
    try dsimp only at hf
    rw [← ev5]
    refine E_istore (ls' := [some (.ref 0), some (.int a0), some (.int a1), some (.int a2), some (.int v5)]) dX12_alterRow_23 rfl rfl rfl ?_
    refine E_aload_n (v := 0) dX12_alterRow_25 rfl ?_
    refine E_getR fg_RX12_65 dX12_alterRow_26 sM_0 rfl rM_0_36 (Nat.succ_ne_zero _) ?_
    refine E_iconst 3 dX12_alterRow_29 ic_3 ?_
    refine E_iload_n (v := a0) dX12_alterRow_30 rfl ?_
    refine E_imul dX12_alterRow_31 ?_
    refine E_iload_n (v := a1) dX12_alterRow_32 rfl ?_
    refine E_iadd dX12_alterRow_33 ?_
    refine E_iload_n (v := a2) dX12_alterRow_34 rfl ?_
    obtain ⟨w6, ew6, hf⟩ := lw_some hf
    try dsimp only at hf
    refine E_iast (n := 18) dX12_alterRow_35 sM_18 (by decide) (inb_in hi4) ?_
    rw [← ew6]
    refine E_iload (v := v5) dX12_alterRow_36 rfl ?_
    obtain ⟨rfl, rfl⟩ := ret2 hf
    exact E.done (by rw [eQ]; exact ⟨rfl, Or.inl ⟨_, _, rfl, rfl, dX12_alterRow_38, rfl, rfl⟩⟩)
set_option maxRecDepth 10000 in
set_option maxHeartbeats 2000000 in
theorem MX12_digitsOf {N : Nat} {a0 : Int32} {w : AW} {rZ : Int32} (hf : fX12_digitsOf N a0 w = some rZ) : CallOK PM yX12_digitsOf cX12_digitsOf 4 (some .int) 1 [.ref 0, .int a0] w (some (.int rZ)) w := by
  refine CallOK.of (ls := [some (.ref 0), some (.int a0), none, none]) (by decide) (by simp) rfl rfl ?_
  obtain ⟨Q, eQ⟩ : ∃ Q, Q = Qret cX12_digitsOf (some .int) (some (.int rZ)) w := ⟨_, rfl⟩
  rw [← eQ]
  unfold fX12_digitsOf at hf
  refine E_iconst 0 dX12_digitsOf_0 ic_0 ?_
  refine E_istore_n (ls' := [some (.ref 0), some (.int a0), some (.int 0), none]) dX12_digitsOf_1 rfl rfl rfl ?_
  refine E_iconst 0 dX12_digitsOf_2 ic_0 ?_
  refine E_istore_n (ls' := [some (.ref 0), some (.int a0), some (.int 0), some (.int 0)]) dX12_digitsOf_3 rfl rfl rfl ?_
  obtain ⟨q, hw4, hf⟩ := bd_some hf
  try dsimp only at hf
  show (fun (s : Int32 × Int32) => E PM RX12 cX12_digitsOf 4 1 4 [some (.ref 0), some (.int a0), some (.int s.1), some (.int s.2)] [] w Q) (0, 0)
  refine wh_E (K := (fun (s : Int32 × Int32) => E PM RX12 cX12_digitsOf 4 1 4 [some (.ref 0), some (.int a0), some (.int s.1), some (.int s.2)] [] w Q)) (X := (fun (s : Int32) => E PM RX12 cX12_digitsOf 4 1 28 [none, none, some (.int s), none] [] w Q)) ?_ hw4 ?_
  · intro s9 z9 hf k9
    obtain ⟨x2_4_1, x3_4_1⟩ := s9
    dsimp only [lbX12_digitsOf_4_1] at hf
    show E PM RX12 cX12_digitsOf 4 1 4 [some (.ref 0), some (.int a0), some (.int x2_4_1), some (.int x3_4_1)] [] w Q
    refine E_iload_n (v := x3_4_1) dX12_digitsOf_4 rfl ?_
    refine E_iload_n (v := a0) dX12_digitsOf_5 rfl ?_
    refine E_icmp_ge 28 dX12_digitsOf_6 (by decide) (fun hc1 => ?_) (fun hc1 => ?_)
    · rw [if_pos hc1] at hf
      obtain rfl := Option.some.inj hf
      refine E.fewer (ls' := [none, none, some (.int x2_4_1), none]) ⟨Or.inl rfl, ⟨Or.inl rfl, ⟨Or.inr rfl, ⟨Or.inl rfl, trivial⟩⟩⟩⟩ ?_
      exact k9
    · rw [if_neg hc1] at hf
      refine E_iload_n (v := x2_4_1) dX12_digitsOf_9 rfl ?_
      refine E_aload_n (v := 0) dX12_digitsOf_10 rfl ?_
      refine E_getR fg_RX12_56 dX12_digitsOf_11 sM_0 rfl rM_0_31 (Nat.succ_ne_zero _) ?_
      refine E_iload_n (v := x3_4_1) dX12_digitsOf_14 rfl ?_
      obtain ⟨hi2, hf⟩ := gd_some hf
      refine E_iald (n := 8) dX12_digitsOf_15 sM_15 (by decide) (inb_in hi2) ?_
      refine E_iconst 3 dX12_digitsOf_16 ic_3 ?_
      refine E_iload_n (v := x3_4_1) dX12_digitsOf_17 rfl ?_
      refine E_imul dX12_digitsOf_18 ?_
      refine E_ishl dX12_digitsOf_19 ?_
      refine E_ior dX12_digitsOf_20 ?_
      obtain ⟨v3, ev3, hf⟩ := lw_some hf
      try dsimp only at hf
      rw [← ev3]
      refine E_istore_n (ls' := [some (.ref 0), some (.int a0), some (.int v3), some (.int x3_4_1)]) dX12_digitsOf_21 rfl rfl rfl ?_
      refine E_iinc (ls' := [some (.ref 0), some (.int a0), some (.int v3), some (.int (x3_4_1 + 1))]) 1 dX12_digitsOf_22 rfl ic_1 rfl rfl rfl ?_
      refine E_goto 4 dX12_digitsOf_25 (by decide) ?_
      obtain rfl := Option.some.inj hf
      exact k9
  · skip
    obtain ⟨y5, hq9⟩ : ∃ a, a = q := ⟨_, rfl⟩
    subst hq9
    try dsimp only at hf
    show E PM RX12 cX12_digitsOf 4 1 28 [none, none, some (.int y5), none] [] w Q
    refine E_iload_n (v := y5) dX12_digitsOf_28 rfl ?_
    obtain rfl := Option.some.inj hf
    exact E.done (by rw [eQ]; exact ⟨rfl, Or.inl ⟨_, _, rfl, rfl, dX12_digitsOf_29, rfl, rfl⟩⟩)
set_option maxRecDepth 10000 in
set_option maxHeartbeats 2000000 in
theorem MX12_best {N : Nat} {a0 : Int32} {w : AW} {rZ : Int32} {wZ : AW} (hf : fX12_best N a0 w = some (rZ, wZ)) : CallOK PM yX12_best cX12_best 3 (some .int) 6 [.ref 0, .int a0] w (some (.int rZ)) wZ := by
  refine CallOK.of (ls := [some (.ref 0), some (.int a0), none]) (by decide) (by simp) rfl rfl ?_
  obtain ⟨Q, eQ⟩ : ∃ Q, Q = Qret cX12_best (some .int) (some (.int rZ)) wZ := ⟨_, rfl⟩
  rw [← eQ]
  unfold fX12_best at hf
  refine E_iload_n (v := a0) dX12_best_0 rfl ?_
  obtain ⟨r2, hc1, hf⟩ := bd_some hf
  try dsimp only at hf
  refine E_callSi (rest := []) cs_RX12_103 dX12_best_1 (MX12_isSide hc1) rfl rfl rfl (fun _ => Nat.le_of_ble_eq_true rfl) ?_
  refine E_if_ne 11 dX12_best_4 (by decide) (fun hc3 => ?_) (fun hc3 => ?_)
  · rw [if_pos hc3] at hf
    refine E_ldcw (-2147483648) dX12_best_7 wk_RX12_284 ?_
    obtain ⟨rfl, rfl⟩ := ret2 hf
    exact E.done (by rw [eQ]; exact ⟨rfl, Or.inl ⟨_, _, rfl, rfl, dX12_best_10, rfl, rfl⟩⟩)
  · rw [if_neg hc3] at hf
    refine E_aload_n (v := 0) dX12_best_11 rfl ?_
    refine E_aload_n (v := 0) dX12_best_12 rfl ?_
    refine E_getI fg_RX12_96 dX12_best_13 sM_0 rfl ?_
    refine E_iconst (-1) dX12_best_16 ic_m1 ?_
    obtain ⟨r5, w6, hc4, hf⟩ := bd2_some hf
    try dsimp only at hf
    refine E_callVi (rest := []) (ci := 12) cv_RX12_297 dX12_best_17 (MX12_mostOfAll hc4) rfl sM_0 rfl (by decide) rfl rfl (fun _ => Nat.le_of_ble_eq_true rfl) ?_
    refine E_istore_n (ls' := [some (.ref 0), some (.int a0), some (.int r5)]) dX12_best_20 rfl rfl rfl ?_
    refine E_iload_n (v := a0) dX12_best_21 rfl ?_
    refine E_if_ne 29 dX12_best_22 (by decide) (fun hc8 => ?_) (fun hc8 => ?_)
    · rw [if_pos hc8] at hf
      refine E_iload_n (v := r5) dX12_best_25 rfl ?_
      refine E_goto 37 dX12_best_26 (by decide) ?_
      obtain ⟨rfl, rfl⟩ := ret2 hf
      exact E.done (by rw [eQ]; exact ⟨rfl, Or.inl ⟨_, _, rfl, rfl, dX12_best_37, rfl, rfl⟩⟩)
    · rw [if_neg hc8] at hf
      refine E_aload_n (v := 0) dX12_best_29 rfl ?_
      refine E_aload_n (v := 0) dX12_best_30 rfl ?_
      refine E_getI fg_RX12_96 dX12_best_31 sM_0 rfl ?_
      obtain ⟨r10, hc9, hf⟩ := bd_some hf
      try dsimp only at hf
      refine E_callVi (rest := []) (ci := 12) cv_RX12_300 dX12_best_34 (MX12_digitsOf hc9) rfl sM_0 rfl (by decide) rfl rfl (fun _ => Nat.le_of_ble_eq_true rfl) ?_
      obtain ⟨rfl, rfl⟩ := ret2 hf
      exact E.done (by rw [eQ]; exact ⟨rfl, Or.inl ⟨_, _, rfl, rfl, dX12_best_37, rfl, rfl⟩⟩)
set_option maxRecDepth 10000 in
set_option maxHeartbeats 2000000 in
theorem MX12_isWord {a0 : Int64} {w : AW} {rZ : Int32} (hf : fX12_isWord a0 w = some rZ) : CallOK PM yX12_isWord cX12_isWord 3 (some .boolean) 1 [.ref 0, .long a0] w (some (.int rZ)) w := by
  refine CallOK.of (ls := [some (.ref 0), some (.long a0), none]) (by decide) (by simp) rfl rfl ?_
  obtain ⟨Q, eQ⟩ : ∃ Q, Q = Qret cX12_isWord (some .boolean) (some (.int rZ)) w := ⟨_, rfl⟩
  rw [← eQ]
  unfold fX12_isWord at hf
  refine E_aload_n (v := 0) dX12_isWord_0 rfl ?_
  refine E_getI fg_RX12_132 dX12_isWord_1 sM_0 rfl ?_
  refine E_iconst 1 dX12_isWord_4 ic_1 ?_
  refine E_icmp_ne 21 dX12_isWord_5 (by decide) (fun hc1 => ?_) (fun hc1 => ?_)
  · rw [if_pos hc1] at hf
    refine E_aload_n (v := 0) dX12_isWord_8 rfl ?_
    refine E_getL fg_RX12_135 dX12_isWord_9 sM_0 rfl ?_
    refine E_lload_n (v := a0) dX12_isWord_12 rfl ?_
    refine E_lcmp dX12_isWord_13 ?_
    refine E_if_ne 21 dX12_isWord_14 (by decide) (fun hc2 => ?_) (fun hc2 => ?_)
    · rw [if_pos hc2] at hf
      refine E_iconst 1 dX12_isWord_17 ic_1 ?_
      refine E_goto 22 dX12_isWord_18 (by decide) ?_
      obtain rfl := Option.some.inj hf
      exact E.done (by rw [eQ]; exact ⟨rfl, Or.inl ⟨_, _, rfl, rfl, dX12_isWord_22, rfl, rfl⟩⟩)
    · rw [if_neg hc2] at hf
      refine E_iconst 0 dX12_isWord_21 ic_0 ?_
      obtain rfl := Option.some.inj hf
      exact E.done (by rw [eQ]; exact ⟨rfl, Or.inl ⟨_, _, rfl, rfl, dX12_isWord_22, rfl, rfl⟩⟩)
  · rw [if_neg hc1] at hf
    refine E_iconst 0 dX12_isWord_21 ic_0 ?_
    obtain rfl := Option.some.inj hf
    exact E.done (by rw [eQ]; exact ⟨rfl, Or.inl ⟨_, _, rfl, rfl, dX12_isWord_22, rfl, rfl⟩⟩)
set_option maxRecDepth 10000 in
set_option maxHeartbeats 2000000 in
theorem MX12_kindHere {w : AW} {rZ : Int32} (hf : fX12_kindHere w = some rZ) : CallOK PM yX12_kindHere cX12_kindHere 1 (some .int) 2 [.ref 0] w (some (.int rZ)) w := by
  refine CallOK.of (ls := [some (.ref 0)]) (by decide) (by simp) rfl rfl ?_
  obtain ⟨Q, eQ⟩ : ∃ Q, Q = Qret cX12_kindHere (some .int) (some (.int rZ)) w := ⟨_, rfl⟩
  rw [← eQ]
  unfold fX12_kindHere at hf
  refine E_aload_n (v := 0) dX12_kindHere_0 rfl ?_
  refine E_ldc2 7697 dX12_kindHere_1 wk_RX12_148 ?_
  obtain ⟨r2, hc1, hf⟩ := bd_some hf
  try dsimp only at hf
  refine E_callVi (rest := []) (ci := 12) cv_RX12_150 dX12_kindHere_4 (MX12_isWord hc1) rfl sM_0 rfl (by decide) rfl rfl (fun _ => Nat.le_of_ble_eq_true rfl) ?_
  refine E_if_eq 14 dX12_kindHere_7 (by decide) (fun hc3 => ?_) (fun hc3 => ?_)
  · rw [if_pos hc3] at hf
    refine E_aload_n (v := 0) dX12_kindHere_14 rfl ?_
    refine E_ldc2 8984627224 dX12_kindHere_15 wk_RX12_154 ?_
    obtain ⟨r5, hc4, hf⟩ := bd_some hf
    try dsimp only at hf
    refine E_callVi (rest := []) (ci := 12) cv_RX12_150 dX12_kindHere_18 (MX12_isWord hc4) rfl sM_0 rfl (by decide) rfl rfl (fun _ => Nat.le_of_ble_eq_true rfl) ?_
    refine E_if_eq 28 dX12_kindHere_21 (by decide) (fun hc6 => ?_) (fun hc6 => ?_)
    · rw [if_pos hc6] at hf
      refine E_aload_n (v := 0) dX12_kindHere_28 rfl ?_
      refine E_ldc2 237942837 dX12_kindHere_29 wk_RX12_156 ?_
      obtain ⟨r8, hc7, hf⟩ := bd_some hf
      try dsimp only at hf
      refine E_callVi (rest := []) (ci := 12) cv_RX12_150 dX12_kindHere_32 (MX12_isWord hc7) rfl sM_0 rfl (by decide) rfl rfl (fun _ => Nat.le_of_ble_eq_true rfl) ?_
      refine E_if_eq 42 dX12_kindHere_35 (by decide) (fun hc9 => ?_) (fun hc9 => ?_)
      · rw [if_pos hc9] at hf
        refine E_aload_n (v := 0) dX12_kindHere_42 rfl ?_
        refine E_ldc2 291828332 dX12_kindHere_43 wk_RX12_158 ?_
        obtain ⟨r11, hc10, hf⟩ := bd_some hf
        try dsimp only at hf
        refine E_callVi (rest := []) (ci := 12) cv_RX12_150 dX12_kindHere_46 (MX12_isWord hc10) rfl sM_0 rfl (by decide) rfl rfl (fun _ => Nat.le_of_ble_eq_true rfl) ?_
        refine E_if_eq 56 dX12_kindHere_49 (by decide) (fun hc12 => ?_) (fun hc12 => ?_)
        · rw [if_pos hc12] at hf
          refine E_aload_n (v := 0) dX12_kindHere_56 rfl ?_
          refine E_ldc2 311034809 dX12_kindHere_57 wk_RX12_160 ?_
          obtain ⟨r14, hc13, hf⟩ := bd_some hf
          try dsimp only at hf
          refine E_callVi (rest := []) (ci := 12) cv_RX12_150 dX12_kindHere_60 (MX12_isWord hc13) rfl sM_0 rfl (by decide) rfl rfl (fun _ => Nat.le_of_ble_eq_true rfl) ?_
          refine E_if_eq 70 dX12_kindHere_63 (by decide) (fun hc15 => ?_) (fun hc15 => ?_)
          · rw [if_pos hc15] at hf
            refine E_aload_n (v := 0) dX12_kindHere_70 rfl ?_
            refine E_ldc2 158523 dX12_kindHere_71 wk_RX12_162 ?_
            obtain ⟨r17, hc16, hf⟩ := bd_some hf
            try dsimp only at hf
            refine E_callVi (rest := []) (ci := 12) cv_RX12_150 dX12_kindHere_74 (MX12_isWord hc16) rfl sM_0 rfl (by decide) rfl rfl (fun _ => Nat.le_of_ble_eq_true rfl) ?_
            refine E_if_eq 84 dX12_kindHere_77 (by decide) (fun hc18 => ?_) (fun hc18 => ?_)
            · rw [if_pos hc18] at hf
              refine E_iconst (-1) dX12_kindHere_84 ic_m1 ?_
              obtain rfl := Option.some.inj hf
              exact E.done (by rw [eQ]; exact ⟨rfl, Or.inl ⟨_, _, rfl, rfl, dX12_kindHere_85, rfl, rfl⟩⟩)
            · rw [if_neg hc18] at hf
              refine E_iconst 5 dX12_kindHere_80 ic_5 ?_
              refine E_goto 85 dX12_kindHere_81 (by decide) ?_
              obtain rfl := Option.some.inj hf
              exact E.done (by rw [eQ]; exact ⟨rfl, Or.inl ⟨_, _, rfl, rfl, dX12_kindHere_85, rfl, rfl⟩⟩)
          · rw [if_neg hc15] at hf
            refine E_iconst 4 dX12_kindHere_66 ic_4 ?_
            refine E_goto 85 dX12_kindHere_67 (by decide) ?_
            obtain rfl := Option.some.inj hf
            exact E.done (by rw [eQ]; exact ⟨rfl, Or.inl ⟨_, _, rfl, rfl, dX12_kindHere_85, rfl, rfl⟩⟩)
        · rw [if_neg hc12] at hf
          refine E_iconst 3 dX12_kindHere_52 ic_3 ?_
          refine E_goto 85 dX12_kindHere_53 (by decide) ?_
          obtain rfl := Option.some.inj hf
          exact E.done (by rw [eQ]; exact ⟨rfl, Or.inl ⟨_, _, rfl, rfl, dX12_kindHere_85, rfl, rfl⟩⟩)
      · rw [if_neg hc9] at hf
        refine E_iconst 2 dX12_kindHere_38 ic_2 ?_
        refine E_goto 85 dX12_kindHere_39 (by decide) ?_
        obtain rfl := Option.some.inj hf
        exact E.done (by rw [eQ]; exact ⟨rfl, Or.inl ⟨_, _, rfl, rfl, dX12_kindHere_85, rfl, rfl⟩⟩)
    · rw [if_neg hc6] at hf
      refine E_iconst 1 dX12_kindHere_24 ic_1 ?_
      refine E_goto 85 dX12_kindHere_25 (by decide) ?_
      obtain rfl := Option.some.inj hf
      exact E.done (by rw [eQ]; exact ⟨rfl, Or.inl ⟨_, _, rfl, rfl, dX12_kindHere_85, rfl, rfl⟩⟩)
  · rw [if_neg hc3] at hf
    refine E_iconst 0 dX12_kindHere_10 ic_0 ?_
    refine E_goto 85 dX12_kindHere_11 (by decide) ?_
    obtain rfl := Option.some.inj hf
    exact E.done (by rw [eQ]; exact ⟨rfl, Or.inl ⟨_, _, rfl, rfl, dX12_kindHere_85, rfl, rfl⟩⟩)
set_option maxRecDepth 10000 in
set_option maxHeartbeats 2000000 in
theorem MX12_lawHere {w : AW} {rZ : Int32} (hf : fX12_lawHere w = some rZ) : CallOK PM yX12_lawHere cX12_lawHere 1 (some .int) 2 [.ref 0] w (some (.int rZ)) w := by
  refine CallOK.of (ls := [some (.ref 0)]) (by decide) (by simp) rfl rfl ?_
  obtain ⟨Q, eQ⟩ : ∃ Q, Q = Qret cX12_lawHere (some .int) (some (.int rZ)) w := ⟨_, rfl⟩
  rw [← eQ]
  unfold fX12_lawHere at hf
  refine E_aload_n (v := 0) dX12_lawHere_0 rfl ?_
  refine E_ldc2 10345069 dX12_lawHere_1 wk_RX12_164 ?_
  obtain ⟨r2, hc1, hf⟩ := bd_some hf
  try dsimp only at hf
  refine E_callVi (rest := []) (ci := 12) cv_RX12_150 dX12_lawHere_4 (MX12_isWord hc1) rfl sM_0 rfl (by decide) rfl rfl (fun _ => Nat.le_of_ble_eq_true rfl) ?_
  refine E_if_eq 14 dX12_lawHere_7 (by decide) (fun hc3 => ?_) (fun hc3 => ?_)
  · rw [if_pos hc3] at hf
    refine E_aload_n (v := 0) dX12_lawHere_14 rfl ?_
    refine E_ldc2 125042 dX12_lawHere_15 wk_RX12_166 ?_
    obtain ⟨r5, hc4, hf⟩ := bd_some hf
    try dsimp only at hf
    refine E_callVi (rest := []) (ci := 12) cv_RX12_150 dX12_lawHere_18 (MX12_isWord hc4) rfl sM_0 rfl (by decide) rfl rfl (fun _ => Nat.le_of_ble_eq_true rfl) ?_
    refine E_if_eq 28 dX12_lawHere_21 (by decide) (fun hc6 => ?_) (fun hc6 => ?_)
    · rw [if_pos hc6] at hf
      refine E_aload_n (v := 0) dX12_lawHere_28 rfl ?_
      refine E_ldc2 7443763252 dX12_lawHere_29 wk_RX12_168 ?_
      obtain ⟨r8, hc7, hf⟩ := bd_some hf
      try dsimp only at hf
      refine E_callVi (rest := []) (ci := 12) cv_RX12_150 dX12_lawHere_32 (MX12_isWord hc7) rfl sM_0 rfl (by decide) rfl rfl (fun _ => Nat.le_of_ble_eq_true rfl) ?_
      refine E_if_eq 42 dX12_lawHere_35 (by decide) (fun hc9 => ?_) (fun hc9 => ?_)
      · rw [if_pos hc9] at hf
        refine E_iconst (-1) dX12_lawHere_42 ic_m1 ?_
        obtain rfl := Option.some.inj hf
        exact E.done (by rw [eQ]; exact ⟨rfl, Or.inl ⟨_, _, rfl, rfl, dX12_lawHere_43, rfl, rfl⟩⟩)
      · rw [if_neg hc9] at hf
        refine E_iconst 1 dX12_lawHere_38 ic_1 ?_
        refine E_goto 43 dX12_lawHere_39 (by decide) ?_
        obtain rfl := Option.some.inj hf
        exact E.done (by rw [eQ]; exact ⟨rfl, Or.inl ⟨_, _, rfl, rfl, dX12_lawHere_43, rfl, rfl⟩⟩)
    · rw [if_neg hc6] at hf
      refine E_iconst 2 dX12_lawHere_24 ic_2 ?_
      refine E_goto 43 dX12_lawHere_25 (by decide) ?_
      obtain rfl := Option.some.inj hf
      exact E.done (by rw [eQ]; exact ⟨rfl, Or.inl ⟨_, _, rfl, rfl, dX12_lawHere_43, rfl, rfl⟩⟩)
  · rw [if_neg hc3] at hf
    refine E_iconst 0 dX12_lawHere_10 ic_0 ?_
    refine E_goto 43 dX12_lawHere_11 (by decide) ?_
    obtain rfl := Option.some.inj hf
    exact E.done (by rw [eQ]; exact ⟨rfl, Or.inl ⟨_, _, rfl, rfl, dX12_lawHere_43, rfl, rfl⟩⟩)
set_option maxRecDepth 10000 in
set_option maxHeartbeats 2000000 in
theorem MX12_isMark {a0 : Int32} {w : AW} {rZ : Int32} (hf : fX12_isMark a0 w = some rZ) : CallOK PM yX12_isMark cX12_isMark 2 (some .boolean) 1 [.ref 0, .int a0] w (some (.int rZ)) w := by
  refine CallOK.of (ls := [some (.ref 0), some (.int a0)]) (by decide) (by simp) rfl rfl ?_
  obtain ⟨Q, eQ⟩ : ∃ Q, Q = Qret cX12_isMark (some .boolean) (some (.int rZ)) w := ⟨_, rfl⟩
  rw [← eQ]
  unfold fX12_isMark at hf
  refine E_aload_n (v := 0) dX12_isMark_0 rfl ?_
  refine E_getI fg_RX12_132 dX12_isMark_1 sM_0 rfl ?_
  refine E_iconst 3 dX12_isMark_4 ic_3 ?_
  refine E_icmp_ne 20 dX12_isMark_5 (by decide) (fun hc1 => ?_) (fun hc1 => ?_)
  · rw [if_pos hc1] at hf
    refine E_aload_n (v := 0) dX12_isMark_8 rfl ?_
    refine E_getI fg_RX12_139 dX12_isMark_9 sM_0 rfl ?_
    refine E_iload_n (v := a0) dX12_isMark_12 rfl ?_
    refine E_icmp_ne 20 dX12_isMark_13 (by decide) (fun hc2 => ?_) (fun hc2 => ?_)
    · rw [if_pos hc2] at hf
      refine E_iconst 1 dX12_isMark_16 ic_1 ?_
      refine E_goto 21 dX12_isMark_17 (by decide) ?_
      obtain rfl := Option.some.inj hf
      exact E.done (by rw [eQ]; exact ⟨rfl, Or.inl ⟨_, _, rfl, rfl, dX12_isMark_21, rfl, rfl⟩⟩)
    · rw [if_neg hc2] at hf
      refine E_iconst 0 dX12_isMark_20 ic_0 ?_
      obtain rfl := Option.some.inj hf
      exact E.done (by rw [eQ]; exact ⟨rfl, Or.inl ⟨_, _, rfl, rfl, dX12_isMark_21, rfl, rfl⟩⟩)
  · rw [if_neg hc1] at hf
    refine E_iconst 0 dX12_isMark_20 ic_0 ?_
    obtain rfl := Option.some.inj hf
    exact E.done (by rw [eQ]; exact ⟨rfl, Or.inl ⟨_, _, rfl, rfl, dX12_isMark_21, rfl, rfl⟩⟩)
set_option maxRecDepth 10000 in
set_option maxHeartbeats 2000000 in
theorem MX12_wantEnd {N : Nat} {w : AW} {wZ : AW} (hf : fX12_wantEnd N w = some wZ) : CallOK PM yX12_wantEnd cX12_wantEnd 1 none 4 [.ref 0] w none wZ := by
  refine CallOK.of (ls := [some (.ref 0)]) (by decide) (by simp) rfl rfl ?_
  obtain ⟨Q, eQ⟩ : ∃ Q, Q = Qret cX12_wantEnd none none wZ := ⟨_, rfl⟩
  rw [← eQ]
  unfold fX12_wantEnd at hf
  refine E_aload_n (v := 0) dX12_wantEnd_0 rfl ?_
  refine E_aload_n (v := 0) dX12_wantEnd_1 rfl ?_
  refine E_getI fg_RX12_170 dX12_wantEnd_2 sM_0 rfl ?_
  refine E_if_eq 21 dX12_wantEnd_5 (by decide) (fun hc1 => ?_) (fun hc1 => ?_)
  · rw [if_pos hc1] at hf
    refine E_iconst 0 dX12_wantEnd_21 ic_0 ?_
    obtain ⟨w2, ew2, hf⟩ := lw_some hf
    try dsimp only at hf
    refine E_putI fp_RX12_170 dX12_wantEnd_22 sM_0 rfl rfl rfl ?_
    rw [← ew2]
    refine E_aload_n (v := 0) dX12_wantEnd_25 rfl ?_
    refine E_getI fg_RX12_170 dX12_wantEnd_26 sM_0 rfl ?_
    refine E_if_eq 36 dX12_wantEnd_29 (by decide) (fun hc3 => ?_) (fun hc3 => ?_)
    · rw [if_pos hc3] at hf
      obtain rfl := Option.some.inj hf
      exact E.done (by rw [eQ]; exact ⟨rfl, Or.inr ⟨rfl, rfl, dX12_wantEnd_36, rfl⟩⟩)
    · rw [if_neg hc3] at hf
      refine E_aload_n (v := 0) dX12_wantEnd_32 rfl ?_
      obtain ⟨w5, hc4, hf⟩ := bd_some hf
      try dsimp only at hf
      refine E_callVv (rest := []) (ci := 12) cv_RX12_174 dX12_wantEnd_33 (MX12_advance hc4) rfl sM_0 rfl (by decide) rfl rfl (fun _ => Nat.le_of_ble_eq_true rfl) ?_
      obtain rfl := Option.some.inj hf
      exact E.done (by rw [eQ]; exact ⟨rfl, Or.inr ⟨rfl, rfl, dX12_wantEnd_36, rfl⟩⟩)
  · rw [if_neg hc1] at hf
    refine E_aload_n (v := 0) dX12_wantEnd_8 rfl ?_
    refine E_bipush 59 dX12_wantEnd_9 bp_59 ?_
    obtain ⟨r7, hc6, hf⟩ := bd_some hf
    try dsimp only at hf
    refine E_callVi (rest := [.ref 0]) (ci := 12) cv_RX12_177 dX12_wantEnd_11 (MX12_isMark hc6) rfl sM_0 rfl (by decide) rfl rfl (fun _ => Nat.le_of_ble_eq_true rfl) ?_
    refine E_if_eq 21 dX12_wantEnd_14 (by decide) (fun hc8 => ?_) (fun hc8 => ?_)
    · rw [if_pos hc8] at hf
      refine E_iconst 0 dX12_wantEnd_21 ic_0 ?_
      obtain ⟨w9, ew9, hf⟩ := lw_some hf
      try dsimp only at hf
      refine E_putI fp_RX12_170 dX12_wantEnd_22 sM_0 rfl rfl rfl ?_
      rw [← ew9]
      refine E_aload_n (v := 0) dX12_wantEnd_25 rfl ?_
      refine E_getI fg_RX12_170 dX12_wantEnd_26 sM_0 rfl ?_
      refine E_if_eq 36 dX12_wantEnd_29 (by decide) (fun hc10 => ?_) (fun hc10 => ?_)
      · rw [if_pos hc10] at hf
        obtain rfl := Option.some.inj hf
        exact E.done (by rw [eQ]; exact ⟨rfl, Or.inr ⟨rfl, rfl, dX12_wantEnd_36, rfl⟩⟩)
      · rw [if_neg hc10] at hf
        refine E_aload_n (v := 0) dX12_wantEnd_32 rfl ?_
        obtain ⟨w12, hc11, hf⟩ := bd_some hf
        try dsimp only at hf
        refine E_callVv (rest := []) (ci := 12) cv_RX12_174 dX12_wantEnd_33 (MX12_advance hc11) rfl sM_0 rfl (by decide) rfl rfl (fun _ => Nat.le_of_ble_eq_true rfl) ?_
        obtain rfl := Option.some.inj hf
        exact E.done (by rw [eQ]; exact ⟨rfl, Or.inr ⟨rfl, rfl, dX12_wantEnd_36, rfl⟩⟩)
    · rw [if_neg hc8] at hf
      refine E_iconst 1 dX12_wantEnd_17 ic_1 ?_
      refine E_goto 22 dX12_wantEnd_18 (by decide) ?_
      obtain ⟨w13, ew13, hf⟩ := lw_some hf
      try dsimp only at hf
      refine E_putI fp_RX12_170 dX12_wantEnd_22 sM_0 rfl rfl rfl ?_
      rw [← ew13]
      refine E_aload_n (v := 0) dX12_wantEnd_25 rfl ?_
      refine E_getI fg_RX12_170 dX12_wantEnd_26 sM_0 rfl ?_
      refine E_if_eq 36 dX12_wantEnd_29 (by decide) (fun hc14 => ?_) (fun hc14 => ?_)
      · rw [if_pos hc14] at hf
        obtain rfl := Option.some.inj hf
        exact E.done (by rw [eQ]; exact ⟨rfl, Or.inr ⟨rfl, rfl, dX12_wantEnd_36, rfl⟩⟩)
      · rw [if_neg hc14] at hf
        refine E_aload_n (v := 0) dX12_wantEnd_32 rfl ?_
        obtain ⟨w16, hc15, hf⟩ := bd_some hf
        try dsimp only at hf
        refine E_callVv (rest := []) (ci := 12) cv_RX12_174 dX12_wantEnd_33 (MX12_advance hc15) rfl sM_0 rfl (by decide) rfl rfl (fun _ => Nat.le_of_ble_eq_true rfl) ?_
        obtain rfl := Option.some.inj hf
        exact E.done (by rw [eQ]; exact ⟨rfl, Or.inr ⟨rfl, rfl, dX12_wantEnd_36, rfl⟩⟩)
set_option maxRecDepth 10000 in
set_option maxHeartbeats 2000000 in
theorem MX12_wantNumber {N : Nat} {a0 : Int32} {a1 : Int32} {w : AW} {rZ : Int32} {wZ : AW} (hf : fX12_wantNumber N a0 a1 w = some (rZ, wZ)) : CallOK PM yX12_wantNumber cX12_wantNumber 4 (some .int) 4 [.ref 0, .int a0, .int a1] w (some (.int rZ)) wZ := by
  refine CallOK.of (ls := [some (.ref 0), some (.int a0), some (.int a1), none]) (by decide) (by simp) rfl rfl ?_
  obtain ⟨Q, eQ⟩ : ∃ Q, Q = Qret cX12_wantNumber (some .int) (some (.int rZ)) wZ := ⟨_, rfl⟩
  rw [← eQ]
  unfold fX12_wantNumber at hf
  refine E_aload_n (v := 0) dX12_wantNumber_0 rfl ?_
  refine E_getI fg_RX12_139 dX12_wantNumber_1 sM_0 rfl ?_
  refine E_istore_n (ls' := [some (.ref 0), some (.int a0), some (.int a1), some (.int (w.1 0 21))]) dX12_wantNumber_4 rfl rfl rfl ?_
  refine E_aload_n (v := 0) dX12_wantNumber_5 rfl ?_
  refine E_aload_n (v := 0) dX12_wantNumber_6 rfl ?_
  refine E_getI fg_RX12_170 dX12_wantNumber_7 sM_0 rfl ?_
  refine E_if_eq 34 dX12_wantNumber_10 (by decide) (fun hc1 => ?_) (fun hc1 => ?_)
  · rw [if_pos hc1] at hf
    refine E_iconst 0 dX12_wantNumber_34 ic_0 ?_
    obtain ⟨w2, ew2, hf⟩ := lw_some hf
    try dsimp only at hf
    refine E_putI fp_RX12_170 dX12_wantNumber_35 sM_0 rfl rfl rfl ?_
    rw [← ew2]
    refine E_aload_n (v := 0) dX12_wantNumber_38 rfl ?_
    refine E_getI fg_RX12_170 dX12_wantNumber_39 sM_0 rfl ?_
    refine E_if_eq 49 dX12_wantNumber_42 (by decide) (fun hc3 => ?_) (fun hc3 => ?_)
    · rw [if_pos hc3] at hf
      refine E_iload_n (v := (w.1 0 21)) dX12_wantNumber_49 rfl ?_
      obtain ⟨rfl, rfl⟩ := ret2 hf
      exact E.done (by rw [eQ]; exact ⟨rfl, Or.inl ⟨_, _, rfl, rfl, dX12_wantNumber_50, rfl, rfl⟩⟩)
    · rw [if_neg hc3] at hf
      refine E_aload_n (v := 0) dX12_wantNumber_45 rfl ?_
      obtain ⟨w5, hc4, hf⟩ := bd_some hf
      try dsimp only at hf
      refine E_callVv (rest := []) (ci := 12) cv_RX12_174 dX12_wantNumber_46 (MX12_advance hc4) rfl sM_0 rfl (by decide) rfl rfl (fun _ => Nat.le_of_ble_eq_true rfl) ?_
      refine E_iload_n (v := (w.1 0 21)) dX12_wantNumber_49 rfl ?_
      obtain ⟨rfl, rfl⟩ := ret2 hf
      exact E.done (by rw [eQ]; exact ⟨rfl, Or.inl ⟨_, _, rfl, rfl, dX12_wantNumber_50, rfl, rfl⟩⟩)
  · rw [if_neg hc1] at hf
    refine E_aload_n (v := 0) dX12_wantNumber_13 rfl ?_
    refine E_getI fg_RX12_132 dX12_wantNumber_14 sM_0 rfl ?_
    refine E_iconst 2 dX12_wantNumber_17 ic_2 ?_
    refine E_icmp_ne 34 dX12_wantNumber_18 (by decide) (fun hc6 => ?_) (fun hc6 => ?_)
    · rw [if_pos hc6] at hf
      refine E_iload_n (v := (w.1 0 21)) dX12_wantNumber_21 rfl ?_
      refine E_iload_n (v := a0) dX12_wantNumber_22 rfl ?_
      refine E_iload_n (v := a1) dX12_wantNumber_23 rfl ?_
      obtain ⟨r8, hc7, hf⟩ := bd_some hf
      try dsimp only at hf
      refine E_callSi (rest := [.ref 0]) cs_RX12_99 dX12_wantNumber_24 (MX12_in hc7) rfl rfl rfl (fun _ => Nat.le_of_ble_eq_true rfl) ?_
      refine E_if_eq 34 dX12_wantNumber_27 (by decide) (fun hc9 => ?_) (fun hc9 => ?_)
      · rw [if_pos hc9] at hf
        refine E_iconst 0 dX12_wantNumber_34 ic_0 ?_
        obtain ⟨w10, ew10, hf⟩ := lw_some hf
        try dsimp only at hf
        refine E_putI fp_RX12_170 dX12_wantNumber_35 sM_0 rfl rfl rfl ?_
        rw [← ew10]
        refine E_aload_n (v := 0) dX12_wantNumber_38 rfl ?_
        refine E_getI fg_RX12_170 dX12_wantNumber_39 sM_0 rfl ?_
        refine E_if_eq 49 dX12_wantNumber_42 (by decide) (fun hc11 => ?_) (fun hc11 => ?_)
        · rw [if_pos hc11] at hf
          refine E_iload_n (v := (w.1 0 21)) dX12_wantNumber_49 rfl ?_
          obtain ⟨rfl, rfl⟩ := ret2 hf
          exact E.done (by rw [eQ]; exact ⟨rfl, Or.inl ⟨_, _, rfl, rfl, dX12_wantNumber_50, rfl, rfl⟩⟩)
        · rw [if_neg hc11] at hf
          refine E_aload_n (v := 0) dX12_wantNumber_45 rfl ?_
          obtain ⟨w13, hc12, hf⟩ := bd_some hf
          try dsimp only at hf
          refine E_callVv (rest := []) (ci := 12) cv_RX12_174 dX12_wantNumber_46 (MX12_advance hc12) rfl sM_0 rfl (by decide) rfl rfl (fun _ => Nat.le_of_ble_eq_true rfl) ?_
          refine E_iload_n (v := (w.1 0 21)) dX12_wantNumber_49 rfl ?_
          obtain ⟨rfl, rfl⟩ := ret2 hf
          exact E.done (by rw [eQ]; exact ⟨rfl, Or.inl ⟨_, _, rfl, rfl, dX12_wantNumber_50, rfl, rfl⟩⟩)
      · rw [if_neg hc9] at hf
        refine E_iconst 1 dX12_wantNumber_30 ic_1 ?_
        refine E_goto 35 dX12_wantNumber_31 (by decide) ?_
        obtain ⟨w14, ew14, hf⟩ := lw_some hf
        try dsimp only at hf
        refine E_putI fp_RX12_170 dX12_wantNumber_35 sM_0 rfl rfl rfl ?_
        rw [← ew14]
        refine E_aload_n (v := 0) dX12_wantNumber_38 rfl ?_
        refine E_getI fg_RX12_170 dX12_wantNumber_39 sM_0 rfl ?_
        refine E_if_eq 49 dX12_wantNumber_42 (by decide) (fun hc15 => ?_) (fun hc15 => ?_)
        · rw [if_pos hc15] at hf
          refine E_iload_n (v := (w.1 0 21)) dX12_wantNumber_49 rfl ?_
          obtain ⟨rfl, rfl⟩ := ret2 hf
          exact E.done (by rw [eQ]; exact ⟨rfl, Or.inl ⟨_, _, rfl, rfl, dX12_wantNumber_50, rfl, rfl⟩⟩)
        · rw [if_neg hc15] at hf
          refine E_aload_n (v := 0) dX12_wantNumber_45 rfl ?_
          obtain ⟨w17, hc16, hf⟩ := bd_some hf
          try dsimp only at hf
          refine E_callVv (rest := []) (ci := 12) cv_RX12_174 dX12_wantNumber_46 (MX12_advance hc16) rfl sM_0 rfl (by decide) rfl rfl (fun _ => Nat.le_of_ble_eq_true rfl) ?_
          refine E_iload_n (v := (w.1 0 21)) dX12_wantNumber_49 rfl ?_
          obtain ⟨rfl, rfl⟩ := ret2 hf
          exact E.done (by rw [eQ]; exact ⟨rfl, Or.inl ⟨_, _, rfl, rfl, dX12_wantNumber_50, rfl, rfl⟩⟩)
    · rw [if_neg hc6] at hf
      refine E_iconst 0 dX12_wantNumber_34 ic_0 ?_
      obtain ⟨w18, ew18, hf⟩ := lw_some hf
      try dsimp only at hf
      refine E_putI fp_RX12_170 dX12_wantNumber_35 sM_0 rfl rfl rfl ?_
      rw [← ew18]
      refine E_aload_n (v := 0) dX12_wantNumber_38 rfl ?_
      refine E_getI fg_RX12_170 dX12_wantNumber_39 sM_0 rfl ?_
      refine E_if_eq 49 dX12_wantNumber_42 (by decide) (fun hc19 => ?_) (fun hc19 => ?_)
      · rw [if_pos hc19] at hf
        refine E_iload_n (v := (w.1 0 21)) dX12_wantNumber_49 rfl ?_
        obtain ⟨rfl, rfl⟩ := ret2 hf
        exact E.done (by rw [eQ]; exact ⟨rfl, Or.inl ⟨_, _, rfl, rfl, dX12_wantNumber_50, rfl, rfl⟩⟩)
      · rw [if_neg hc19] at hf
        refine E_aload_n (v := 0) dX12_wantNumber_45 rfl ?_
        obtain ⟨w21, hc20, hf⟩ := bd_some hf
        try dsimp only at hf
        refine E_callVv (rest := []) (ci := 12) cv_RX12_174 dX12_wantNumber_46 (MX12_advance hc20) rfl sM_0 rfl (by decide) rfl rfl (fun _ => Nat.le_of_ble_eq_true rfl) ?_
        refine E_iload_n (v := (w.1 0 21)) dX12_wantNumber_49 rfl ?_
        obtain ⟨rfl, rfl⟩ := ret2 hf
        exact E.done (by rw [eQ]; exact ⟨rfl, Or.inl ⟨_, _, rfl, rfl, dX12_wantNumber_50, rfl, rfl⟩⟩)
set_option maxRecDepth 10000 in
set_option maxHeartbeats 2000000 in
theorem MX12_wantWord {N : Nat} {a0 : Int64} {w : AW} {wZ : AW} (hf : fX12_wantWord N a0 w = some wZ) : CallOK PM yX12_wantWord cX12_wantWord 3 none 4 [.ref 0, .long a0] w none wZ := by
  refine CallOK.of (ls := [some (.ref 0), some (.long a0), none]) (by decide) (by simp) rfl rfl ?_
  obtain ⟨Q, eQ⟩ : ∃ Q, Q = Qret cX12_wantWord none none wZ := ⟨_, rfl⟩
  rw [← eQ]
  unfold fX12_wantWord at hf
  refine E_aload_n (v := 0) dX12_wantWord_0 rfl ?_
  refine E_aload_n (v := 0) dX12_wantWord_1 rfl ?_
  refine E_getI fg_RX12_170 dX12_wantWord_2 sM_0 rfl ?_
  refine E_if_eq 20 dX12_wantWord_5 (by decide) (fun hc1 => ?_) (fun hc1 => ?_)
  · rw [if_pos hc1] at hf
    refine E_iconst 0 dX12_wantWord_20 ic_0 ?_
    obtain ⟨w2, ew2, hf⟩ := lw_some hf
    try dsimp only at hf
    refine E_putI fp_RX12_170 dX12_wantWord_21 sM_0 rfl rfl rfl ?_
    rw [← ew2]
    refine E_aload_n (v := 0) dX12_wantWord_24 rfl ?_
    refine E_getI fg_RX12_170 dX12_wantWord_25 sM_0 rfl ?_
    refine E_if_eq 35 dX12_wantWord_28 (by decide) (fun hc3 => ?_) (fun hc3 => ?_)
    · rw [if_pos hc3] at hf
      obtain rfl := Option.some.inj hf
      exact E.done (by rw [eQ]; exact ⟨rfl, Or.inr ⟨rfl, rfl, dX12_wantWord_35, rfl⟩⟩)
    · rw [if_neg hc3] at hf
      refine E_aload_n (v := 0) dX12_wantWord_31 rfl ?_
      obtain ⟨w5, hc4, hf⟩ := bd_some hf
      try dsimp only at hf
      refine E_callVv (rest := []) (ci := 12) cv_RX12_174 dX12_wantWord_32 (MX12_advance hc4) rfl sM_0 rfl (by decide) rfl rfl (fun _ => Nat.le_of_ble_eq_true rfl) ?_
      obtain rfl := Option.some.inj hf
      exact E.done (by rw [eQ]; exact ⟨rfl, Or.inr ⟨rfl, rfl, dX12_wantWord_35, rfl⟩⟩)
  · rw [if_neg hc1] at hf
    refine E_aload_n (v := 0) dX12_wantWord_8 rfl ?_
    refine E_lload_n (v := a0) dX12_wantWord_9 rfl ?_
    obtain ⟨r7, hc6, hf⟩ := bd_some hf
    try dsimp only at hf
    refine E_callVi (rest := [.ref 0]) (ci := 12) cv_RX12_150 dX12_wantWord_10 (MX12_isWord hc6) rfl sM_0 rfl (by decide) rfl rfl (fun _ => Nat.le_of_ble_eq_true rfl) ?_
    refine E_if_eq 20 dX12_wantWord_13 (by decide) (fun hc8 => ?_) (fun hc8 => ?_)
    · rw [if_pos hc8] at hf
      refine E_iconst 0 dX12_wantWord_20 ic_0 ?_
      obtain ⟨w9, ew9, hf⟩ := lw_some hf
      try dsimp only at hf
      refine E_putI fp_RX12_170 dX12_wantWord_21 sM_0 rfl rfl rfl ?_
      rw [← ew9]
      refine E_aload_n (v := 0) dX12_wantWord_24 rfl ?_
      refine E_getI fg_RX12_170 dX12_wantWord_25 sM_0 rfl ?_
      refine E_if_eq 35 dX12_wantWord_28 (by decide) (fun hc10 => ?_) (fun hc10 => ?_)
      · rw [if_pos hc10] at hf
        obtain rfl := Option.some.inj hf
        exact E.done (by rw [eQ]; exact ⟨rfl, Or.inr ⟨rfl, rfl, dX12_wantWord_35, rfl⟩⟩)
      · rw [if_neg hc10] at hf
        refine E_aload_n (v := 0) dX12_wantWord_31 rfl ?_
        obtain ⟨w12, hc11, hf⟩ := bd_some hf
        try dsimp only at hf
        refine E_callVv (rest := []) (ci := 12) cv_RX12_174 dX12_wantWord_32 (MX12_advance hc11) rfl sM_0 rfl (by decide) rfl rfl (fun _ => Nat.le_of_ble_eq_true rfl) ?_
        obtain rfl := Option.some.inj hf
        exact E.done (by rw [eQ]; exact ⟨rfl, Or.inr ⟨rfl, rfl, dX12_wantWord_35, rfl⟩⟩)
    · rw [if_neg hc8] at hf
      refine E_iconst 1 dX12_wantWord_16 ic_1 ?_
      refine E_goto 21 dX12_wantWord_17 (by decide) ?_
      obtain ⟨w13, ew13, hf⟩ := lw_some hf
      try dsimp only at hf
      refine E_putI fp_RX12_170 dX12_wantWord_21 sM_0 rfl rfl rfl ?_
      rw [← ew13]
      refine E_aload_n (v := 0) dX12_wantWord_24 rfl ?_
      refine E_getI fg_RX12_170 dX12_wantWord_25 sM_0 rfl ?_
      refine E_if_eq 35 dX12_wantWord_28 (by decide) (fun hc14 => ?_) (fun hc14 => ?_)
      · rw [if_pos hc14] at hf
        obtain rfl := Option.some.inj hf
        exact E.done (by rw [eQ]; exact ⟨rfl, Or.inr ⟨rfl, rfl, dX12_wantWord_35, rfl⟩⟩)
      · rw [if_neg hc14] at hf
        refine E_aload_n (v := 0) dX12_wantWord_31 rfl ?_
        obtain ⟨w16, hc15, hf⟩ := bd_some hf
        try dsimp only at hf
        refine E_callVv (rest := []) (ci := 12) cv_RX12_174 dX12_wantWord_32 (MX12_advance hc15) rfl sM_0 rfl (by decide) rfl rfl (fun _ => Nat.le_of_ble_eq_true rfl) ?_
        obtain rfl := Option.some.inj hf
        exact E.done (by rw [eQ]; exact ⟨rfl, Or.inr ⟨rfl, rfl, dX12_wantWord_35, rfl⟩⟩)
set_option maxRecDepth 10000 in
set_option maxHeartbeats 2000000 in
theorem BX12_wantJob_76 (N : Nat) (p1_76 : Int32) (p2_76 : Int32) (p3_76 : Int32) (w : AW) (wZ : AW) {Q : Nat → List (Option Value) → List Value → AW → Prop} (eQ : Q = Qret cX12_wantJob none none wZ) (hf : bX12_wantJob_76 N p1_76 p2_76 p3_76 w = some wZ) : E PM RX12 cX12_wantJob 7 5 76 [some (.ref 0), some (.int p1_76), some (.int p2_76), some (.int p3_76), none, none, none] [] w Q := by
  unfold bX12_wantJob_76 at hf
  refine E_aload_n (v := 0) dX12_wantJob_76 rfl ?_
  refine E_ldc2 79 dX12_wantJob_77 wk_RX12_188 ?_
  obtain ⟨w12, hc11, hf⟩ := bd_some hf
  try dsimp only at hf
  refine E_callVv (rest := []) (ci := 12) cv_RX12_190 dX12_wantJob_80 (MX12_wantWord hc11) rfl sM_0 rfl (by decide) rfl rfl (fun _ => Nat.le_of_ble_eq_true rfl) ?_
  refine E_aload_n (v := 0) dX12_wantJob_83 rfl ?_
  refine E_iconst 0 dX12_wantJob_84 ic_0 ?_
  refine E_bipush 60 dX12_wantJob_85 bp_60 ?_
  obtain ⟨r14, w15, hc13, hf⟩ := bd2_some hf
  try dsimp only at hf
  refine E_callVi (rest := []) (ci := 12) cv_RX12_183 dX12_wantJob_87 (MX12_wantNumber hc13) rfl sM_0 rfl (by decide) rfl rfl (fun _ => Nat.le_of_ble_eq_true rfl) ?_
  refine E_istore (ls' := [some (.ref 0), some (.int p1_76), some (.int p2_76), some (.int p3_76), some (.int r14), none, none]) dX12_wantJob_90 rfl rfl rfl ?_
  refine E_aload_n (v := 0) dX12_wantJob_92 rfl ?_
  refine E_ldc2 4797 dX12_wantJob_93 wk_RX12_194 ?_
  obtain ⟨w18, hc17, hf⟩ := bd_some hf
  try dsimp only at hf
  refine E_callVv (rest := []) (ci := 12) cv_RX12_190 dX12_wantJob_96 (MX12_wantWord hc17) rfl sM_0 rfl (by decide) rfl rfl (fun _ => Nat.le_of_ble_eq_true rfl) ?_
  refine E_aload_n (v := 0) dX12_wantJob_99 rfl ?_
  refine E_iconst 0 dX12_wantJob_100 ic_0 ?_
  refine E_bipush 99 dX12_wantJob_101 bp_99 ?_
  obtain ⟨r20, w21, hc19, hf⟩ := bd2_some hf
  try dsimp only at hf
  refine E_callVi (rest := []) (ci := 12) cv_RX12_183 dX12_wantJob_103 (MX12_wantNumber hc19) rfl sM_0 rfl (by decide) rfl rfl (fun _ => Nat.le_of_ble_eq_true rfl) ?_
  refine E_istore (ls' := [some (.ref 0), some (.int p1_76), some (.int p2_76), some (.int p3_76), some (.int r14), some (.int r20), none]) dX12_wantJob_106 rfl rfl rfl ?_
  refine E_aload_n (v := 0) dX12_wantJob_108 rfl ?_
  obtain ⟨w24, hc23, hf⟩ := bd_some hf
  try dsimp only at hf
  refine E_callVv (rest := []) (ci := 12) cv_RX12_196 dX12_wantJob_109 (MX12_wantEnd hc23) rfl sM_0 rfl (by decide) rfl rfl (fun _ => Nat.le_of_ble_eq_true rfl) ?_
  refine E_aload_n (v := 0) dX12_wantJob_112 rfl ?_
  refine E_getI fg_RX12_170 dX12_wantJob_113 sM_0 rfl ?_
  refine E_if_eq 195 dX12_wantJob_116 (by decide) (fun hc25 => ?_) (fun hc25 => ?_)
  · rw [if_pos hc25] at hf
    obtain rfl := Option.some.inj hf
    exact E.done (by rw [eQ]; exact ⟨rfl, Or.inr ⟨rfl, rfl, dX12_wantJob_195, rfl⟩⟩)
  · rw [if_neg hc25] at hf
    refine E_iconst 5 dX12_wantJob_119 ic_5 ?_
    refine E_aload_n (v := 0) dX12_wantJob_120 rfl ?_
    refine E_getI fg_RX12_180 dX12_wantJob_121 sM_0 rfl ?_
    refine E_imul dX12_wantJob_124 ?_
    refine E_istore (ls' := [some (.ref 0), some (.int p1_76), some (.int p2_76), some (.int p3_76), some (.int r14), some (.int r20), some (.int (5 * (w24.1 0 25)))]) dX12_wantJob_125 rfl rfl rfl ?_
    refine E_aload_n (v := 0) dX12_wantJob_127 rfl ?_
    refine E_getR fg_RX12_41 dX12_wantJob_128 sM_0 rfl rM_0_23 (Nat.succ_ne_zero _) ?_
    refine E_iload (v := (5 * (w24.1 0 25))) dX12_wantJob_131 rfl ?_
    refine E_iload_n (v := p1_76) dX12_wantJob_133 rfl ?_
    obtain ⟨hi26, hf⟩ := gd_some hf
    obtain ⟨w27, ew27, hf⟩ := lw_some hf
    try dsimp only at hf
    refine E_iast (n := 30) dX12_wantJob_134 sM_10 (by decide) (inb_in hi26) ?_
    rw [← ew27]
    refine E_aload_n (v := 0) dX12_wantJob_135 rfl ?_
    refine E_getR fg_RX12_41 dX12_wantJob_136 sM_0 rfl rM_0_23 (Nat.succ_ne_zero _) ?_
    refine E_iload (v := (5 * (w24.1 0 25))) dX12_wantJob_139 rfl ?_
    refine E_iconst 1 dX12_wantJob_141 ic_1 ?_
    refine E_iadd dX12_wantJob_142 ?_
    refine E_iload_n (v := p2_76) dX12_wantJob_143 rfl ?_
    obtain ⟨hi28, hf⟩ := gd_some hf
    obtain ⟨w29, ew29, hf⟩ := lw_some hf
    try dsimp only at hf
    refine E_iast (n := 30) dX12_wantJob_144 sM_10 (by decide) (inb_in hi28) ?_
    rw [← ew29]
    refine E_aload_n (v := 0) dX12_wantJob_145 rfl ?_
    refine E_getR fg_RX12_41 dX12_wantJob_146 sM_0 rfl rM_0_23 (Nat.succ_ne_zero _) ?_
    refine E_iload (v := (5 * (w24.1 0 25))) dX12_wantJob_149 rfl ?_
    refine E_iconst 2 dX12_wantJob_151 ic_2 ?_
    refine E_iadd dX12_wantJob_152 ?_
    refine E_iload_n (v := p3_76) dX12_wantJob_153 rfl ?_
    refine E_if_eq 161 dX12_wantJob_154 (by decide) (fun hc30 => ?_) (fun hc30 => ?_)
    · rw [if_pos hc30] at hf
      refine E_iconst 0 dX12_wantJob_161 ic_0 ?_
      obtain ⟨hi31, hf⟩ := gd_some hf
      obtain ⟨w32, ew32, hf⟩ := lw_some hf
      try dsimp only at hf
      refine E_iast (n := 30) dX12_wantJob_162 sM_10 (by decide) (inb_in hi31) ?_
      rw [← ew32]
      refine E_aload_n (v := 0) dX12_wantJob_163 rfl ?_
      refine E_getR fg_RX12_41 dX12_wantJob_164 sM_0 rfl rM_0_23 (Nat.succ_ne_zero _) ?_
      refine E_iload (v := (5 * (w24.1 0 25))) dX12_wantJob_167 rfl ?_
      refine E_iconst 3 dX12_wantJob_169 ic_3 ?_
      refine E_iadd dX12_wantJob_170 ?_
      refine E_iload (v := r14) dX12_wantJob_171 rfl ?_
      obtain ⟨hi33, hf⟩ := gd_some hf
      obtain ⟨w34, ew34, hf⟩ := lw_some hf
      try dsimp only at hf
      refine E_iast (n := 30) dX12_wantJob_173 sM_10 (by decide) (inb_in hi33) ?_
      rw [← ew34]
      refine E_aload_n (v := 0) dX12_wantJob_174 rfl ?_
      refine E_getR fg_RX12_41 dX12_wantJob_175 sM_0 rfl rM_0_23 (Nat.succ_ne_zero _) ?_
      refine E_iload (v := (5 * (w24.1 0 25))) dX12_wantJob_178 rfl ?_
      refine E_iconst 4 dX12_wantJob_180 ic_4 ?_
      refine E_iadd dX12_wantJob_181 ?_
      refine E_iload (v := r20) dX12_wantJob_182 rfl ?_
      obtain ⟨hi35, hf⟩ := gd_some hf
      obtain ⟨w36, ew36, hf⟩ := lw_some hf
      try dsimp only at hf
      refine E_iast (n := 30) dX12_wantJob_184 sM_10 (by decide) (inb_in hi35) ?_
      rw [← ew36]
      refine E_aload_n (v := 0) dX12_wantJob_185 rfl ?_
      refine E_dup_r dX12_wantJob_186 ?_
      refine E_getI fg_RX12_180 dX12_wantJob_187 sM_0 rfl ?_
      refine E_iconst 1 dX12_wantJob_190 ic_1 ?_
      refine E_iadd dX12_wantJob_191 ?_
      obtain ⟨w37, ew37, hf⟩ := lw_some hf
      try dsimp only at hf
      refine E_putI fp_RX12_180 dX12_wantJob_192 sM_0 rfl rfl rfl ?_
      rw [← ew37]
      obtain rfl := Option.some.inj hf
      exact E.done (by rw [eQ]; exact ⟨rfl, Or.inr ⟨rfl, rfl, dX12_wantJob_195, rfl⟩⟩)
    · rw [if_neg hc30] at hf
      refine E_iconst 1 dX12_wantJob_157 ic_1 ?_
      refine E_goto 162 dX12_wantJob_158 (by decide) ?_
      obtain ⟨hi38, hf⟩ := gd_some hf
      obtain ⟨w39, ew39, hf⟩ := lw_some hf
      try dsimp only at hf
      refine E_iast (n := 30) dX12_wantJob_162 sM_10 (by decide) (inb_in hi38) ?_
      rw [← ew39]
      refine E_aload_n (v := 0) dX12_wantJob_163 rfl ?_
      refine E_getR fg_RX12_41 dX12_wantJob_164 sM_0 rfl rM_0_23 (Nat.succ_ne_zero _) ?_
      refine E_iload (v := (5 * (w24.1 0 25))) dX12_wantJob_167 rfl ?_
      refine E_iconst 3 dX12_wantJob_169 ic_3 ?_
      refine E_iadd dX12_wantJob_170 ?_
      refine E_iload (v := r14) dX12_wantJob_171 rfl ?_
      obtain ⟨hi40, hf⟩ := gd_some hf
      obtain ⟨w41, ew41, hf⟩ := lw_some hf
      try dsimp only at hf
      refine E_iast (n := 30) dX12_wantJob_173 sM_10 (by decide) (inb_in hi40) ?_
      rw [← ew41]
      refine E_aload_n (v := 0) dX12_wantJob_174 rfl ?_
      refine E_getR fg_RX12_41 dX12_wantJob_175 sM_0 rfl rM_0_23 (Nat.succ_ne_zero _) ?_
      refine E_iload (v := (5 * (w24.1 0 25))) dX12_wantJob_178 rfl ?_
      refine E_iconst 4 dX12_wantJob_180 ic_4 ?_
      refine E_iadd dX12_wantJob_181 ?_
      refine E_iload (v := r20) dX12_wantJob_182 rfl ?_
      obtain ⟨hi42, hf⟩ := gd_some hf
      obtain ⟨w43, ew43, hf⟩ := lw_some hf
      try dsimp only at hf
      refine E_iast (n := 30) dX12_wantJob_184 sM_10 (by decide) (inb_in hi42) ?_
      rw [← ew43]
      refine E_aload_n (v := 0) dX12_wantJob_185 rfl ?_
      refine E_dup_r dX12_wantJob_186 ?_
      refine E_getI fg_RX12_180 dX12_wantJob_187 sM_0 rfl ?_
      refine E_iconst 1 dX12_wantJob_190 ic_1 ?_
      refine E_iadd dX12_wantJob_191 ?_
      obtain ⟨w44, ew44, hf⟩ := lw_some hf
      try dsimp only at hf
      refine E_putI fp_RX12_180 dX12_wantJob_192 sM_0 rfl rfl rfl ?_
      rw [← ew44]
      obtain rfl := Option.some.inj hf
      exact E.done (by rw [eQ]; exact ⟨rfl, Or.inr ⟨rfl, rfl, dX12_wantJob_195, rfl⟩⟩)
set_option maxRecDepth 10000 in
set_option maxHeartbeats 2000000 in
theorem BX12_wantJob_67 (N : Nat) (p1_67 : Int32) (p2_67 : Int32) (q0_67 : Int32) (w : AW) (wZ : AW) {Q : Nat → List (Option Value) → List Value → AW → Prop} (eQ : Q = Qret cX12_wantJob none none wZ) (hf : bX12_wantJob_67 N p1_67 p2_67 q0_67 w = some wZ) : E PM RX12 cX12_wantJob 7 5 67 [some (.ref 0), some (.int p1_67), some (.int p2_67), none, none, none, none] [.int q0_67] w Q := by
  unfold bX12_wantJob_67 at hf
  refine E_istore_n (ls' := [some (.ref 0), some (.int p1_67), some (.int p2_67), some (.int q0_67), none, none, none]) dX12_wantJob_67 rfl rfl rfl ?_
  refine E_iload_n (v := q0_67) dX12_wantJob_68 rfl ?_
  refine E_if_eq 76 dX12_wantJob_69 (by decide) (fun hc10 => ?_) (fun hc10 => ?_)
  · rw [if_pos hc10] at hf
    exact BX12_wantJob_76 N p1_67 p2_67 q0_67 w  wZ eQ hf
  · rw [if_neg hc10] at hf
    refine E_aload_n (v := 0) dX12_wantJob_72 rfl ?_
    obtain ⟨w46, hc45, hf⟩ := bd_some hf
    try dsimp only at hf
    refine E_callVv (rest := []) (ci := 12) cv_RX12_174 dX12_wantJob_73 (MX12_advance hc45) rfl sM_0 rfl (by decide) rfl rfl (fun _ => Nat.le_of_ble_eq_true rfl) ?_
    exact BX12_wantJob_76 N p1_67 p2_67 q0_67 w46  wZ eQ hf
set_option maxRecDepth 10000 in
set_option maxHeartbeats 2000000 in
theorem BX12_wantJob_66 (N : Nat) (p1_66 : Int32) (p2_66 : Int32) (w : AW) (wZ : AW) {Q : Nat → List (Option Value) → List Value → AW → Prop} (eQ : Q = Qret cX12_wantJob none none wZ) (hf : bX12_wantJob_66 N p1_66 p2_66 w = some wZ) : E PM RX12 cX12_wantJob 7 5 66 [some (.ref 0), some (.int p1_66), some (.int p2_66), none, none, none, none] [] w Q := by
  unfold bX12_wantJob_66 at hf
  refine E_iconst 0 dX12_wantJob_66 ic_0 ?_
  exact BX12_wantJob_67 N p1_66 p2_66 0 w  wZ eQ hf
set_option maxRecDepth 10000 in
set_option maxHeartbeats 2000000 in
theorem BX12_wantJob_37 (N : Nat) (p1_37 : Int32) (w : AW) (wZ : AW) {Q : Nat → List (Option Value) → List Value → AW → Prop} (eQ : Q = Qret cX12_wantJob none none wZ) (hf : bX12_wantJob_37 N p1_37 w = some wZ) : E PM RX12 cX12_wantJob 7 5 37 [some (.ref 0), some (.int p1_37), none, none, none, none, none] [] w Q := by
  unfold bX12_wantJob_37 at hf
  refine E_aload_n (v := 0) dX12_wantJob_37 rfl ?_
  refine E_iconst 1 dX12_wantJob_38 ic_1 ?_
  refine E_bipush 9 dX12_wantJob_39 bp_9 ?_
  obtain ⟨r6, w7, hc5, hf⟩ := bd2_some hf
  try dsimp only at hf
  refine E_callVi (rest := []) (ci := 12) cv_RX12_183 dX12_wantJob_41 (MX12_wantNumber hc5) rfl sM_0 rfl (by decide) rfl rfl (fun _ => Nat.le_of_ble_eq_true rfl) ?_
  refine E_istore_n (ls' := [some (.ref 0), some (.int p1_37), some (.int r6), none, none, none, none]) dX12_wantJob_44 rfl rfl rfl ?_
  refine E_aload_n (v := 0) dX12_wantJob_45 rfl ?_
  refine E_getI fg_RX12_170 dX12_wantJob_46 sM_0 rfl ?_
  refine E_if_eq 66 dX12_wantJob_49 (by decide) (fun hc9 => ?_) (fun hc9 => ?_)
  · rw [if_pos hc9] at hf
    exact BX12_wantJob_66 N p1_37 r6 w7  wZ eQ hf
  · rw [if_neg hc9] at hf
    refine E_aload_n (v := 0) dX12_wantJob_52 rfl ?_
    refine E_ldc2 1299899 dX12_wantJob_53 wk_RX12_186 ?_
    obtain ⟨r48, hc47, hf⟩ := bd_some hf
    try dsimp only at hf
    refine E_callVi (rest := []) (ci := 12) cv_RX12_150 dX12_wantJob_56 (MX12_isWord hc47) rfl sM_0 rfl (by decide) rfl rfl (fun _ => Nat.le_of_ble_eq_true rfl) ?_
    refine E_if_eq 66 dX12_wantJob_59 (by decide) (fun hc49 => ?_) (fun hc49 => ?_)
    · rw [if_pos hc49] at hf
      exact BX12_wantJob_66 N p1_37 r6 w7  wZ eQ hf
    · rw [if_neg hc49] at hf
      refine E_iconst 1 dX12_wantJob_62 ic_1 ?_
      refine E_goto 67 dX12_wantJob_63 (by decide) ?_
      exact BX12_wantJob_67 N p1_37 r6 1 w7  wZ eQ hf
set_option maxRecDepth 10000 in
set_option maxHeartbeats 2000000 in
theorem BX12_wantJob_15 (N : Nat) (p1_15 : Int32) (q0_15 : Int32) (w : AW) (wZ : AW) {Q : Nat → List (Option Value) → List Value → AW → Prop} (eQ : Q = Qret cX12_wantJob none none wZ) (hf : bX12_wantJob_15 N p1_15 q0_15 w = some wZ) : E PM RX12 cX12_wantJob 7 5 15 [some (.ref 0), some (.int p1_15), none, none, none, none, none] [.int q0_15, .ref 0] w Q := by
  unfold bX12_wantJob_15 at hf
  obtain ⟨hb3, hf⟩ := gd_some hf
  obtain ⟨w2, ew2, hf⟩ := lw_some hf
  try dsimp only at hf
  refine E_putI fp_RX12_170 dX12_wantJob_15 sM_0 rfl (isb_n hb3) (isb_f hb3) ?_
  rw [← ew2]
  refine E_aload_n (v := 0) dX12_wantJob_18 rfl ?_
  refine E_getI fg_RX12_170 dX12_wantJob_19 sM_0 rfl ?_
  refine E_if_eq 37 dX12_wantJob_22 (by decide) (fun hc4 => ?_) (fun hc4 => ?_)
  · rw [if_pos hc4] at hf
    exact BX12_wantJob_37 N p1_15 w2  wZ eQ hf
  · rw [if_neg hc4] at hf
    refine E_aload_n (v := 0) dX12_wantJob_25 rfl ?_
    refine E_getI fg_RX12_132 dX12_wantJob_26 sM_0 rfl ?_
    refine E_iconst 1 dX12_wantJob_29 ic_1 ?_
    refine E_icmp_ne 37 dX12_wantJob_30 (by decide) (fun hc50 => ?_) (fun hc50 => ?_)
    · rw [if_pos hc50] at hf
      refine E_aload_n (v := 0) dX12_wantJob_33 rfl ?_
      obtain ⟨w52, hc51, hf⟩ := bd_some hf
      try dsimp only at hf
      refine E_callVv (rest := []) (ci := 12) cv_RX12_174 dX12_wantJob_34 (MX12_advance hc51) rfl sM_0 rfl (by decide) rfl rfl (fun _ => Nat.le_of_ble_eq_true rfl) ?_
      exact BX12_wantJob_37 N p1_15 w52  wZ eQ hf
    · rw [if_neg hc50] at hf
      exact BX12_wantJob_37 N p1_15 w2  wZ eQ hf
set_option maxRecDepth 10000 in
set_option maxHeartbeats 2000000 in
theorem MX12_wantJob {N : Nat} {a0 : Int32} {w : AW} {wZ : AW} (hf : fX12_wantJob N a0 w = some wZ) : CallOK PM yX12_wantJob cX12_wantJob 7 none 5 [.ref 0, .int a0] w none wZ := by
  refine CallOK.of (ls := [some (.ref 0), some (.int a0), none, none, none, none, none]) (by decide) (by simp) rfl rfl ?_
  obtain ⟨Q, eQ⟩ : ∃ Q, Q = Qret cX12_wantJob none none wZ := ⟨_, rfl⟩
  rw [← eQ]
  unfold fX12_wantJob at hf
  refine E_aload_n (v := 0) dX12_wantJob_0 rfl ?_
  refine E_aload_n (v := 0) dX12_wantJob_1 rfl ?_
  refine E_getI fg_RX12_180 dX12_wantJob_2 sM_0 rfl ?_
  refine E_bipush 6 dX12_wantJob_5 bp_6 ?_
  refine E_icmp_ge 14 dX12_wantJob_7 (by decide) (fun hc1 => ?_) (fun hc1 => ?_)
  · rw [if_pos hc1] at hf
    refine E_iconst 0 dX12_wantJob_14 ic_0 ?_
    exact BX12_wantJob_15 N a0 0 w  wZ eQ hf
  · rw [if_neg hc1] at hf
    refine E_iconst 1 dX12_wantJob_10 ic_1 ?_
    refine E_goto 15 dX12_wantJob_11 (by decide) ?_
    exact BX12_wantJob_15 N a0 1 w  wZ eQ hf
set_option maxRecDepth 10000 in
set_option maxHeartbeats 2000000 in
theorem MX12_wantLaw {N : Nat} {a0 : Int32} {w : AW} {wZ : AW} (hf : fX12_wantLaw N a0 w = some wZ) : CallOK PM yX12_wantLaw cX12_wantLaw 3 none 5 [.ref 0, .int a0] w none wZ := by
  refine CallOK.of (ls := [some (.ref 0), some (.int a0), none]) (by decide) (by simp) rfl rfl ?_
  obtain ⟨Q, eQ⟩ : ∃ Q, Q = Qret cX12_wantLaw none none wZ := ⟨_, rfl⟩
  rw [← eQ]
  unfold fX12_wantLaw at hf
  refine E_aload_n (v := 0) dX12_wantLaw_0 rfl ?_
  obtain ⟨w2, hc1, hf⟩ := bd_some hf
  try dsimp only at hf
  refine E_callVv (rest := []) (ci := 12) cv_RX12_174 dX12_wantLaw_1 (MX12_advance hc1) rfl sM_0 rfl (by decide) rfl rfl (fun _ => Nat.le_of_ble_eq_true rfl) ?_
  refine E_aload_n (v := 0) dX12_wantLaw_4 rfl ?_
  refine E_aload_n (v := 0) dX12_wantLaw_5 rfl ?_
  refine E_getR fg_RX12_16 dX12_wantLaw_6 sM_0 rfl rM_0_3 (Nat.succ_ne_zero _) ?_
  refine E_iload_n (v := a0) dX12_wantLaw_9 rfl ?_
  obtain ⟨hi3, hf⟩ := gd_some hf
  refine E_iald (n := 4) dX12_wantLaw_10 sM_3 (by decide) (inb_in hi3) ?_
  refine E_aload_n (v := 0) dX12_wantLaw_11 rfl ?_
  refine E_getR fg_RX12_19 dX12_wantLaw_12 sM_0 rfl rM_0_4 (Nat.succ_ne_zero _) ?_
  refine E_iload_n (v := a0) dX12_wantLaw_15 rfl ?_
  refine E_iald (n := 4) dX12_wantLaw_16 sM_4 (by decide) (inb_in hi3) ?_
  obtain ⟨r5, w6, hc4, hf⟩ := bd2_some hf
  try dsimp only at hf
  refine E_callVi (rest := []) (ci := 12) cv_RX12_183 dX12_wantLaw_17 (MX12_wantNumber hc4) rfl sM_0 rfl (by decide) rfl rfl (fun _ => Nat.le_of_ble_eq_true rfl) ?_
  refine E_istore_n (ls' := [some (.ref 0), some (.int a0), some (.int r5)]) dX12_wantLaw_20 rfl rfl rfl ?_
  refine E_aload_n (v := 0) dX12_wantLaw_21 rfl ?_
  obtain ⟨w9, hc8, hf⟩ := bd_some hf
  try dsimp only at hf
  refine E_callVv (rest := []) (ci := 12) cv_RX12_196 dX12_wantLaw_22 (MX12_wantEnd hc8) rfl sM_0 rfl (by decide) rfl rfl (fun _ => Nat.le_of_ble_eq_true rfl) ?_
  refine E_aload_n (v := 0) dX12_wantLaw_25 rfl ?_
  refine E_getR fg_RX12_44 dX12_wantLaw_26 sM_0 rfl rM_0_24 (Nat.succ_ne_zero _) ?_
  refine E_iload_n (v := a0) dX12_wantLaw_29 rfl ?_
  refine E_aload_n (v := 0) dX12_wantLaw_30 rfl ?_
  refine E_getI fg_RX12_170 dX12_wantLaw_31 sM_0 rfl ?_
  refine E_if_eq 41 dX12_wantLaw_34 (by decide) (fun hc10 => ?_) (fun hc10 => ?_)
  · rw [if_pos hc10] at hf
    refine E_aload_n (v := 0) dX12_wantLaw_41 rfl ?_
    refine E_getR fg_RX12_44 dX12_wantLaw_42 sM_0 rfl rM_0_24 (Nat.succ_ne_zero _) ?_
    refine E_iload_n (v := a0) dX12_wantLaw_45 rfl ?_
    refine E_iald (n := 4) dX12_wantLaw_46 sM_11 (by decide) (inb_in hi3) ?_
    obtain ⟨w11, ew11, hf⟩ := lw_some hf
    try dsimp only at hf
    refine E_iast (n := 4) dX12_wantLaw_47 sM_11 (by decide) (inb_in hi3) ?_
    rw [← ew11]
    obtain rfl := Option.some.inj hf
    exact E.done (by rw [eQ]; exact ⟨rfl, Or.inr ⟨rfl, rfl, dX12_wantLaw_48, rfl⟩⟩)
  · rw [if_neg hc10] at hf
    refine E_iload_n (v := r5) dX12_wantLaw_37 rfl ?_
    refine E_goto 47 dX12_wantLaw_38 (by decide) ?_
    obtain ⟨w12, ew12, hf⟩ := lw_some hf
    try dsimp only at hf
    refine E_iast (n := 4) dX12_wantLaw_47 sM_11 (by decide) (inb_in hi3) ?_
    rw [← ew12]
    obtain rfl := Option.some.inj hf
    exact E.done (by rw [eQ]; exact ⟨rfl, Or.inr ⟨rfl, rfl, dX12_wantLaw_48, rfl⟩⟩)
set_option maxRecDepth 10000 in
set_option maxHeartbeats 2000000 in
theorem BX12_board_122 (N : Nat) (w : AW) (rZ : Int32) (wZ : AW) {Q : Nat → List (Option Value) → List Value → AW → Prop} (eQ : Q = Qret cX12_board (some .int) (some (.int rZ)) wZ) (hf : bX12_board_122 N w = some (rZ, wZ)) : E PM RX12 cX12_board 3 6 122 [some (.ref 0), none, none] [] w Q := by
  unfold bX12_board_122 at hf
  refine E_aload_n (v := 0) dX12_board_122 rfl ?_
  refine E_iconst 0 dX12_board_123 ic_0 ?_
  obtain ⟨w41, ew41, hf⟩ := lw_some hf
  try dsimp only at hf
  refine E_putI fp_RX12_111 dX12_board_124 sM_0 rfl rfl rfl ?_
  rw [← ew41]
  refine E_aload_n (v := 0) dX12_board_127 rfl ?_
  refine E_getI fg_RX12_170 dX12_board_128 sM_0 rfl ?_
  refine E_if_ne 142 dX12_board_131 (by decide) (fun hc42 => ?_) (fun hc42 => ?_)
  · rw [if_pos hc42] at hf
    refine E_bipush (-100) dX12_board_134 bp_m100 ?_
    refine E_aload_n (v := 0) dX12_board_136 rfl ?_
    refine E_getI fg_RX12_119 dX12_board_137 sM_0 rfl ?_
    refine E_isub dX12_board_140 ?_
    obtain ⟨rfl, rfl⟩ := ret2 hf
    exact E.done (by rw [eQ]; exact ⟨rfl, Or.inl ⟨_, _, rfl, rfl, dX12_board_141, rfl, rfl⟩⟩)
  · rw [if_neg hc42] at hf
    refine E_aload_n (v := 0) dX12_board_142 rfl ?_
    refine E_aload_n (v := 0) dX12_board_143 rfl ?_
    refine E_getI fg_RX12_180 dX12_board_144 sM_0 rfl ?_
    obtain ⟨w43, ew43, hf⟩ := lw_some hf
    try dsimp only at hf
    refine E_putI fp_RX12_96 dX12_board_147 sM_0 rfl rfl rfl ?_
    rw [← ew43]
    refine E_iconst 0 dX12_board_150 ic_0 ?_
    refine E_istore_n (ls' := [some (.ref 0), some (.int 0), none]) dX12_board_151 rfl rfl rfl ?_
    obtain ⟨q, hw54, hf⟩ := bd_some hf
    try dsimp only at hf
    show (fun (s : Int32 × AW) => E PM RX12 cX12_board 3 6 152 [some (.ref 0), some (.int s.1), none] [] s.2 Q) (0, w43)
    refine wh_E (K := (fun (s : Int32 × AW) => E PM RX12 cX12_board 3 6 152 [some (.ref 0), some (.int s.1), none] [] s.2 Q)) (X := (fun (s : AW) => E PM RX12 cX12_board 3 6 220 [some (.ref 0), none, none] [] s Q)) ?_ hw54 ?_
    · intro s9 z9 hf k9
      obtain ⟨x1_152_3, w_152_3⟩ := s9
      dsimp only [lbX12_board_152_3] at hf
      show E PM RX12 cX12_board 3 6 152 [some (.ref 0), some (.int x1_152_3), none] [] w_152_3 Q
      refine E_iload_n (v := x1_152_3) dX12_board_152 rfl ?_
      refine E_aload_n (v := 0) dX12_board_153 rfl ?_
      refine E_getI fg_RX12_96 dX12_board_154 sM_0 rfl ?_
      refine E_icmp_ge 220 dX12_board_157 (by decide) (fun hc44 => ?_) (fun hc44 => ?_)
      · rw [if_pos hc44] at hf
        obtain rfl := Option.some.inj hf
        refine E.fewer (ls' := [some (.ref 0), none, none]) ⟨Or.inr rfl, ⟨Or.inl rfl, ⟨Or.inl rfl, trivial⟩⟩⟩ ?_
        exact k9
      · rw [if_neg hc44] at hf
        refine E_iconst 5 dX12_board_160 ic_5 ?_
        refine E_iload_n (v := x1_152_3) dX12_board_161 rfl ?_
        refine E_imul dX12_board_162 ?_
        refine E_istore_n (ls' := [some (.ref 0), some (.int x1_152_3), some (.int (5 * x1_152_3))]) dX12_board_163 rfl rfl rfl ?_
        refine E_aload_n (v := 0) dX12_board_164 rfl ?_
        refine E_iload_n (v := x1_152_3) dX12_board_165 rfl ?_
        refine E_aload_n (v := 0) dX12_board_166 rfl ?_
        refine E_getR fg_RX12_41 dX12_board_167 sM_0 rfl rM_0_23 (Nat.succ_ne_zero _) ?_
        refine E_iload_n (v := (5 * x1_152_3)) dX12_board_170 rfl ?_
        obtain ⟨hi45, hf⟩ := gd_some hf
        refine E_iald (n := 30) dX12_board_171 sM_10 (by decide) (inb_in hi45) ?_
        refine E_aload_n (v := 0) dX12_board_172 rfl ?_
        refine E_getR fg_RX12_41 dX12_board_173 sM_0 rfl rM_0_23 (Nat.succ_ne_zero _) ?_
        refine E_iload_n (v := (5 * x1_152_3)) dX12_board_176 rfl ?_
        refine E_iconst 1 dX12_board_177 ic_1 ?_
        refine E_iadd dX12_board_178 ?_
        obtain ⟨hi46, hf⟩ := gd_some hf
        refine E_iald (n := 30) dX12_board_179 sM_10 (by decide) (inb_in hi46) ?_
        refine E_aload_n (v := 0) dX12_board_180 rfl ?_
        refine E_getR fg_RX12_41 dX12_board_181 sM_0 rfl rM_0_23 (Nat.succ_ne_zero _) ?_
        refine E_iload_n (v := (5 * x1_152_3)) dX12_board_184 rfl ?_
        refine E_iconst 2 dX12_board_185 ic_2 ?_
        refine E_iadd dX12_board_186 ?_
        obtain ⟨hi47, hf⟩ := gd_some hf
        refine E_iald (n := 30) dX12_board_187 sM_10 (by decide) (inb_in hi47) ?_
        refine E_aload_n (v := 0) dX12_board_188 rfl ?_
        refine E_getR fg_RX12_41 dX12_board_189 sM_0 rfl rM_0_23 (Nat.succ_ne_zero _) ?_
        refine E_iload_n (v := (5 * x1_152_3)) dX12_board_192 rfl ?_
        refine E_iconst 3 dX12_board_193 ic_3 ?_
        refine E_iadd dX12_board_194 ?_
        obtain ⟨hi48, hf⟩ := gd_some hf
        refine E_iald (n := 30) dX12_board_195 sM_10 (by decide) (inb_in hi48) ?_
        refine E_aload_n (v := 0) dX12_board_196 rfl ?_
        refine E_getR fg_RX12_41 dX12_board_197 sM_0 rfl rM_0_23 (Nat.succ_ne_zero _) ?_
        refine E_iload_n (v := (5 * x1_152_3)) dX12_board_200 rfl ?_
        refine E_iconst 4 dX12_board_201 ic_4 ?_
        refine E_iadd dX12_board_202 ?_
        obtain ⟨hi49, hf⟩ := gd_some hf
        refine E_iald (n := 30) dX12_board_203 sM_10 (by decide) (inb_in hi49) ?_
        obtain ⟨w51, hc50, hf⟩ := bd_some hf
        try dsimp only at hf
        refine E_callVv (rest := []) (ci := 12) cv_RX12_213 dX12_board_204 (MX12_lay hc50) rfl sM_0 rfl (by decide) rfl rfl (fun _ => Nat.le_of_ble_eq_true rfl) ?_
        refine E_aload_n (v := 0) dX12_board_207 rfl ?_
        refine E_getR fg_RX12_28 dX12_board_208 sM_0 rfl rM_0_11 (Nat.succ_ne_zero _) ?_
        refine E_iload_n (v := x1_152_3) dX12_board_211 rfl ?_
        refine E_iload_n (v := x1_152_3) dX12_board_212 rfl ?_
        obtain ⟨hi52, hf⟩ := gd_some hf
        obtain ⟨w53, ew53, hf⟩ := lw_some hf
        try dsimp only at hf
        refine E_iast (n := 8) dX12_board_213 sM_7 (by decide) (inb_in hi52) ?_
        rw [← ew53]
        refine E_iinc (ls' := [some (.ref 0), some (.int (x1_152_3 + 1)), some (.int (5 * x1_152_3))]) 1 dX12_board_214 rfl ic_1 rfl rfl rfl ?_
        refine E_goto 152 dX12_board_217 (by decide) ?_
        obtain rfl := Option.some.inj hf
        refine E.fewer (ls' := [some (.ref 0), some (.int (x1_152_3 + 1)), none]) ⟨Or.inr rfl, ⟨Or.inr rfl, ⟨Or.inl rfl, trivial⟩⟩⟩ ?_
        exact k9
    · skip
      obtain ⟨w55, hq9⟩ : ∃ a, a = q := ⟨_, rfl⟩
      subst hq9
      try dsimp only at hf
      show E PM RX12 cX12_board 3 6 220 [some (.ref 0), none, none] [] w55 Q
      refine E_iconst 0 dX12_board_220 ic_0 ?_
      refine E_istore_n (ls' := [some (.ref 0), some (.int 0), none]) dX12_board_221 rfl rfl rfl ?_
      obtain ⟨q, hw59, hf⟩ := bd_some hf
      try dsimp only at hf
      show (fun (s : Int32 × AW) => E PM RX12 cX12_board 3 6 222 [some (.ref 0), some (.int s.1), none] [] s.2 Q) (0, w55)
      refine wh_E (K := (fun (s : Int32 × AW) => E PM RX12 cX12_board 3 6 222 [some (.ref 0), some (.int s.1), none] [] s.2 Q)) (X := (fun (s : AW) => E PM RX12 cX12_board 3 6 245 [some (.ref 0), none, none] [] s Q)) ?_ hw59 ?_
      · intro s9 z9 hf k9
        obtain ⟨x1_222_4, w_222_4⟩ := s9
        dsimp only [lbX12_board_222_4] at hf
        show E PM RX12 cX12_board 3 6 222 [some (.ref 0), some (.int x1_222_4), none] [] w_222_4 Q
        refine E_iload_n (v := x1_222_4) dX12_board_222 rfl ?_
        refine E_iconst 4 dX12_board_223 ic_4 ?_
        refine E_icmp_ge 245 dX12_board_224 (by decide) (fun hc56 => ?_) (fun hc56 => ?_)
        · rw [if_pos hc56] at hf
          obtain rfl := Option.some.inj hf
          refine E.fewer (ls' := [some (.ref 0), none, none]) ⟨Or.inr rfl, ⟨Or.inl rfl, ⟨Or.inl rfl, trivial⟩⟩⟩ ?_
          exact k9
        · rw [if_neg hc56] at hf
          refine E_aload_n (v := 0) dX12_board_227 rfl ?_
          refine E_getR fg_RX12_13 dX12_board_228 sM_0 rfl rM_0_2 (Nat.succ_ne_zero _) ?_
          refine E_iload_n (v := x1_222_4) dX12_board_231 rfl ?_
          refine E_aload_n (v := 0) dX12_board_232 rfl ?_
          refine E_getR fg_RX12_44 dX12_board_233 sM_0 rfl rM_0_24 (Nat.succ_ne_zero _) ?_
          refine E_iload_n (v := x1_222_4) dX12_board_236 rfl ?_
          obtain ⟨hi57, hf⟩ := gd_some hf
          refine E_iald (n := 4) dX12_board_237 sM_11 (by decide) (inb_in hi57) ?_
          obtain ⟨w58, ew58, hf⟩ := lw_some hf
          try dsimp only at hf
          refine E_iast (n := 4) dX12_board_238 sM_2 (by decide) (inb_in hi57) ?_
          rw [← ew58]
          refine E_iinc (ls' := [some (.ref 0), some (.int (x1_222_4 + 1)), none]) 1 dX12_board_239 rfl ic_1 rfl rfl rfl ?_
          refine E_goto 222 dX12_board_242 (by decide) ?_
          obtain rfl := Option.some.inj hf
          exact k9
      · skip
        obtain ⟨w60, hq9⟩ : ∃ a, a = q := ⟨_, rfl⟩
        subst hq9
        try dsimp only at hf
        show E PM RX12 cX12_board 3 6 245 [some (.ref 0), none, none] [] w60 Q
        refine E_iconst 0 dX12_board_245 ic_0 ?_
        refine E_istore_n (ls' := [some (.ref 0), some (.int 0), none]) dX12_board_246 rfl rfl rfl ?_
        obtain ⟨q, hw65, hf⟩ := bd_some hf
        try dsimp only at hf
        show (fun (s : Int32 × AW) => E PM RX12 cX12_board 3 6 247 [some (.ref 0), some (.int s.1), none] [] s.2 Q) (0, w60)
        refine wh_E (K := (fun (s : Int32 × AW) => E PM RX12 cX12_board 3 6 247 [some (.ref 0), some (.int s.1), none] [] s.2 Q)) (X := (fun (s : AW) => E PM RX12 cX12_board 3 6 273 [some (.ref 0), none, none] [] s Q)) ?_ hw65 ?_
        · intro s9 z9 hf k9
          obtain ⟨x1_247_5, w_247_5⟩ := s9
          dsimp only [lbX12_board_247_5] at hf
          show E PM RX12 cX12_board 3 6 247 [some (.ref 0), some (.int x1_247_5), none] [] w_247_5 Q
          refine E_iload_n (v := x1_247_5) dX12_board_247 rfl ?_
          refine E_bipush 60 dX12_board_248 bp_60 ?_
          refine E_icmp_gt 273 dX12_board_250 (by decide) (fun hc61 => ?_) (fun hc61 => ?_)
          · rw [if_pos hc61] at hf
            obtain rfl := Option.some.inj hf
            refine E.fewer (ls' := [some (.ref 0), none, none]) ⟨Or.inr rfl, ⟨Or.inl rfl, ⟨Or.inl rfl, trivial⟩⟩⟩ ?_
            exact k9
          · rw [if_neg hc61] at hf
            refine E_aload_n (v := 0) dX12_board_253 rfl ?_
            refine E_getR fg_RX12_22 dX12_board_254 sM_0 rfl rM_0_9 (Nat.succ_ne_zero _) ?_
            refine E_iload_n (v := x1_247_5) dX12_board_257 rfl ?_
            refine E_iconst 0 dX12_board_258 ic_0 ?_
            obtain ⟨hi62, hf⟩ := gd_some hf
            obtain ⟨w63, ew63, hf⟩ := lw_some hf
            try dsimp only at hf
            refine E_iast (n := 61) dX12_board_259 sM_5 (by decide) (inb_in hi62) ?_
            rw [← ew63]
            refine E_aload_n (v := 0) dX12_board_260 rfl ?_
            refine E_getR fg_RX12_25 dX12_board_261 sM_0 rfl rM_0_10 (Nat.succ_ne_zero _) ?_
            refine E_iload_n (v := x1_247_5) dX12_board_264 rfl ?_
            refine E_iconst 0 dX12_board_265 ic_0 ?_
            obtain ⟨w64, ew64, hf⟩ := lw_some hf
            try dsimp only at hf
            refine E_iast (n := 61) dX12_board_266 sM_6 (by decide) (inb_in hi62) ?_
            rw [← ew64]
            refine E_iinc (ls' := [some (.ref 0), some (.int (x1_247_5 + 1)), none]) 1 dX12_board_267 rfl ic_1 rfl rfl rfl ?_
            refine E_goto 247 dX12_board_270 (by decide) ?_
            obtain rfl := Option.some.inj hf
            exact k9
        · skip
          obtain ⟨w66, hq9⟩ : ∃ a, a = q := ⟨_, rfl⟩
          subst hq9
          try dsimp only at hf
          show E PM RX12 cX12_board 3 6 273 [some (.ref 0), none, none] [] w66 Q
          refine E_aload_n (v := 0) dX12_board_273 rfl ?_
          refine E_iconst 0 dX12_board_274 ic_0 ?_
          obtain ⟨w67, ew67, hf⟩ := lw_some hf
          try dsimp only at hf
          refine E_putI fp_RX12_217 dX12_board_275 sM_0 rfl rfl rfl ?_
          rw [← ew67]
          refine E_aload_n (v := 0) dX12_board_278 rfl ?_
          refine E_iconst 0 dX12_board_279 ic_0 ?_
          obtain ⟨w68, ew68, hf⟩ := lw_some hf
          try dsimp only at hf
          refine E_putI fp_RX12_220 dX12_board_280 sM_0 rfl rfl rfl ?_
          rw [← ew68]
          refine E_aload_n (v := 0) dX12_board_283 rfl ?_
          refine E_iconst 0 dX12_board_284 ic_0 ?_
          obtain ⟨w69, ew69, hf⟩ := lw_some hf
          try dsimp only at hf
          refine E_putI fp_RX12_223 dX12_board_285 sM_0 rfl rfl rfl ?_
          rw [← ew69]
          refine E_aload_n (v := 0) dX12_board_288 rfl ?_
          refine E_iconst 0 dX12_board_289 ic_0 ?_
          obtain ⟨w70, ew70, hf⟩ := lw_some hf
          try dsimp only at hf
          refine E_putI fp_RX12_226 dX12_board_290 sM_0 rfl rfl rfl ?_
          rw [← ew70]
          refine E_aload_n (v := 0) dX12_board_293 rfl ?_
          refine E_iconst 0 dX12_board_294 ic_0 ?_
          obtain ⟨w71, ew71, hf⟩ := lw_some hf
          try dsimp only at hf
          refine E_putI fp_RX12_229 dX12_board_295 sM_0 rfl rfl rfl ?_
          rw [← ew71]
          refine E_aload_n (v := 0) dX12_board_298 rfl ?_
          refine E_getI fg_RX12_96 dX12_board_299 sM_0 rfl ?_
          obtain ⟨rfl, rfl⟩ := ret2 hf
          exact E.done (by rw [eQ]; exact ⟨rfl, Or.inl ⟨_, _, rfl, rfl, dX12_board_302, rfl, rfl⟩⟩)
set_option maxRecDepth 10000 in
set_option maxHeartbeats 2000000 in
theorem MX12_board {N : Nat} {w : AW} {rZ : Int32} {wZ : AW} (hf : fX12_board N w = some (rZ, wZ)) : CallOK PM yX12_board cX12_board 3 (some .int) 6 [.ref 0] w (some (.int rZ)) wZ := by
  refine CallOK.of (ls := [some (.ref 0), none, none]) (by decide) (by simp) rfl rfl ?_
  obtain ⟨Q, eQ⟩ : ∃ Q, Q = Qret cX12_board (some .int) (some (.int rZ)) wZ := ⟨_, rfl⟩
  rw [← eQ]
  unfold fX12_board at hf
  refine E_aload_n (v := 0) dX12_board_0 rfl ?_
  refine E_iconst 0 dX12_board_1 ic_0 ?_
  obtain ⟨w1, ew1, hf⟩ := lw_some hf
  try dsimp only at hf
  refine E_putI fp_RX12_116 dX12_board_2 sM_0 rfl rfl rfl ?_
  rw [← ew1]
  refine E_aload_n (v := 0) dX12_board_5 rfl ?_
  refine E_iconst 1 dX12_board_6 ic_1 ?_
  obtain ⟨w2, ew2, hf⟩ := lw_some hf
  try dsimp only at hf
  refine E_putI fp_RX12_170 dX12_board_7 sM_0 rfl rfl rfl ?_
  rw [← ew2]
  refine E_aload_n (v := 0) dX12_board_10 rfl ?_
  refine E_iconst 0 dX12_board_11 ic_0 ?_
  obtain ⟨w3, ew3, hf⟩ := lw_some hf
  try dsimp only at hf
  refine E_putI fp_RX12_180 dX12_board_12 sM_0 rfl rfl rfl ?_
  rw [← ew3]
  refine E_iconst 0 dX12_board_15 ic_0 ?_
  refine E_istore_n (ls' := [some (.ref 0), some (.int 0), none]) dX12_board_16 rfl rfl rfl ?_
  obtain ⟨q, hw7, hf⟩ := bd_some hf
  try dsimp only at hf
  show (fun (s : Int32 × AW) => E PM RX12 cX12_board 3 6 17 [some (.ref 0), some (.int s.1), none] [] s.2 Q) (0, w3)
  refine wh_E (K := (fun (s : Int32 × AW) => E PM RX12 cX12_board 3 6 17 [some (.ref 0), some (.int s.1), none] [] s.2 Q)) (X := (fun (s : AW) => E PM RX12 cX12_board 3 6 40 [some (.ref 0), none, none] [] s Q)) ?_ hw7 ?_
  · intro s9 z9 hf k9
    obtain ⟨x1_17_1, w_17_1⟩ := s9
    dsimp only [lbX12_board_17_1] at hf
    show E PM RX12 cX12_board 3 6 17 [some (.ref 0), some (.int x1_17_1), none] [] w_17_1 Q
    refine E_iload_n (v := x1_17_1) dX12_board_17 rfl ?_
    refine E_iconst 4 dX12_board_18 ic_4 ?_
    refine E_icmp_ge 40 dX12_board_19 (by decide) (fun hc4 => ?_) (fun hc4 => ?_)
    · rw [if_pos hc4] at hf
      obtain rfl := Option.some.inj hf
      refine E.fewer (ls' := [some (.ref 0), none, none]) ⟨Or.inr rfl, ⟨Or.inl rfl, ⟨Or.inl rfl, trivial⟩⟩⟩ ?_
      exact k9
    · rw [if_neg hc4] at hf
      refine E_aload_n (v := 0) dX12_board_22 rfl ?_
      refine E_getR fg_RX12_44 dX12_board_23 sM_0 rfl rM_0_24 (Nat.succ_ne_zero _) ?_
      refine E_iload_n (v := x1_17_1) dX12_board_26 rfl ?_
      refine E_aload_n (v := 0) dX12_board_27 rfl ?_
      refine E_getR fg_RX12_13 dX12_board_28 sM_0 rfl rM_0_2 (Nat.succ_ne_zero _) ?_
      refine E_iload_n (v := x1_17_1) dX12_board_31 rfl ?_
      obtain ⟨hi5, hf⟩ := gd_some hf
      refine E_iald (n := 4) dX12_board_32 sM_2 (by decide) (inb_in hi5) ?_
      obtain ⟨w6, ew6, hf⟩ := lw_some hf
      try dsimp only at hf
      refine E_iast (n := 4) dX12_board_33 sM_11 (by decide) (inb_in hi5) ?_
      rw [← ew6]
      refine E_iinc (ls' := [some (.ref 0), some (.int (x1_17_1 + 1)), none]) 1 dX12_board_34 rfl ic_1 rfl rfl rfl ?_
      refine E_goto 17 dX12_board_37 (by decide) ?_
      obtain rfl := Option.some.inj hf
      exact k9
  · skip
    obtain ⟨w8, hq9⟩ : ∃ a, a = q := ⟨_, rfl⟩
    subst hq9
    try dsimp only at hf
    show E PM RX12 cX12_board 3 6 40 [some (.ref 0), none, none] [] w8 Q
    refine E_aload_n (v := 0) dX12_board_40 rfl ?_
    obtain ⟨w10, hc9, hf⟩ := bd_some hf
    try dsimp only at hf
    refine E_callVv (rest := []) (ci := 12) cv_RX12_174 dX12_board_41 (MX12_advance hc9) rfl sM_0 rfl (by decide) rfl rfl (fun _ => Nat.le_of_ble_eq_true rfl) ?_
    obtain ⟨q, hw39, hf⟩ := bd_some hf
    try dsimp only at hf
    show (fun (s : AW) => E PM RX12 cX12_board 3 6 44 [some (.ref 0), none, none] [] s Q) w10
    refine wh_E (K := (fun (s : AW) => E PM RX12 cX12_board 3 6 44 [some (.ref 0), none, none] [] s Q)) (X := (fun (s : AW) => E PM RX12 cX12_board 3 6 122 [some (.ref 0), none, none] [] s Q)) ?_ hw39 ?_
    · intro s9 z9 hf k9
      obtain ⟨w_44_2, hs9⟩ : ∃ a, a = s9 := ⟨_, rfl⟩
      subst hs9
      dsimp only [lbX12_board_44_2] at hf
      show E PM RX12 cX12_board 3 6 44 [some (.ref 0), none, none] [] w_44_2 Q
      refine E_aload_n (v := 0) dX12_board_44 rfl ?_
      refine E_getI fg_RX12_170 dX12_board_45 sM_0 rfl ?_
      refine E_if_eq 122 dX12_board_48 (by decide) (fun hc11 => ?_) (fun hc11 => ?_)
      · rw [if_pos hc11] at hf
        obtain rfl := Option.some.inj hf
        exact k9
      · rw [if_neg hc11] at hf
        refine E_aload_n (v := 0) dX12_board_51 rfl ?_
        refine E_getI fg_RX12_132 dX12_board_52 sM_0 rfl ?_
        refine E_if_eq 122 dX12_board_55 (by decide) (fun hc12 => ?_) (fun hc12 => ?_)
        · rw [if_pos hc12] at hf
          obtain rfl := Option.some.inj hf
          exact k9
        · rw [if_neg hc12] at hf
          refine E_aload_n (v := 0) dX12_board_58 rfl ?_
          obtain ⟨r14, hc13, hf⟩ := bd_some hf
          try dsimp only at hf
          refine E_callVi (rest := []) (ci := 12) cv_RX12_199 dX12_board_59 (MX12_kindHere hc13) rfl sM_0 rfl (by decide) rfl rfl (fun _ => Nat.le_of_ble_eq_true rfl) ?_
          refine E_if_ge 73 dX12_board_62 (by decide) (fun hc15 => ?_) (fun hc15 => ?_)
          · rw [if_pos hc15] at hf
            refine E_aload_n (v := 0) dX12_board_73 rfl ?_
            refine E_aload_n (v := 0) dX12_board_74 rfl ?_
            refine E_getI fg_RX12_132 dX12_board_75 sM_0 rfl ?_
            refine E_iconst 2 dX12_board_78 ic_2 ?_
            refine E_icmp_ne 86 dX12_board_79 (by decide) (fun hc16 => ?_) (fun hc16 => ?_)
            · rw [if_pos hc16] at hf
              refine E_iconst 0 dX12_board_82 ic_0 ?_
              refine E_goto 90 dX12_board_83 (by decide) ?_
              obtain ⟨w18, hc17, hf⟩ := bd_some hf
              try dsimp only at hf
              refine E_callVv (rest := []) (ci := 12) cv_RX12_203 dX12_board_90 (MX12_wantJob hc17) rfl sM_0 rfl (by decide) rfl rfl (fun _ => Nat.le_of_ble_eq_true rfl) ?_
              refine E_goto 44 dX12_board_93 (by decide) ?_
              obtain rfl := Option.some.inj hf
              exact k9
            · rw [if_neg hc16] at hf
              refine E_aload_n (v := 0) dX12_board_86 rfl ?_
              obtain ⟨r20, hc19, hf⟩ := bd_some hf
              try dsimp only at hf
              refine E_callVi (rest := [.ref 0]) (ci := 12) cv_RX12_199 dX12_board_87 (MX12_kindHere hc19) rfl sM_0 rfl (by decide) rfl rfl (fun _ => Nat.le_of_ble_eq_true rfl) ?_
              obtain ⟨w22, hc21, hf⟩ := bd_some hf
              try dsimp only at hf
              refine E_callVv (rest := []) (ci := 12) cv_RX12_203 dX12_board_90 (MX12_wantJob hc21) rfl sM_0 rfl (by decide) rfl rfl (fun _ => Nat.le_of_ble_eq_true rfl) ?_
              refine E_goto 44 dX12_board_93 (by decide) ?_
              obtain rfl := Option.some.inj hf
              exact k9
          · rw [if_neg hc15] at hf
            refine E_aload_n (v := 0) dX12_board_65 rfl ?_
            refine E_getI fg_RX12_132 dX12_board_66 sM_0 rfl ?_
            refine E_iconst 2 dX12_board_69 ic_2 ?_
            refine E_icmp_ne 96 dX12_board_70 (by decide) (fun hc23 => ?_) (fun hc23 => ?_)
            · rw [if_pos hc23] at hf
              refine E_aload_n (v := 0) dX12_board_73 rfl ?_
              refine E_aload_n (v := 0) dX12_board_74 rfl ?_
              refine E_getI fg_RX12_132 dX12_board_75 sM_0 rfl ?_
              refine E_iconst 2 dX12_board_78 ic_2 ?_
              refine E_icmp_ne 86 dX12_board_79 (by decide) (fun hc24 => ?_) (fun hc24 => ?_)
              · rw [if_pos hc24] at hf
                refine E_iconst 0 dX12_board_82 ic_0 ?_
                refine E_goto 90 dX12_board_83 (by decide) ?_
                obtain ⟨w26, hc25, hf⟩ := bd_some hf
                try dsimp only at hf
                refine E_callVv (rest := []) (ci := 12) cv_RX12_203 dX12_board_90 (MX12_wantJob hc25) rfl sM_0 rfl (by decide) rfl rfl (fun _ => Nat.le_of_ble_eq_true rfl) ?_
                refine E_goto 44 dX12_board_93 (by decide) ?_
                obtain rfl := Option.some.inj hf
                exact k9
              · rw [if_neg hc24] at hf
                refine E_aload_n (v := 0) dX12_board_86 rfl ?_
                obtain ⟨r28, hc27, hf⟩ := bd_some hf
                try dsimp only at hf
                refine E_callVi (rest := [.ref 0]) (ci := 12) cv_RX12_199 dX12_board_87 (MX12_kindHere hc27) rfl sM_0 rfl (by decide) rfl rfl (fun _ => Nat.le_of_ble_eq_true rfl) ?_
                obtain ⟨w30, hc29, hf⟩ := bd_some hf
                try dsimp only at hf
                refine E_callVv (rest := []) (ci := 12) cv_RX12_203 dX12_board_90 (MX12_wantJob hc29) rfl sM_0 rfl (by decide) rfl rfl (fun _ => Nat.le_of_ble_eq_true rfl) ?_
                refine E_goto 44 dX12_board_93 (by decide) ?_
                obtain rfl := Option.some.inj hf
                exact k9
            · rw [if_neg hc23] at hf
              refine E_aload_n (v := 0) dX12_board_96 rfl ?_
              obtain ⟨r32, hc31, hf⟩ := bd_some hf
              try dsimp only at hf
              refine E_callVi (rest := []) (ci := 12) cv_RX12_207 dX12_board_97 (MX12_lawHere hc31) rfl sM_0 rfl (by decide) rfl rfl (fun _ => Nat.le_of_ble_eq_true rfl) ?_
              refine E_if_lt 114 dX12_board_100 (by decide) (fun hc33 => ?_) (fun hc33 => ?_)
              · rw [if_pos hc33] at hf
                refine E_aload_n (v := 0) dX12_board_114 rfl ?_
                refine E_iconst 0 dX12_board_115 ic_0 ?_
                obtain ⟨w34, ew34, hf⟩ := lw_some hf
                try dsimp only at hf
                refine E_putI fp_RX12_170 dX12_board_116 sM_0 rfl rfl rfl ?_
                rw [← ew34]
                refine E_goto 44 dX12_board_119 (by decide) ?_
                obtain rfl := Option.some.inj hf
                exact k9
              · rw [if_neg hc33] at hf
                refine E_aload_n (v := 0) dX12_board_103 rfl ?_
                refine E_aload_n (v := 0) dX12_board_104 rfl ?_
                obtain ⟨r36, hc35, hf⟩ := bd_some hf
                try dsimp only at hf
                refine E_callVi (rest := [.ref 0]) (ci := 12) cv_RX12_207 dX12_board_105 (MX12_lawHere hc35) rfl sM_0 rfl (by decide) rfl rfl (fun _ => Nat.le_of_ble_eq_true rfl) ?_
                obtain ⟨w38, hc37, hf⟩ := bd_some hf
                try dsimp only at hf
                refine E_callVv (rest := []) (ci := 12) cv_RX12_210 dX12_board_108 (MX12_wantLaw hc37) rfl sM_0 rfl (by decide) rfl rfl (fun _ => Nat.le_of_ble_eq_true rfl) ?_
                refine E_goto 44 dX12_board_111 (by decide) ?_
                obtain rfl := Option.some.inj hf
                exact k9
    · skip
      obtain ⟨w40, hq9⟩ : ∃ a, a = q := ⟨_, rfl⟩
      subst hq9
      try dsimp only at hf
      show E PM RX12 cX12_board 3 6 122 [some (.ref 0), none, none] [] w40 Q
      exact BX12_board_122 N w40  rZ wZ eQ hf
set_option maxRecDepth 10000 in
set_option maxHeartbeats 2000000 in
theorem MX12_worksAll {N : Nat} {a0 : Int32} {a1 : Int32} {a2 : Int32} {w : AW} {wZ : AW} (hf : fX12_worksAll N a0 a1 a2 w = some wZ) : CallOK PM yX12_worksAll cX12_worksAll 4 none 4 [.ref 0, .int a0, .int a1, .int a2] w none wZ := by
  refine CallOK.of (ls := [some (.ref 0), some (.int a0), some (.int a1), some (.int a2)]) (by decide) (by simp) rfl rfl ?_
  obtain ⟨Q, eQ⟩ : ∃ Q, Q = Qret cX12_worksAll none none wZ := ⟨_, rfl⟩
  rw [← eQ]
  unfold fX12_worksAll at hf
  refine E_aload_n (v := 0) dX12_worksAll_0 rfl ?_
  refine E_iload_n (v := a0) dX12_worksAll_1 rfl ?_
  refine E_iload_n (v := a0) dX12_worksAll_2 rfl ?_
  refine E_iload_n (v := a1) dX12_worksAll_3 rfl ?_
  refine E_iload_n (v := a2) dX12_worksAll_4 rfl ?_
  obtain ⟨w2, hc1, hf⟩ := bd_some hf
  try dsimp only at hf
  refine E_callVv (rest := []) (ci := 12) cv_RX12_257 dX12_worksAll_5 (MX12_worksMany hc1) rfl sM_0 rfl (by decide) rfl rfl (fun _ => Nat.le_of_ble_eq_true rfl) ?_
  obtain rfl := Option.some.inj hf
  exact E.done (by rw [eQ]; exact ⟨rfl, Or.inr ⟨rfl, rfl, dX12_worksAll_8, rfl⟩⟩)
set_option maxRecDepth 10000 in
set_option maxHeartbeats 2000000 in
theorem MX12_byPlan {N : Nat} {w : AW} {wZ : AW} (hf : fX12_byPlan N w = some wZ) : CallOK PM yX12_byPlan cX12_byPlan 2 none 5 [.ref 0] w none wZ := by
  refine CallOK.of (ls := [some (.ref 0), none]) (by decide) (by simp) rfl rfl ?_
  obtain ⟨Q, eQ⟩ : ∃ Q, Q = Qret cX12_byPlan none none wZ := ⟨_, rfl⟩
  rw [← eQ]
  unfold fX12_byPlan at hf
  refine E_iconst 0 dX12_byPlan_0 ic_0 ?_
  refine E_istore_n (ls' := [some (.ref 0), some (.int 0)]) dX12_byPlan_1 rfl rfl rfl ?_
  obtain ⟨q, hw4, hf⟩ := bd_some hf
  try dsimp only at hf
  show (fun (s : Int32 × AW) => E PM RX12 cX12_byPlan 2 5 2 [some (.ref 0), some (.int s.1)] [] s.2 Q) (0, w)
  refine wh_E (K := (fun (s : Int32 × AW) => E PM RX12 cX12_byPlan 2 5 2 [some (.ref 0), some (.int s.1)] [] s.2 Q)) (X := (fun (s : AW) => E PM RX12 cX12_byPlan 2 5 28 [some (.ref 0), none] [] s Q)) ?_ hw4 ?_
  · intro s9 z9 hf k9
    obtain ⟨x1_2_1, w_2_1⟩ := s9
    dsimp only [lbX12_byPlan_2_1] at hf
    show E PM RX12 cX12_byPlan 2 5 2 [some (.ref 0), some (.int x1_2_1)] [] w_2_1 Q
    refine E_iload_n (v := x1_2_1) dX12_byPlan_2 rfl ?_
    refine E_aload_n (v := 0) dX12_byPlan_3 rfl ?_
    refine E_getI fg_RX12_96 dX12_byPlan_4 sM_0 rfl ?_
    refine E_icmp_ge 28 dX12_byPlan_7 (by decide) (fun hc1 => ?_) (fun hc1 => ?_)
    · rw [if_pos hc1] at hf
      obtain rfl := Option.some.inj hf
      refine E.fewer (ls' := [some (.ref 0), none]) ⟨Or.inr rfl, ⟨Or.inl rfl, trivial⟩⟩ ?_
      exact k9
    · rw [if_neg hc1] at hf
      refine E_aload_n (v := 0) dX12_byPlan_10 rfl ?_
      refine E_getR fg_RX12_47 dX12_byPlan_11 sM_0 rfl rM_0_26 (Nat.succ_ne_zero _) ?_
      refine E_iload_n (v := x1_2_1) dX12_byPlan_14 rfl ?_
      refine E_aload_n (v := 0) dX12_byPlan_15 rfl ?_
      refine E_getR fg_RX12_28 dX12_byPlan_16 sM_0 rfl rM_0_11 (Nat.succ_ne_zero _) ?_
      refine E_iload_n (v := x1_2_1) dX12_byPlan_19 rfl ?_
      obtain ⟨hi2, hf⟩ := gd_some hf
      refine E_iald (n := 8) dX12_byPlan_20 sM_7 (by decide) (inb_in hi2) ?_
      obtain ⟨w3, ew3, hf⟩ := lw_some hf
      try dsimp only at hf
      refine E_iast (n := 8) dX12_byPlan_21 sM_12 (by decide) (inb_in hi2) ?_
      rw [← ew3]
      refine E_iinc (ls' := [some (.ref 0), some (.int (x1_2_1 + 1))]) 1 dX12_byPlan_22 rfl ic_1 rfl rfl rfl ?_
      refine E_goto 2 dX12_byPlan_25 (by decide) ?_
      obtain rfl := Option.some.inj hf
      exact k9
  · skip
    obtain ⟨w5, hq9⟩ : ∃ a, a = q := ⟨_, rfl⟩
    subst hq9
    try dsimp only at hf
    show E PM RX12 cX12_byPlan 2 5 28 [some (.ref 0), none] [] w5 Q
    refine E_aload_n (v := 0) dX12_byPlan_28 rfl ?_
    refine E_aload_n (v := 0) dX12_byPlan_29 rfl ?_
    refine E_getI fg_RX12_96 dX12_byPlan_30 sM_0 rfl ?_
    refine E_iconst 0 dX12_byPlan_33 ic_0 ?_
    refine E_iconst 0 dX12_byPlan_34 ic_0 ?_
    obtain ⟨w7, hc6, hf⟩ := bd_some hf
    try dsimp only at hf
    refine E_callVv (rest := []) (ci := 12) cv_RX12_267 dX12_byPlan_35 (MX12_worksAll hc6) rfl sM_0 rfl (by decide) rfl rfl (fun _ => Nat.le_of_ble_eq_true rfl) ?_
    obtain rfl := Option.some.inj hf
    exact E.done (by rw [eQ]; exact ⟨rfl, Or.inr ⟨rfl, rfl, dX12_byPlan_38, rfl⟩⟩)
set_option maxRecDepth 10000 in
set_option maxHeartbeats 2000000 in
theorem MX12_comes {N : Nat} {w : AW} {rZ : Int32} {wZ : AW} (hf : fX12_comes N w = some (rZ, wZ)) : CallOK PM yX12_comes cX12_comes 4 (some .int) 2 [.ref 0] w (some (.int rZ)) wZ := by
  refine CallOK.of (ls := [some (.ref 0), none, none, none]) (by decide) (by simp) rfl rfl ?_
  obtain ⟨Q, eQ⟩ : ∃ Q, Q = Qret cX12_comes (some .int) (some (.int rZ)) wZ := ⟨_, rfl⟩
  rw [← eQ]
  unfold fX12_comes at hf
  refine E_aload_n (v := 0) dX12_comes_0 rfl ?_
  refine E_aload_n (v := 0) dX12_comes_1 rfl ?_
  refine E_getI fg_RX12_34 dX12_comes_2 sM_0 rfl ?_
  refine E_ldcw 1103515245 dX12_comes_5 wk_RX12_342 ?_
  refine E_imul dX12_comes_8 ?_
  refine E_sipush 12345 dX12_comes_9 sp_12345 ?_
  refine E_iadd dX12_comes_12 ?_
  obtain ⟨w1, ew1, hf⟩ := lw_some hf
  try dsimp only at hf
  refine E_putI fp_RX12_34 dX12_comes_13 sM_0 rfl rfl rfl ?_
  rw [← ew1]
  refine E_aload_n (v := 0) dX12_comes_16 rfl ?_
  refine E_getI fg_RX12_34 dX12_comes_17 sM_0 rfl ?_
  refine E_bipush 16 dX12_comes_20 bp_16 ?_
  refine E_iushr dX12_comes_22 ?_
  refine E_iconst 4 dX12_comes_23 ic_4 ?_
  refine E_irem dX12_comes_24 (by decide) ?_
  obtain ⟨v2, ev2, hf⟩ := lw_some hf
  try dsimp only at hf
  rw [← ev2]
  refine E_istore_n (ls' := [some (.ref 0), some (.int v2), none, none]) dX12_comes_25 rfl rfl rfl ?_
  refine E_iconst 0 dX12_comes_26 ic_0 ?_
  refine E_istore_n (ls' := [some (.ref 0), some (.int v2), some (.int 0), none]) dX12_comes_27 rfl rfl rfl ?_
  refine E_iconst 0 dX12_comes_28 ic_0 ?_
  refine E_istore_n (ls' := [some (.ref 0), some (.int v2), some (.int 0), some (.int 0)]) dX12_comes_29 rfl rfl rfl ?_
  obtain ⟨q, hw7, hf⟩ := bd_some hf
  try dsimp only at hf
  show (fun (s : Int32 × Int32) => E PM RX12 cX12_comes 4 2 30 [some (.ref 0), some (.int v2), some (.int s.1), some (.int s.2)] [] w1 Q) (0, 0)
  refine wh_E (K := (fun (s : Int32 × Int32) => E PM RX12 cX12_comes 4 2 30 [some (.ref 0), some (.int v2), some (.int s.1), some (.int s.2)] [] w1 Q)) (X := (se (fun (s : Unit) => E PM RX12 cX12_comes 4 2 60 [none, none, none, none] [] w1 Q) (fun (s : Int32) => E PM RX12 cX12_comes 4 2 52 [none, none, none, some (.int s)] [] w1 Q))) ?_ hw7 ?_
  · intro s9 z9 hf k9
    obtain ⟨x2_30_1, x3_30_1⟩ := s9
    dsimp only [lbX12_comes_30_1] at hf
    show E PM RX12 cX12_comes 4 2 30 [some (.ref 0), some (.int v2), some (.int x2_30_1), some (.int x3_30_1)] [] w1 Q
    refine E_iload_n (v := x3_30_1) dX12_comes_30 rfl ?_
    refine E_aload_n (v := 0) dX12_comes_31 rfl ?_
    refine E_getI fg_RX12_324 dX12_comes_32 sM_0 rfl ?_
    refine E_icmp_ge 60 dX12_comes_35 (by decide) (fun hc3 => ?_) (fun hc3 => ?_)
    · rw [if_pos hc3] at hf
      obtain rfl := Option.some.inj hf
      refine E.fewer (ls' := [none, none, none, none]) ⟨Or.inl rfl, ⟨Or.inl rfl, ⟨Or.inl rfl, ⟨Or.inl rfl, trivial⟩⟩⟩⟩ ?_
      exact k9
    · rw [if_neg hc3] at hf
      refine E_iload_n (v := x2_30_1) dX12_comes_38 rfl ?_
      refine E_aload_n (v := 0) dX12_comes_39 rfl ?_
      refine E_iload_n (v := x3_30_1) dX12_comes_40 rfl ?_
      refine E_iconst 5 dX12_comes_41 ic_5 ?_
      obtain ⟨r5, hc4, hf⟩ := bd_some hf
      try dsimp only at hf
      refine E_callVi (rest := [.int x2_30_1]) (ci := 12) cv_RX12_327 dX12_comes_42 (MX12_typeIts hc4) rfl sM_0 rfl (by decide) rfl rfl (fun _ => Nat.le_of_ble_eq_true rfl) ?_
      refine E_iadd dX12_comes_45 ?_
      refine E_istore_n (ls' := [some (.ref 0), some (.int v2), some (.int (x2_30_1 + r5)), some (.int x3_30_1)]) dX12_comes_46 rfl rfl rfl ?_
      refine E_iload_n (v := v2) dX12_comes_47 rfl ?_
      refine E_iload_n (v := (x2_30_1 + r5)) dX12_comes_48 rfl ?_
      refine E_icmp_ge 54 dX12_comes_49 (by decide) (fun hc6 => ?_) (fun hc6 => ?_)
      · rw [if_pos hc6] at hf
        refine E_iinc (ls' := [some (.ref 0), some (.int v2), some (.int (x2_30_1 + r5)), some (.int (x3_30_1 + 1))]) 1 dX12_comes_54 rfl ic_1 rfl rfl rfl ?_
        refine E_goto 30 dX12_comes_57 (by decide) ?_
        obtain rfl := Option.some.inj hf
        exact k9
      · rw [if_neg hc6] at hf
        obtain rfl := Option.some.inj hf
        refine E.fewer (ls' := [none, none, none, some (.int x3_30_1)]) ⟨Or.inl rfl, ⟨Or.inl rfl, ⟨Or.inl rfl, ⟨Or.inr rfl, trivial⟩⟩⟩⟩ ?_
        exact k9
  · skip
    rcases q with q | q
    · dsimp only [se] at hf
      try dsimp only at hf
      show E PM RX12 cX12_comes 4 2 60 [none, none, none, none] [] w1 Q
      refine E_bipush (-9) dX12_comes_60 bp_m9 ?_
      obtain ⟨rfl, rfl⟩ := ret2 hf
      exact E.done (by rw [eQ]; exact ⟨rfl, Or.inl ⟨_, _, rfl, rfl, dX12_comes_62, rfl, rfl⟩⟩)
    · dsimp only [se] at hf
      obtain ⟨y8, hq9⟩ : ∃ a, a = q := ⟨_, rfl⟩
      subst hq9
      try dsimp only at hf
      show E PM RX12 cX12_comes 4 2 52 [none, none, none, some (.int y8)] [] w1 Q
      refine E_iload_n (v := y8) dX12_comes_52 rfl ?_
      obtain ⟨rfl, rfl⟩ := ret2 hf
      exact E.done (by rw [eQ]; exact ⟨rfl, Or.inl ⟨_, _, rfl, rfl, dX12_comes_53, rfl, rfl⟩⟩)
set_option maxRecDepth 10000 in
set_option maxHeartbeats 2000000 in
theorem MX12_goesAway {N : Nat} {a0 : Int32} {w : AW} {wZ : AW} (hf : fX12_goesAway N a0 w = some wZ) : CallOK PM yX12_goesAway cX12_goesAway 5 none 1 [.ref 0, .int a0] w none wZ := by
  refine CallOK.of (ls := [some (.ref 0), some (.int a0), none, none, none]) (by decide) (by simp) rfl rfl ?_
  obtain ⟨Q, eQ⟩ : ∃ Q, Q = Qret cX12_goesAway none none wZ := ⟨_, rfl⟩
  rw [← eQ]
  unfold fX12_goesAway at hf
  refine E_iconst 5 dX12_goesAway_0 ic_5 ?_
  refine E_iload_n (v := a0) dX12_goesAway_1 rfl ?_
  refine E_imul dX12_goesAway_2 ?_
  refine E_istore_n (ls' := [some (.ref 0), some (.int a0), some (.int (5 * a0)), none, none]) dX12_goesAway_3 rfl rfl rfl ?_
  obtain ⟨q, hw5, hf⟩ := bd_some hf
  try dsimp only at hf
  show (fun (s : Int32 × AW) => E PM RX12 cX12_goesAway 5 1 4 [some (.ref 0), some (.int a0), some (.int s.1), none, none] [] s.2 Q) ((5 * a0), w)
  refine wh_E (K := (fun (s : Int32 × AW) => E PM RX12 cX12_goesAway 5 1 4 [some (.ref 0), some (.int a0), some (.int s.1), none, none] [] s.2 Q)) (X := (fun (s : AW) => E PM RX12 cX12_goesAway 5 1 36 [some (.ref 0), some (.int a0), none, none, none] [] s Q)) ?_ hw5 ?_
  · intro s9 z9 hf k9
    obtain ⟨x2_4_1, w_4_1⟩ := s9
    dsimp only [lbX12_goesAway_4_1] at hf
    show E PM RX12 cX12_goesAway 5 1 4 [some (.ref 0), some (.int a0), some (.int x2_4_1), none, none] [] w_4_1 Q
    refine E_iload_n (v := x2_4_1) dX12_goesAway_4 rfl ?_
    refine E_iconst 5 dX12_goesAway_5 ic_5 ?_
    refine E_aload_n (v := 0) dX12_goesAway_6 rfl ?_
    refine E_getI fg_RX12_96 dX12_goesAway_7 sM_0 rfl ?_
    refine E_iconst 1 dX12_goesAway_10 ic_1 ?_
    refine E_isub dX12_goesAway_11 ?_
    refine E_imul dX12_goesAway_12 ?_
    refine E_icmp_ge 36 dX12_goesAway_13 (by decide) (fun hc1 => ?_) (fun hc1 => ?_)
    · rw [if_pos hc1] at hf
      obtain rfl := Option.some.inj hf
      refine E.fewer (ls' := [some (.ref 0), some (.int a0), none, none, none]) ⟨Or.inr rfl, ⟨Or.inr rfl, ⟨Or.inl rfl, ⟨Or.inl rfl, ⟨Or.inl rfl, trivial⟩⟩⟩⟩⟩ ?_
      exact k9
    · rw [if_neg hc1] at hf
      refine E_aload_n (v := 0) dX12_goesAway_16 rfl ?_
      refine E_getR fg_RX12_7 dX12_goesAway_17 sM_0 rfl rM_0_1 (Nat.succ_ne_zero _) ?_
      refine E_iload_n (v := x2_4_1) dX12_goesAway_20 rfl ?_
      refine E_aload_n (v := 0) dX12_goesAway_21 rfl ?_
      refine E_getR fg_RX12_7 dX12_goesAway_22 sM_0 rfl rM_0_1 (Nat.succ_ne_zero _) ?_
      refine E_iload_n (v := x2_4_1) dX12_goesAway_25 rfl ?_
      refine E_iconst 5 dX12_goesAway_26 ic_5 ?_
      refine E_iadd dX12_goesAway_27 ?_
      obtain ⟨hi2, hf⟩ := gd_some hf
      refine E_iald (n := 50) dX12_goesAway_28 sM_1 (by decide) (inb_in hi2) ?_
      obtain ⟨hi3, hf⟩ := gd_some hf
      obtain ⟨w4, ew4, hf⟩ := lw_some hf
      try dsimp only at hf
      refine E_iast (n := 50) dX12_goesAway_29 sM_1 (by decide) (inb_in hi3) ?_
      rw [← ew4]
      refine E_iinc (ls' := [some (.ref 0), some (.int a0), some (.int (x2_4_1 + 1)), none, none]) 1 dX12_goesAway_30 rfl ic_1 rfl rfl rfl ?_
      refine E_goto 4 dX12_goesAway_33 (by decide) ?_
      obtain rfl := Option.some.inj hf
      exact k9
  · skip
    obtain ⟨w6, hq9⟩ : ∃ a, a = q := ⟨_, rfl⟩
    subst hq9
    try dsimp only at hf
    show E PM RX12 cX12_goesAway 5 1 36 [some (.ref 0), some (.int a0), none, none, none] [] w6 Q
    refine E_iconst 0 dX12_goesAway_36 ic_0 ?_
    refine E_istore_n (ls' := [some (.ref 0), some (.int a0), some (.int 0), none, none]) dX12_goesAway_37 rfl rfl rfl ?_
    refine E_iconst 0 dX12_goesAway_38 ic_0 ?_
    refine E_istore_n (ls' := [some (.ref 0), some (.int a0), some (.int 0), some (.int 0), none]) dX12_goesAway_39 rfl rfl rfl ?_
    obtain ⟨q, hw15, hf⟩ := bd_some hf
    try dsimp only at hf
    show (fun (s : Int32 × Int32 × AW) => E PM RX12 cX12_goesAway 5 1 40 [some (.ref 0), some (.int a0), some (.int s.1), some (.int s.2.1), none] [] s.2.2 Q) (0, 0, w6)
    refine wh_E (K := (fun (s : Int32 × Int32 × AW) => E PM RX12 cX12_goesAway 5 1 40 [some (.ref 0), some (.int a0), some (.int s.1), some (.int s.2.1), none] [] s.2.2 Q)) (X := (fun (s : AW) => E PM RX12 cX12_goesAway 5 1 92 [some (.ref 0), none, none, none, none] [] s Q)) ?_ hw15 ?_
    · intro s9 z9 hf k9
      obtain ⟨x2_40_2, x3_40_2, w_40_2⟩ := s9
      dsimp only [lbX12_goesAway_40_2] at hf
      show E PM RX12 cX12_goesAway 5 1 40 [some (.ref 0), some (.int a0), some (.int x2_40_2), some (.int x3_40_2), none] [] w_40_2 Q
      refine E_iload_n (v := x3_40_2) dX12_goesAway_40 rfl ?_
      refine E_aload_n (v := 0) dX12_goesAway_41 rfl ?_
      refine E_getI fg_RX12_96 dX12_goesAway_42 sM_0 rfl ?_
      refine E_icmp_ge 92 dX12_goesAway_45 (by decide) (fun hc7 => ?_) (fun hc7 => ?_)
      · rw [if_pos hc7] at hf
        obtain rfl := Option.some.inj hf
        refine E.fewer (ls' := [some (.ref 0), none, none, none, none]) ⟨Or.inr rfl, ⟨Or.inl rfl, ⟨Or.inl rfl, ⟨Or.inl rfl, ⟨Or.inl rfl, trivial⟩⟩⟩⟩⟩ ?_
        exact k9
      · rw [if_neg hc7] at hf
        refine E_aload_n (v := 0) dX12_goesAway_48 rfl ?_
        refine E_getR fg_RX12_28 dX12_goesAway_49 sM_0 rfl rM_0_11 (Nat.succ_ne_zero _) ?_
        refine E_iload_n (v := x3_40_2) dX12_goesAway_52 rfl ?_
        obtain ⟨hi8, hf⟩ := gd_some hf
        refine E_iald (n := 8) dX12_goesAway_53 sM_7 (by decide) (inb_in hi8) ?_
        refine E_istore (ls' := [some (.ref 0), some (.int a0), some (.int x2_40_2), some (.int x3_40_2), some (.int (w_40_2.1 7 x3_40_2.toNatClampNeg))]) dX12_goesAway_54 rfl rfl rfl ?_
        refine E_iload (v := (w_40_2.1 7 x3_40_2.toNatClampNeg)) dX12_goesAway_56 rfl ?_
        refine E_iload_n (v := a0) dX12_goesAway_58 rfl ?_
        refine E_icmp_eq 86 dX12_goesAway_59 (by decide) (fun hc9 => ?_) (fun hc9 => ?_)
        · rw [if_pos hc9] at hf
          refine E_iinc (ls' := [some (.ref 0), some (.int a0), some (.int x2_40_2), some (.int (x3_40_2 + 1)), some (.int (w_40_2.1 7 x3_40_2.toNatClampNeg))]) 1 dX12_goesAway_86 rfl ic_1 rfl rfl rfl ?_
          refine E_goto 40 dX12_goesAway_89 (by decide) ?_
          obtain rfl := Option.some.inj hf
          refine E.fewer (ls' := [some (.ref 0), some (.int a0), some (.int x2_40_2), some (.int (x3_40_2 + 1)), none]) ⟨Or.inr rfl, ⟨Or.inr rfl, ⟨Or.inr rfl, ⟨Or.inr rfl, ⟨Or.inl rfl, trivial⟩⟩⟩⟩⟩ ?_
          exact k9
        · rw [if_neg hc9] at hf
          refine E_aload_n (v := 0) dX12_goesAway_62 rfl ?_
          refine E_getR fg_RX12_28 dX12_goesAway_63 sM_0 rfl rM_0_11 (Nat.succ_ne_zero _) ?_
          refine E_iload_n (v := x2_40_2) dX12_goesAway_66 rfl ?_
          refine E_iload (v := (w_40_2.1 7 x3_40_2.toNatClampNeg)) dX12_goesAway_67 rfl ?_
          refine E_iload_n (v := a0) dX12_goesAway_69 rfl ?_
          refine E_icmp_le 80 dX12_goesAway_70 (by decide) (fun hc10 => ?_) (fun hc10 => ?_)
          · rw [if_pos hc10] at hf
            refine E_iload (v := (w_40_2.1 7 x3_40_2.toNatClampNeg)) dX12_goesAway_80 rfl ?_
            obtain ⟨hi11, hf⟩ := gd_some hf
            obtain ⟨w12, ew12, hf⟩ := lw_some hf
            try dsimp only at hf
            refine E_iast (n := 8) dX12_goesAway_82 sM_7 (by decide) (inb_in hi11) ?_
            rw [← ew12]
            refine E_iinc (ls' := [some (.ref 0), some (.int a0), some (.int (x2_40_2 + 1)), some (.int x3_40_2), some (.int (w_40_2.1 7 x3_40_2.toNatClampNeg))]) 1 dX12_goesAway_83 rfl ic_1 rfl rfl rfl ?_
            refine E_iinc (ls' := [some (.ref 0), some (.int a0), some (.int (x2_40_2 + 1)), some (.int (x3_40_2 + 1)), some (.int (w_40_2.1 7 x3_40_2.toNatClampNeg))]) 1 dX12_goesAway_86 rfl ic_1 rfl rfl rfl ?_
            refine E_goto 40 dX12_goesAway_89 (by decide) ?_
            obtain rfl := Option.some.inj hf
            refine E.fewer (ls' := [some (.ref 0), some (.int a0), some (.int (x2_40_2 + 1)), some (.int (x3_40_2 + 1)), none]) ⟨Or.inr rfl, ⟨Or.inr rfl, ⟨Or.inr rfl, ⟨Or.inr rfl, ⟨Or.inl rfl, trivial⟩⟩⟩⟩⟩ ?_
            exact k9
          · rw [if_neg hc10] at hf
            refine E_iload (v := (w_40_2.1 7 x3_40_2.toNatClampNeg)) dX12_goesAway_73 rfl ?_
            refine E_iconst 1 dX12_goesAway_75 ic_1 ?_
            refine E_isub dX12_goesAway_76 ?_
            refine E_goto 82 dX12_goesAway_77 (by decide) ?_
            obtain ⟨hi13, hf⟩ := gd_some hf
            obtain ⟨w14, ew14, hf⟩ := lw_some hf
            try dsimp only at hf
            refine E_iast (n := 8) dX12_goesAway_82 sM_7 (by decide) (inb_in hi13) ?_
            rw [← ew14]
            refine E_iinc (ls' := [some (.ref 0), some (.int a0), some (.int (x2_40_2 + 1)), some (.int x3_40_2), some (.int (w_40_2.1 7 x3_40_2.toNatClampNeg))]) 1 dX12_goesAway_83 rfl ic_1 rfl rfl rfl ?_
            refine E_iinc (ls' := [some (.ref 0), some (.int a0), some (.int (x2_40_2 + 1)), some (.int (x3_40_2 + 1)), some (.int (w_40_2.1 7 x3_40_2.toNatClampNeg))]) 1 dX12_goesAway_86 rfl ic_1 rfl rfl rfl ?_
            refine E_goto 40 dX12_goesAway_89 (by decide) ?_
            obtain rfl := Option.some.inj hf
            refine E.fewer (ls' := [some (.ref 0), some (.int a0), some (.int (x2_40_2 + 1)), some (.int (x3_40_2 + 1)), none]) ⟨Or.inr rfl, ⟨Or.inr rfl, ⟨Or.inr rfl, ⟨Or.inr rfl, ⟨Or.inl rfl, trivial⟩⟩⟩⟩⟩ ?_
            exact k9
    · skip
      obtain ⟨w16, hq9⟩ : ∃ a, a = q := ⟨_, rfl⟩
      subst hq9
      try dsimp only at hf
      show E PM RX12 cX12_goesAway 5 1 92 [some (.ref 0), none, none, none, none] [] w16 Q
      refine E_aload_n (v := 0) dX12_goesAway_92 rfl ?_
      refine E_dup_r dX12_goesAway_93 ?_
      refine E_getI fg_RX12_96 dX12_goesAway_94 sM_0 rfl ?_
      refine E_iconst 1 dX12_goesAway_97 ic_1 ?_
      refine E_isub dX12_goesAway_98 ?_
      obtain ⟨w17, ew17, hf⟩ := lw_some hf
      try dsimp only at hf
      refine E_putI fp_RX12_96 dX12_goesAway_99 sM_0 rfl rfl rfl ?_
      rw [← ew17]
      obtain rfl := Option.some.inj hf
      exact E.done (by rw [eQ]; exact ⟨rfl, Or.inr ⟨rfl, rfl, dX12_goesAway_102, rfl⟩⟩)
set_option maxRecDepth 10000 in
set_option maxHeartbeats 2000000 in
theorem MX12_drop {N : Nat} {a0 : Int32} {w : AW} {rZ : Int32} {wZ : AW} (hf : fX12_drop N a0 w = some (rZ, wZ)) : CallOK PM yX12_drop cX12_drop 2 (some .int) 3 [.ref 0, .int a0] w (some (.int rZ)) wZ := by
  refine CallOK.of (ls := [some (.ref 0), some (.int a0)]) (by decide) (by simp) rfl rfl ?_
  obtain ⟨Q, eQ⟩ : ∃ Q, Q = Qret cX12_drop (some .int) (some (.int rZ)) wZ := ⟨_, rfl⟩
  rw [← eQ]
  unfold fX12_drop at hf
  refine E_aload_n (v := 0) dX12_drop_0 rfl ?_
  refine E_iload_n (v := a0) dX12_drop_1 rfl ?_
  obtain ⟨r2, hc1, hf⟩ := bd_some hf
  try dsimp only at hf
  refine E_callVi (rest := []) (ci := 12) cv_RX12_239 dX12_drop_2 (MX12_isJob hc1) rfl sM_0 rfl (by decide) rfl rfl (fun _ => Nat.le_of_ble_eq_true rfl) ?_
  refine E_if_ne 10 dX12_drop_5 (by decide) (fun hc3 => ?_) (fun hc3 => ?_)
  · rw [if_pos hc3] at hf
    refine E_iconst (-1) dX12_drop_8 ic_m1 ?_
    obtain ⟨rfl, rfl⟩ := ret2 hf
    exact E.done (by rw [eQ]; exact ⟨rfl, Or.inl ⟨_, _, rfl, rfl, dX12_drop_9, rfl, rfl⟩⟩)
  · rw [if_neg hc3] at hf
    refine E_aload_n (v := 0) dX12_drop_10 rfl ?_
    refine E_iload_n (v := a0) dX12_drop_11 rfl ?_
    obtain ⟨w5, hc4, hf⟩ := bd_some hf
    try dsimp only at hf
    refine E_callVv (rest := []) (ci := 12) cv_RX12_245 dX12_drop_12 (MX12_goesAway hc4) rfl sM_0 rfl (by decide) rfl rfl (fun _ => Nat.le_of_ble_eq_true rfl) ?_
    refine E_aload_n (v := 0) dX12_drop_15 rfl ?_
    refine E_getI fg_RX12_96 dX12_drop_16 sM_0 rfl ?_
    obtain ⟨rfl, rfl⟩ := ret2 hf
    exact E.done (by rw [eQ]; exact ⟨rfl, Or.inl ⟨_, _, rfl, rfl, dX12_drop_19, rfl, rfl⟩⟩)
set_option maxRecDepth 10000 in
set_option maxHeartbeats 2000000 in
theorem MX12_ends {N : Nat} {a0 : Int32} {w : AW} {rZ : Int32} {wZ : AW} (hf : fX12_ends N a0 w = some (rZ, wZ)) : CallOK PM yX12_ends cX12_ends 2 (some .int) 6 [.ref 0, .int a0] w (some (.int rZ)) wZ := by
  refine CallOK.of (ls := [some (.ref 0), some (.int a0)]) (by decide) (by simp) rfl rfl ?_
  obtain ⟨Q, eQ⟩ : ∃ Q, Q = Qret cX12_ends (some .int) (some (.int rZ)) wZ := ⟨_, rfl⟩
  rw [← eQ]
  unfold fX12_ends at hf
  refine E_aload_n (v := 0) dX12_ends_0 rfl ?_
  refine E_iload_n (v := a0) dX12_ends_1 rfl ?_
  obtain ⟨r2, hc1, hf⟩ := bd_some hf
  try dsimp only at hf
  refine E_callVi (rest := []) (ci := 12) cv_RX12_239 dX12_ends_2 (MX12_isJob hc1) rfl sM_0 rfl (by decide) rfl rfl (fun _ => Nat.le_of_ble_eq_true rfl) ?_
  refine E_if_ne 10 dX12_ends_5 (by decide) (fun hc3 => ?_) (fun hc3 => ?_)
  · rw [if_pos hc3] at hf
    refine E_iconst (-1) dX12_ends_8 ic_m1 ?_
    obtain ⟨rfl, rfl⟩ := ret2 hf
    exact E.done (by rw [eQ]; exact ⟨rfl, Or.inl ⟨_, _, rfl, rfl, dX12_ends_9, rfl, rfl⟩⟩)
  · rw [if_neg hc3] at hf
    refine E_aload_n (v := 0) dX12_ends_10 rfl ?_
    obtain ⟨w5, hc4, hf⟩ := bd_some hf
    try dsimp only at hf
    refine E_callVv (rest := []) (ci := 12) cv_RX12_271 dX12_ends_11 (MX12_byPlan hc4) rfl sM_0 rfl (by decide) rfl rfl (fun _ => Nat.le_of_ble_eq_true rfl) ?_
    refine E_aload_n (v := 0) dX12_ends_14 rfl ?_
    refine E_getR fg_RX12_53 dX12_ends_15 sM_0 rfl rM_0_28 (Nat.succ_ne_zero _) ?_
    refine E_iload_n (v := a0) dX12_ends_18 rfl ?_
    obtain ⟨hi6, hf⟩ := gd_some hf
    refine E_iald (n := 8) dX12_ends_19 sM_14 (by decide) (inb_in hi6) ?_
    obtain ⟨rfl, rfl⟩ := ret2 hf
    exact E.done (by rw [eQ]; exact ⟨rfl, Or.inl ⟨_, _, rfl, rfl, dX12_ends_20, rfl, rfl⟩⟩)
set_option maxRecDepth 10000 in
set_option maxHeartbeats 2000000 in
theorem MX12_feed {N : Nat} {a0 : Int64} {a1 : Int32} {w : AW} {rZ : Int32} {wZ : AW} (hf : fX12_feed N a0 a1 w = some (rZ, wZ)) : CallOK PM yX12_feed cX12_feed 5 (some .int) 2 [.ref 0, .long a0, .int a1] w (some (.int rZ)) wZ := by
  refine CallOK.of (ls := [some (.ref 0), some (.long a0), none, some (.int a1), none]) (by decide) (by simp) rfl rfl ?_
  obtain ⟨Q, eQ⟩ : ∃ Q, Q = Qret cX12_feed (some .int) (some (.int rZ)) wZ := ⟨_, rfl⟩
  rw [← eQ]
  unfold fX12_feed at hf
  refine E_iload_n (v := a1) dX12_feed_0 rfl ?_
  refine E_iconst 1 dX12_feed_1 ic_1 ?_
  refine E_bipush 8 dX12_feed_2 bp_8 ?_
  obtain ⟨r2, hc1, hf⟩ := bd_some hf
  try dsimp only at hf
  refine E_callSi (rest := []) cs_RX12_99 dX12_feed_4 (MX12_in hc1) rfl rfl rfl (fun _ => Nat.le_of_ble_eq_true rfl) ?_
  refine E_if_ne 12 dX12_feed_7 (by decide) (fun hc3 => ?_) (fun hc3 => ?_)
  · rw [if_pos hc3] at hf
    refine E_iconst (-1) dX12_feed_10 ic_m1 ?_
    obtain ⟨rfl, rfl⟩ := ret2 hf
    exact E.done (by rw [eQ]; exact ⟨rfl, Or.inl ⟨_, _, rfl, rfl, dX12_feed_11, rfl, rfl⟩⟩)
  · rw [if_neg hc3] at hf
    refine E_aload_n (v := 0) dX12_feed_12 rfl ?_
    refine E_getI fg_RX12_111 dX12_feed_13 sM_0 rfl ?_
    refine E_iload_n (v := a1) dX12_feed_16 rfl ?_
    refine E_iadd dX12_feed_17 ?_
    refine E_sipush 200 dX12_feed_18 sp_200 ?_
    refine E_icmp_le 27 dX12_feed_21 (by decide) (fun hc4 => ?_) (fun hc4 => ?_)
    · rw [if_pos hc4] at hf
      refine E_iconst 0 dX12_feed_27 ic_0 ?_
      refine E_istore (ls' := [some (.ref 0), some (.long a0), none, some (.int a1), some (.int 0)]) dX12_feed_28 rfl rfl rfl ?_
      obtain ⟨q, hw9, hf⟩ := bd_some hf
      try dsimp only at hf
      show (fun (s : Int32 × AW) => E PM RX12 cX12_feed 5 2 30 [some (.ref 0), some (.long a0), none, some (.int a1), some (.int s.1)] [] s.2 Q) (0, w)
      refine wh_E (K := (fun (s : Int32 × AW) => E PM RX12 cX12_feed 5 2 30 [some (.ref 0), some (.long a0), none, some (.int a1), some (.int s.1)] [] s.2 Q)) (X := (fun (s : AW) => E PM RX12 cX12_feed 5 2 73 [some (.ref 0), none, none, none, none] [] s Q)) ?_ hw9 ?_
      · intro s9 z9 hf k9
        obtain ⟨x4_30_1, w_30_1⟩ := s9
        dsimp only [lbX12_feed_30_1] at hf
        show E PM RX12 cX12_feed 5 2 30 [some (.ref 0), some (.long a0), none, some (.int a1), some (.int x4_30_1)] [] w_30_1 Q
        refine E_iload (v := x4_30_1) dX12_feed_30 rfl ?_
        refine E_iload_n (v := a1) dX12_feed_32 rfl ?_
        refine E_icmp_ge 73 dX12_feed_33 (by decide) (fun hc5 => ?_) (fun hc5 => ?_)
        · rw [if_pos hc5] at hf
          obtain rfl := Option.some.inj hf
          refine E.fewer (ls' := [some (.ref 0), none, none, none, none]) ⟨Or.inr rfl, ⟨Or.inl rfl, ⟨Or.inl rfl, ⟨Or.inl rfl, ⟨Or.inl rfl, trivial⟩⟩⟩⟩⟩ ?_
          exact k9
        · rw [if_neg hc5] at hf
          refine E_aload_n (v := 0) dX12_feed_36 rfl ?_
          refine E_getR fg_RX12_38 dX12_feed_37 sM_0 rfl rM_0_15 (Nat.succ_ne_zero _) ?_
          refine E_aload_n (v := 0) dX12_feed_40 rfl ?_
          refine E_getI fg_RX12_111 dX12_feed_41 sM_0 rfl ?_
          refine E_lload_n (v := a0) dX12_feed_44 rfl ?_
          refine E_bipush 8 dX12_feed_45 bp_8 ?_
          refine E_iload (v := x4_30_1) dX12_feed_47 rfl ?_
          refine E_imul dX12_feed_49 ?_
          refine E_lshr dX12_feed_50 ?_
          refine E_ldc2 255 dX12_feed_51 wk_RX12_114 ?_
          refine E_land dX12_feed_54 ?_
          refine E_l2i dX12_feed_55 ?_
          obtain ⟨hi6, hf⟩ := gd_some hf
          obtain ⟨w7, ew7, hf⟩ := lw_some hf
          try dsimp only at hf
          refine E_iast (n := 200) dX12_feed_56 sM_9 (by decide) (inb_in hi6) ?_
          rw [← ew7]
          refine E_aload_n (v := 0) dX12_feed_57 rfl ?_
          refine E_dup_r dX12_feed_58 ?_
          refine E_getI fg_RX12_111 dX12_feed_59 sM_0 rfl ?_
          refine E_iconst 1 dX12_feed_62 ic_1 ?_
          refine E_iadd dX12_feed_63 ?_
          obtain ⟨w8, ew8, hf⟩ := lw_some hf
          try dsimp only at hf
          refine E_putI fp_RX12_111 dX12_feed_64 sM_0 rfl rfl rfl ?_
          rw [← ew8]
          refine E_iinc (ls' := [some (.ref 0), some (.long a0), none, some (.int a1), some (.int (x4_30_1 + 1))]) 1 dX12_feed_67 rfl ic_1 rfl rfl rfl ?_
          refine E_goto 30 dX12_feed_70 (by decide) ?_
          obtain rfl := Option.some.inj hf
          exact k9
      · skip
        obtain ⟨w10, hq9⟩ : ∃ a, a = q := ⟨_, rfl⟩
        subst hq9
        try dsimp only at hf
        show E PM RX12 cX12_feed 5 2 73 [some (.ref 0), none, none, none, none] [] w10 Q
        refine E_aload_n (v := 0) dX12_feed_73 rfl ?_
        refine E_getI fg_RX12_111 dX12_feed_74 sM_0 rfl ?_
        obtain ⟨rfl, rfl⟩ := ret2 hf
        exact E.done (by rw [eQ]; exact ⟨rfl, Or.inl ⟨_, _, rfl, rfl, dX12_feed_77, rfl, rfl⟩⟩)
    · rw [if_neg hc4] at hf
      refine E_bipush (-2) dX12_feed_24 bp_m2 ?_
      obtain ⟨rfl, rfl⟩ := ret2 hf
      exact E.done (by rw [eQ]; exact ⟨rfl, Or.inl ⟨_, _, rfl, rfl, dX12_feed_26, rfl, rfl⟩⟩)
