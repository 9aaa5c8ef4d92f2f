set_option maxRecDepth 10000 in
set_option maxHeartbeats 2000000 in
theorem MX12_planOf {a0 : Int32} {w : AW} {rZ : Int32} (hf : fX12_planOf a0 w = some rZ) : CallOK PM yX12_planOf cX12_planOf 2 (some .int) 3 [.ref 0, .int a0] w (some (.int rZ)) w := by
  refine CallOK.of (ls := [some (.ref 0), some (.int a0)]) (by decide) (by simp) rfl rfl ?_
  obtain ⟨Q, eQ⟩ : ∃ Q, Q = Qret cX12_planOf (some .int) (some (.int rZ)) w := ⟨_, rfl⟩
  rw [← eQ]
  unfold fX12_planOf at hf
  refine E_aload_n (v := 0) dX12_planOf_0 rfl ?_
  refine E_iload_n (v := a0) dX12_planOf_1 rfl ?_
  obtain ⟨r2, hc1, hf⟩ := bd_some hf
  try dsimp only at hf
  refine E_callVi (rest := []) (ci := 12) cv_RX12_239 dX12_planOf_2 (MX12_isJob hc1) rfl sM_0 rfl (by decide) rfl rfl (fun _ => Nat.le_of_ble_eq_true rfl) ?_
  refine E_if_eq 17 dX12_planOf_5 (by decide) (fun hc3 => ?_) (fun hc3 => ?_)
  · rw [if_pos hc3] at hf
    refine E_iconst (-1) dX12_planOf_17 ic_m1 ?_
    obtain rfl := Option.some.inj hf
    exact E.done (by rw [eQ]; exact ⟨rfl, Or.inl ⟨_, _, rfl, rfl, dX12_planOf_18, rfl, rfl⟩⟩)
  · rw [if_neg hc3] at hf
    refine E_aload_n (v := 0) dX12_planOf_8 rfl ?_
    refine E_getR fg_RX12_28 dX12_planOf_9 sM_0 rfl rM_0_11 (Nat.succ_ne_zero _) ?_
    refine E_iload_n (v := a0) dX12_planOf_12 rfl ?_
    obtain ⟨hi4, hf⟩ := gd_some hf
    refine E_iald (n := 8) dX12_planOf_13 sM_7 (by decide) (inb_in hi4) ?_
    refine E_goto 18 dX12_planOf_14 (by decide) ?_
    obtain rfl := Option.some.inj hf
    exact E.done (by rw [eQ]; exact ⟨rfl, Or.inl ⟨_, _, rfl, rfl, dX12_planOf_18, rfl, rfl⟩⟩)
set_option maxRecDepth 10000 in
set_option maxHeartbeats 2000000 in
theorem MX12_press {a0 : Int32} {w : AW} {rZ : Int32} (hf : fX12_press a0 w = some rZ) : CallOK PM yX12_press cX12_press 2 (some .int) 1 [.ref 0, .int a0] w (some (.int rZ)) w := by
  refine CallOK.of (ls := [some (.ref 0), some (.int a0)]) (by decide) (by simp) rfl rfl ?_
  obtain ⟨Q, eQ⟩ : ∃ Q, Q = Qret cX12_press (some .int) (some (.int rZ)) w := ⟨_, rfl⟩
  rw [← eQ]
  unfold fX12_press at hf
  refine E_iload_n (v := a0) dX12_press_0 rfl ?_
  refine E_if_ne 11 dX12_press_1 (by decide) (fun hc1 => ?_) (fun hc1 => ?_)
  · rw [if_pos hc1] at hf
    refine E_aload_n (v := 0) dX12_press_4 rfl ?_
    refine E_getI fg_RX12_217 dX12_press_5 sM_0 rfl ?_
    refine E_goto 36 dX12_press_8 (by decide) ?_
    obtain rfl := Option.some.inj hf
    exact E.done (by rw [eQ]; exact ⟨rfl, Or.inl ⟨_, _, rfl, rfl, dX12_press_36, rfl, rfl⟩⟩)
  · rw [if_neg hc1] at hf
    refine E_iload_n (v := a0) dX12_press_11 rfl ?_
    refine E_iconst 1 dX12_press_12 ic_1 ?_
    refine E_icmp_ne 23 dX12_press_13 (by decide) (fun hc2 => ?_) (fun hc2 => ?_)
    · rw [if_pos hc2] at hf
      refine E_aload_n (v := 0) dX12_press_16 rfl ?_
      refine E_getI fg_RX12_220 dX12_press_17 sM_0 rfl ?_
      refine E_goto 36 dX12_press_20 (by decide) ?_
      obtain rfl := Option.some.inj hf
      exact E.done (by rw [eQ]; exact ⟨rfl, Or.inl ⟨_, _, rfl, rfl, dX12_press_36, rfl, rfl⟩⟩)
    · rw [if_neg hc2] at hf
      refine E_iload_n (v := a0) dX12_press_23 rfl ?_
      refine E_iconst 2 dX12_press_24 ic_2 ?_
      refine E_icmp_ne 35 dX12_press_25 (by decide) (fun hc3 => ?_) (fun hc3 => ?_)
      · rw [if_pos hc3] at hf
        refine E_aload_n (v := 0) dX12_press_28 rfl ?_
        refine E_getI fg_RX12_223 dX12_press_29 sM_0 rfl ?_
        refine E_goto 36 dX12_press_32 (by decide) ?_
        obtain rfl := Option.some.inj hf
        exact E.done (by rw [eQ]; exact ⟨rfl, Or.inl ⟨_, _, rfl, rfl, dX12_press_36, rfl, rfl⟩⟩)
      · rw [if_neg hc3] at hf
        refine E_iconst (-1) dX12_press_35 ic_m1 ?_
        obtain rfl := Option.some.inj hf
        exact E.done (by rw [eQ]; exact ⟨rfl, Or.inl ⟨_, _, rfl, rfl, dX12_press_36, rfl, rfl⟩⟩)
set_option maxRecDepth 10000 in
set_option maxHeartbeats 2000000 in
theorem MX12_prove {N : Nat} {w : AW} {rZ : Int32} {wZ : AW} (hf : fX12_prove N w = some (rZ, wZ)) : CallOK PM yX12_prove cX12_prove 2 (some .int) 6 [.ref 0] w (some (.int rZ)) wZ := by
  refine CallOK.of (ls := [some (.ref 0), none]) (by decide) (by simp) rfl rfl ?_
  obtain ⟨Q, eQ⟩ : ∃ Q, Q = Qret cX12_prove (some .int) (some (.int rZ)) wZ := ⟨_, rfl⟩
  rw [← eQ]
  unfold fX12_prove at hf
  refine E_aload_n (v := 0) dX12_prove_0 rfl ?_
  refine E_aload_n (v := 0) dX12_prove_1 rfl ?_
  refine E_getI fg_RX12_96 dX12_prove_2 sM_0 rfl ?_
  refine E_iconst (-1) dX12_prove_5 ic_m1 ?_
  obtain ⟨r2, w3, hc1, hf⟩ := bd2_some hf
  try dsimp only at hf
  refine E_callVi (rest := []) (ci := 12) cv_RX12_297 dX12_prove_6 (MX12_mostOfAll hc1) rfl sM_0 rfl (by decide) rfl rfl (fun _ => Nat.le_of_ble_eq_true rfl) ?_
  refine E_pop_i dX12_prove_9 ?_
  refine E_iconst 0 dX12_prove_10 ic_0 ?_
  refine E_istore_n (ls' := [some (.ref 0), some (.int 0)]) dX12_prove_11 rfl rfl rfl ?_
  obtain ⟨q, hw8, hf⟩ := bd_some hf
  try dsimp only at hf
  show (fun (s : Int32 × AW) => E PM RX12 cX12_prove 2 6 12 [some (.ref 0), some (.int s.1)] [] s.2 Q) (0, w3)
  refine wh_E (K := (fun (s : Int32 × AW) => E PM RX12 cX12_prove 2 6 12 [some (.ref 0), some (.int s.1)] [] s.2 Q)) (X := (fun (s : AW) => E PM RX12 cX12_prove 2 6 38 [some (.ref 0), none] [] s Q)) ?_ hw8 ?_
  · intro s9 z9 hf k9
    obtain ⟨x1_12_1, w_12_1⟩ := s9
    dsimp only [lbX12_prove_12_1] at hf
    show E PM RX12 cX12_prove 2 6 12 [some (.ref 0), some (.int x1_12_1)] [] w_12_1 Q
    refine E_iload_n (v := x1_12_1) dX12_prove_12 rfl ?_
    refine E_aload_n (v := 0) dX12_prove_13 rfl ?_
    refine E_getI fg_RX12_96 dX12_prove_14 sM_0 rfl ?_
    refine E_icmp_ge 38 dX12_prove_17 (by decide) (fun hc5 => ?_) (fun hc5 => ?_)
    · rw [if_pos hc5] at hf
      obtain rfl := Option.some.inj hf
      refine E.fewer (ls' := [some (.ref 0), none]) ⟨Or.inr rfl, ⟨Or.inl rfl, trivial⟩⟩ ?_
      exact k9
    · rw [if_neg hc5] at hf
      refine E_aload_n (v := 0) dX12_prove_20 rfl ?_
      refine E_getR fg_RX12_47 dX12_prove_21 sM_0 rfl rM_0_26 (Nat.succ_ne_zero _) ?_
      refine E_iload_n (v := x1_12_1) dX12_prove_24 rfl ?_
      refine E_aload_n (v := 0) dX12_prove_25 rfl ?_
      refine E_getR fg_RX12_56 dX12_prove_26 sM_0 rfl rM_0_31 (Nat.succ_ne_zero _) ?_
      refine E_iload_n (v := x1_12_1) dX12_prove_29 rfl ?_
      obtain ⟨hi6, hf⟩ := gd_some hf
      refine E_iald (n := 8) dX12_prove_30 sM_15 (by decide) (inb_in hi6) ?_
      obtain ⟨w7, ew7, hf⟩ := lw_some hf
      try dsimp only at hf
      refine E_iast (n := 8) dX12_prove_31 sM_12 (by decide) (inb_in hi6) ?_
      rw [← ew7]
      refine E_iinc (ls' := [some (.ref 0), some (.int (x1_12_1 + 1))]) 1 dX12_prove_32 rfl ic_1 rfl rfl rfl ?_
      refine E_goto 12 dX12_prove_35 (by decide) ?_
      obtain rfl := Option.some.inj hf
      exact k9
  · skip
    obtain ⟨w9, hq9⟩ : ∃ a, a = q := ⟨_, rfl⟩
    subst hq9
    try dsimp only at hf
    show E PM RX12 cX12_prove 2 6 38 [some (.ref 0), none] [] w9 Q
    refine E_aload_n (v := 0) dX12_prove_38 rfl ?_
    refine E_aload_n (v := 0) dX12_prove_39 rfl ?_
    refine E_getI fg_RX12_96 dX12_prove_40 sM_0 rfl ?_
    refine E_iconst 0 dX12_prove_43 ic_0 ?_
    refine E_iconst 0 dX12_prove_44 ic_0 ?_
    obtain ⟨w11, hc10, hf⟩ := bd_some hf
    try dsimp only at hf
    refine E_callVv (rest := []) (ci := 12) cv_RX12_267 dX12_prove_45 (MX12_worksAll hc10) rfl sM_0 rfl (by decide) rfl rfl (fun _ => Nat.le_of_ble_eq_true rfl) ?_
    refine E_aload_n (v := 0) dX12_prove_48 rfl ?_
    refine E_aload_n (v := 0) dX12_prove_49 rfl ?_
    refine E_getI fg_RX12_96 dX12_prove_50 sM_0 rfl ?_
    obtain ⟨w12, ew12, hf⟩ := lw_some hf
    try dsimp only at hf
    refine E_putI fp_RX12_229 dX12_prove_53 sM_0 rfl rfl rfl ?_
    rw [← ew12]
    refine E_iconst 0 dX12_prove_56 ic_0 ?_
    refine E_istore_n (ls' := [some (.ref 0), some (.int 0)]) dX12_prove_57 rfl rfl rfl ?_
    obtain ⟨q, hw24, hf⟩ := bd_some hf
    try dsimp only at hf
    show (fun (s : Int32 × AW) => E PM RX12 cX12_prove 2 6 58 [some (.ref 0), some (.int s.1)] [] s.2 Q) (0, w12)
    refine wh_E (K := (fun (s : Int32 × AW) => E PM RX12 cX12_prove 2 6 58 [some (.ref 0), some (.int s.1)] [] s.2 Q)) (X := (fun (s : AW) => E PM RX12 cX12_prove 2 6 127 [some (.ref 0), none] [] s Q)) ?_ hw24 ?_
    · intro s9 z9 hf k9
      obtain ⟨x1_58_2, w_58_2⟩ := s9
      dsimp only [lbX12_prove_58_2] at hf
      show E PM RX12 cX12_prove 2 6 58 [some (.ref 0), some (.int x1_58_2)] [] w_58_2 Q
      refine E_iload_n (v := x1_58_2) dX12_prove_58 rfl ?_
      refine E_aload_n (v := 0) dX12_prove_59 rfl ?_
      refine E_getI fg_RX12_96 dX12_prove_60 sM_0 rfl ?_
      refine E_icmp_ge 127 dX12_prove_63 (by decide) (fun hc13 => ?_) (fun hc13 => ?_)
      · rw [if_pos hc13] at hf
        obtain rfl := Option.some.inj hf
        refine E.fewer (ls' := [some (.ref 0), none]) ⟨Or.inr rfl, ⟨Or.inl rfl, trivial⟩⟩ ?_
        exact k9
      · rw [if_neg hc13] at hf
        refine E_aload_n (v := 0) dX12_prove_66 rfl ?_
        refine E_getR fg_RX12_65 dX12_prove_67 sM_0 rfl rM_0_36 (Nat.succ_ne_zero _) ?_
        refine E_iconst 3 dX12_prove_70 ic_3 ?_
        refine E_iload_n (v := x1_58_2) dX12_prove_71 rfl ?_
        refine E_imul dX12_prove_72 ?_
        refine E_aload_n (v := 0) dX12_prove_73 rfl ?_
        refine E_getR fg_RX12_47 dX12_prove_74 sM_0 rfl rM_0_26 (Nat.succ_ne_zero _) ?_
        refine E_iload_n (v := x1_58_2) dX12_prove_77 rfl ?_
        obtain ⟨hi14, hf⟩ := gd_some hf
        refine E_iald (n := 8) dX12_prove_78 sM_12 (by decide) (inb_in hi14) ?_
        obtain ⟨hi15, hf⟩ := gd_some hf
        obtain ⟨w16, ew16, hf⟩ := lw_some hf
        try dsimp only at hf
        refine E_iast (n := 18) dX12_prove_79 sM_18 (by decide) (inb_in hi15) ?_
        rw [← ew16]
        refine E_aload_n (v := 0) dX12_prove_80 rfl ?_
        refine E_getR fg_RX12_65 dX12_prove_81 sM_0 rfl rM_0_36 (Nat.succ_ne_zero _) ?_
        refine E_iconst 3 dX12_prove_84 ic_3 ?_
        refine E_iload_n (v := x1_58_2) dX12_prove_85 rfl ?_
        refine E_imul dX12_prove_86 ?_
        refine E_iconst 1 dX12_prove_87 ic_1 ?_
        refine E_iadd dX12_prove_88 ?_
        refine E_aload_n (v := 0) dX12_prove_89 rfl ?_
        refine E_getR fg_RX12_53 dX12_prove_90 sM_0 rfl rM_0_28 (Nat.succ_ne_zero _) ?_
        refine E_aload_n (v := 0) dX12_prove_93 rfl ?_
        refine E_getR fg_RX12_47 dX12_prove_94 sM_0 rfl rM_0_26 (Nat.succ_ne_zero _) ?_
        refine E_iload_n (v := x1_58_2) dX12_prove_97 rfl ?_
        refine E_iald (n := 8) dX12_prove_98 sM_12 (by decide) (inb_in hi14) ?_
        obtain ⟨hi17, hf⟩ := gd_some hf
        refine E_iald (n := 8) dX12_prove_99 sM_14 (by decide) (inb_in hi17) ?_
        obtain ⟨hi18, hf⟩ := gd_some hf
        obtain ⟨w19, ew19, hf⟩ := lw_some hf
        try dsimp only at hf
        refine E_iast (n := 18) dX12_prove_100 sM_18 (by decide) (inb_in hi18) ?_
        rw [← ew19]
        refine E_aload_n (v := 0) dX12_prove_101 rfl ?_
        refine E_getR fg_RX12_65 dX12_prove_102 sM_0 rfl rM_0_36 (Nat.succ_ne_zero _) ?_
        refine E_iconst 3 dX12_prove_105 ic_3 ?_
        refine E_iload_n (v := x1_58_2) dX12_prove_106 rfl ?_
        refine E_imul dX12_prove_107 ?_
        refine E_iconst 2 dX12_prove_108 ic_2 ?_
        refine E_iadd dX12_prove_109 ?_
        refine E_aload_n (v := 0) dX12_prove_110 rfl ?_
        refine E_aload_n (v := 0) dX12_prove_111 rfl ?_
        refine E_getR fg_RX12_47 dX12_prove_112 sM_0 rfl rM_0_26 (Nat.succ_ne_zero _) ?_
        refine E_iload_n (v := x1_58_2) dX12_prove_115 rfl ?_
        refine E_iald (n := 8) dX12_prove_116 sM_12 (by decide) (inb_in hi14) ?_
        obtain ⟨r21, hc20, hf⟩ := bd_some hf
        try dsimp only at hf
        refine E_callVi (rest := [.int ((3 * x1_58_2) + 2), .ref 18]) (ci := 12) cv_RX12_264 dX12_prove_117 (MX12_worthOf hc20) rfl sM_0 rfl (by decide) rfl rfl (fun _ => Nat.le_of_ble_eq_true rfl) ?_
        obtain ⟨hi22, hf⟩ := gd_some hf
        obtain ⟨w23, ew23, hf⟩ := lw_some hf
        try dsimp only at hf
        refine E_iast (n := 18) dX12_prove_120 sM_18 (by decide) (inb_in hi22) ?_
        rw [← ew23]
        refine E_iinc (ls' := [some (.ref 0), some (.int (x1_58_2 + 1))]) 1 dX12_prove_121 rfl ic_1 rfl rfl rfl ?_
        refine E_goto 58 dX12_prove_124 (by decide) ?_
        obtain rfl := Option.some.inj hf
        exact k9
    · skip
      obtain ⟨w25, hq9⟩ : ∃ a, a = q := ⟨_, rfl⟩
      subst hq9
      try dsimp only at hf
      show E PM RX12 cX12_prove 2 6 127 [some (.ref 0), none] [] w25 Q
      refine E_aload_n (v := 0) dX12_prove_127 rfl ?_
      refine E_getI fg_RX12_229 dX12_prove_128 sM_0 rfl ?_
      obtain ⟨rfl, rfl⟩ := ret2 hf
      exact E.done (by rw [eQ]; exact ⟨rfl, Or.inl ⟨_, _, rfl, rfl, dX12_prove_131, rfl, rfl⟩⟩)
set_option maxRecDepth 10000 in
set_option maxHeartbeats 2000000 in
theorem MX12_put {a0 : Int32} {a1 : Int32} {a2 : Int32} {w : AW} {rZ : Int32} {wZ : AW} (hf : fX12_put a0 a1 a2 w = some (rZ, wZ)) : CallOK PM yX12_put cX12_put 4 (some .int) 3 [.ref 0, .int a0, .int a1, .int a2] w (some (.int rZ)) wZ := by
  refine CallOK.of (ls := [some (.ref 0), some (.int a0), some (.int a1), some (.int a2)]) (by decide) (by simp) rfl rfl ?_
  obtain ⟨Q, eQ⟩ : ∃ Q, Q = Qret cX12_put (some .int) (some (.int rZ)) wZ := ⟨_, rfl⟩
  rw [← eQ]
  unfold fX12_put at hf
  refine E_iload_n (v := a0) dX12_put_0 rfl ?_
  obtain ⟨r2, hc1, hf⟩ := bd_some hf
  try dsimp only at hf
  refine E_callSi (rest := []) cs_RX12_346 dX12_put_1 (MX12_isShelf hc1) rfl rfl rfl (fun _ => Nat.le_of_ble_eq_true rfl) ?_
  refine E_if_ne 9 dX12_put_4 (by decide) (fun hc3 => ?_) (fun hc3 => ?_)
  · rw [if_pos hc3] at hf
    refine E_iconst (-1) dX12_put_7 ic_m1 ?_
    obtain ⟨rfl, rfl⟩ := ret2 hf
    exact E.done (by rw [eQ]; exact ⟨rfl, Or.inl ⟨_, _, rfl, rfl, dX12_put_8, rfl, rfl⟩⟩)
  · rw [if_neg hc3] at hf
    refine E_aload_n (v := 0) dX12_put_9 rfl ?_
    refine E_getR fg_RX12_68 dX12_put_10 sM_0 rfl rM_0_38 (Nat.succ_ne_zero _) ?_
    refine E_iload_n (v := a0) dX12_put_13 rfl ?_
    obtain ⟨hi4, hf⟩ := gd_some hf
    refine E_iald (n := 4) dX12_put_14 sM_19 (by decide) (inb_in hi4) ?_
    refine E_if_ge 21 dX12_put_15 (by decide) (fun hc5 => ?_) (fun hc5 => ?_)
    · rw [if_pos hc5] at hf
      refine E_iload_n (v := a1) dX12_put_21 rfl ?_
      refine E_iconst 0 dX12_put_22 ic_0 ?_
      refine E_aload_n (v := 0) dX12_put_23 rfl ?_
      refine E_getR fg_RX12_71 dX12_put_24 sM_0 rfl rM_0_39 (Nat.succ_ne_zero _) ?_
      refine E_iload_n (v := a0) dX12_put_27 rfl ?_
      refine E_iald (n := 4) dX12_put_28 sM_20 (by decide) (inb_in hi4) ?_
      refine E_iconst 1 dX12_put_29 ic_1 ?_
      refine E_isub dX12_put_30 ?_
      obtain ⟨r7, hc6, hf⟩ := bd_some hf
      try dsimp only at hf
      refine E_callSi (rest := []) cs_RX12_99 dX12_put_31 (MX12_in hc6) rfl rfl rfl (fun _ => Nat.le_of_ble_eq_true rfl) ?_
      refine E_if_ne 40 dX12_put_34 (by decide) (fun hc8 => ?_) (fun hc8 => ?_)
      · rw [if_pos hc8] at hf
        refine E_bipush (-12) dX12_put_37 bp_m12 ?_
        obtain ⟨rfl, rfl⟩ := ret2 hf
        exact E.done (by rw [eQ]; exact ⟨rfl, Or.inl ⟨_, _, rfl, rfl, dX12_put_39, rfl, rfl⟩⟩)
      · rw [if_neg hc8] at hf
        refine E_aload_n (v := 0) dX12_put_40 rfl ?_
        refine E_getR fg_RX12_74 dX12_put_41 sM_0 rfl rM_0_40 (Nat.succ_ne_zero _) ?_
        refine E_bipush 40 dX12_put_44 bp_40 ?_
        refine E_iload_n (v := a0) dX12_put_46 rfl ?_
        refine E_imul dX12_put_47 ?_
        refine E_iload_n (v := a1) dX12_put_48 rfl ?_
        refine E_iadd dX12_put_49 ?_
        refine E_aload_n (v := 0) dX12_put_50 rfl ?_
        refine E_getR fg_RX12_68 dX12_put_51 sM_0 rfl rM_0_38 (Nat.succ_ne_zero _) ?_
        refine E_iload_n (v := a0) dX12_put_54 rfl ?_
        refine E_iald (n := 4) dX12_put_55 sM_19 (by decide) (inb_in hi4) ?_
        refine E_if_ne 65 dX12_put_56 (by decide) (fun hc9 => ?_) (fun hc9 => ?_)
        · rw [if_pos hc9] at hf
          refine E_iload_n (v := a2) dX12_put_59 rfl ?_
          refine E_i2b dX12_put_60 ?_
          refine E_i2l dX12_put_61 ?_
          refine E_goto 83 dX12_put_62 (by decide) ?_
          obtain ⟨hi10, hf⟩ := gd_some hf
          obtain ⟨w11, ew11, hf⟩ := lw_some hf
          try dsimp only at hf
          refine E_last (n := 160) dX12_put_83 sM_21 (inb_in hi10) ?_
          rw [← ew11]
          refine E_iconst 1 dX12_put_84 ic_1 ?_
          obtain ⟨rfl, rfl⟩ := ret2 hf
          exact E.done (by rw [eQ]; exact ⟨rfl, Or.inl ⟨_, _, rfl, rfl, dX12_put_85, rfl, rfl⟩⟩)
        · rw [if_neg hc9] at hf
          refine E_aload_n (v := 0) dX12_put_65 rfl ?_
          refine E_getR fg_RX12_68 dX12_put_66 sM_0 rfl rM_0_38 (Nat.succ_ne_zero _) ?_
          refine E_iload_n (v := a0) dX12_put_69 rfl ?_
          refine E_iald (n := 4) dX12_put_70 sM_19 (by decide) (inb_in hi4) ?_
          refine E_iconst 1 dX12_put_71 ic_1 ?_
          refine E_icmp_ne 81 dX12_put_72 (by decide) (fun hc12 => ?_) (fun hc12 => ?_)
          · rw [if_pos hc12] at hf
            refine E_iload_n (v := a2) dX12_put_75 rfl ?_
            refine E_i2s dX12_put_76 ?_
            refine E_i2l dX12_put_77 ?_
            refine E_goto 83 dX12_put_78 (by decide) ?_
            obtain ⟨hi13, hf⟩ := gd_some hf
            obtain ⟨w14, ew14, hf⟩ := lw_some hf
            try dsimp only at hf
            refine E_last (n := 160) dX12_put_83 sM_21 (inb_in hi13) ?_
            rw [← ew14]
            refine E_iconst 1 dX12_put_84 ic_1 ?_
            obtain ⟨rfl, rfl⟩ := ret2 hf
            exact E.done (by rw [eQ]; exact ⟨rfl, Or.inl ⟨_, _, rfl, rfl, dX12_put_85, rfl, rfl⟩⟩)
          · rw [if_neg hc12] at hf
            refine E_iload_n (v := a2) dX12_put_81 rfl ?_
            refine E_i2l dX12_put_82 ?_
            obtain ⟨hi15, hf⟩ := gd_some hf
            obtain ⟨w16, ew16, hf⟩ := lw_some hf
            try dsimp only at hf
            refine E_last (n := 160) dX12_put_83 sM_21 (inb_in hi15) ?_
            rw [← ew16]
            refine E_iconst 1 dX12_put_84 ic_1 ?_
            obtain ⟨rfl, rfl⟩ := ret2 hf
            exact E.done (by rw [eQ]; exact ⟨rfl, Or.inl ⟨_, _, rfl, rfl, dX12_put_85, rfl, rfl⟩⟩)
    · rw [if_neg hc5] at hf
      refine E_bipush (-11) dX12_put_18 bp_m11 ?_
      obtain ⟨rfl, rfl⟩ := ret2 hf
      exact E.done (by rw [eQ]; exact ⟨rfl, Or.inl ⟨_, _, rfl, rfl, dX12_put_20, rfl, rfl⟩⟩)
set_option maxRecDepth 10000 in
set_option maxHeartbeats 2000000 in
theorem MX12_row {a0 : Int32} {a1 : Int32} {w : AW} {rZ : Int32} (hf : fX12_row a0 a1 w = some rZ) : CallOK PM yX12_row cX12_row 3 (some .int) 3 [.ref 0, .int a0, .int a1] w (some (.int rZ)) w := by
  refine CallOK.of (ls := [some (.ref 0), some (.int a0), some (.int a1)]) (by decide) (by simp) rfl rfl ?_
  obtain ⟨Q, eQ⟩ : ∃ Q, Q = Qret cX12_row (some .int) (some (.int rZ)) w := ⟨_, rfl⟩
  rw [← eQ]
  unfold fX12_row at hf
  refine E_aload_n (v := 0) dX12_row_0 rfl ?_
  refine E_iload_n (v := a0) dX12_row_1 rfl ?_
  refine E_iload_n (v := a1) dX12_row_2 rfl ?_
  obtain ⟨r2, hc1, hf⟩ := bd_some hf
  try dsimp only at hf
  refine E_callVi (rest := []) (ci := 12) cv_RX12_343 dX12_row_3 (MX12_isRow hc1) rfl sM_0 rfl (by decide) rfl rfl (fun _ => Nat.le_of_ble_eq_true rfl) ?_
  refine E_if_eq 22 dX12_row_6 (by decide) (fun hc3 => ?_) (fun hc3 => ?_)
  · rw [if_pos hc3] at hf
    refine E_ldcw (-2147483648) dX12_row_22 wk_RX12_284 ?_
    obtain rfl := Option.some.inj hf
    exact E.done (by rw [eQ]; exact ⟨rfl, Or.inl ⟨_, _, rfl, rfl, dX12_row_25, rfl, rfl⟩⟩)
  · rw [if_neg hc3] at hf
    refine E_aload_n (v := 0) dX12_row_9 rfl ?_
    refine E_getR fg_RX12_65 dX12_row_10 sM_0 rfl rM_0_36 (Nat.succ_ne_zero _) ?_
    refine E_iconst 3 dX12_row_13 ic_3 ?_
    refine E_iload_n (v := a0) dX12_row_14 rfl ?_
    refine E_imul dX12_row_15 ?_
    refine E_iload_n (v := a1) dX12_row_16 rfl ?_
    refine E_iadd dX12_row_17 ?_
    obtain ⟨hi4, hf⟩ := gd_some hf
    refine E_iald (n := 18) dX12_row_18 sM_18 (by decide) (inb_in hi4) ?_
    refine E_goto 25 dX12_row_19 (by decide) ?_
    obtain rfl := Option.some.inj hf
    exact E.done (by rw [eQ]; exact ⟨rfl, Or.inl ⟨_, _, rfl, rfl, dX12_row_25, rfl, rfl⟩⟩)
set_option maxRecDepth 10000 in
set_option maxHeartbeats 2000000 in
theorem MX12_sureOf {N : Nat} {w : AW} {rZ : Int32} {wZ : AW} (hf : fX12_sureOf N w = some (rZ, wZ)) : CallOK PM yX12_sureOf cX12_sureOf 4 (some .int) 5 [.ref 0] w (some (.int rZ)) wZ := by
  refine CallOK.of (ls := [some (.ref 0), none, none, none]) (by decide) (by simp) rfl rfl ?_
  obtain ⟨Q, eQ⟩ : ∃ Q, Q = Qret cX12_sureOf (some .int) (some (.int rZ)) wZ := ⟨_, rfl⟩
  rw [← eQ]
  unfold fX12_sureOf at hf
  refine E_iconst 0 dX12_sureOf_0 ic_0 ?_
  refine E_istore_n (ls' := [some (.ref 0), some (.int 0), none, none]) dX12_sureOf_1 rfl rfl rfl ?_
  refine E_iconst 0 dX12_sureOf_2 ic_0 ?_
  refine E_istore_n (ls' := [some (.ref 0), some (.int 0), some (.int 0), none]) dX12_sureOf_3 rfl rfl rfl ?_
  obtain ⟨q, hw10, hf⟩ := bd_some hf
  try dsimp only at hf
  show (fun (s : Int32 × Int32 × AW) => E PM RX12 cX12_sureOf 4 5 4 [some (.ref 0), some (.int s.1), some (.int s.2.1), none] [] s.2.2 Q) (0, 0, w)
  refine wh_E (K := (fun (s : Int32 × Int32 × AW) => E PM RX12 cX12_sureOf 4 5 4 [some (.ref 0), some (.int s.1), some (.int s.2.1), none] [] s.2.2 Q)) (X := (fun (s : Int32 × AW) => E PM RX12 cX12_sureOf 4 5 59 [none, some (.int s.1), none, none] [] s.2 Q)) ?_ hw10 ?_
  · intro s9 z9 hf k9
    obtain ⟨x1_4_1, x2_4_1, w_4_1⟩ := s9
    dsimp only [lbX12_sureOf_4_1] at hf
    show E PM RX12 cX12_sureOf 4 5 4 [some (.ref 0), some (.int x1_4_1), some (.int x2_4_1), none] [] w_4_1 Q
    refine E_iload_n (v := x2_4_1) dX12_sureOf_4 rfl ?_
    refine E_iconst 1 dX12_sureOf_5 ic_1 ?_
    refine E_aload_n (v := 0) dX12_sureOf_6 rfl ?_
    refine E_getI fg_RX12_96 dX12_sureOf_7 sM_0 rfl ?_
    refine E_ishl dX12_sureOf_10 ?_
    refine E_icmp_ge 59 dX12_sureOf_11 (by decide) (fun hc1 => ?_) (fun hc1 => ?_)
    · rw [if_pos hc1] at hf
      obtain rfl := Option.some.inj hf
      refine E.fewer (ls' := [none, some (.int x1_4_1), none, none]) ⟨Or.inl rfl, ⟨Or.inr rfl, ⟨Or.inl rfl, ⟨Or.inl rfl, trivial⟩⟩⟩⟩ ?_
      exact k9
    · rw [if_neg hc1] at hf
      refine E_aload_n (v := 0) dX12_sureOf_14 rfl ?_
      refine E_iload_n (v := x2_4_1) dX12_sureOf_15 rfl ?_
      obtain ⟨r3, hc2, hf⟩ := bd_some hf
      try dsimp only at hf
      refine E_callVi (rest := []) (ci := 12) cv_RX12_312 dX12_sureOf_16 (MX12_oftenOf hc2) rfl sM_0 rfl (by decide) rfl rfl (fun _ => Nat.le_of_ble_eq_true rfl) ?_
      refine E_istore_n (ls' := [some (.ref 0), some (.int x1_4_1), some (.int x2_4_1), some (.int r3)]) dX12_sureOf_19 rfl rfl rfl ?_
      refine E_iload_n (v := r3) dX12_sureOf_20 rfl ?_
      refine E_if_le 53 dX12_sureOf_21 (by decide) (fun hc4 => ?_) (fun hc4 => ?_)
      · rw [if_pos hc4] at hf
        refine E_iinc (ls' := [some (.ref 0), some (.int x1_4_1), some (.int (x2_4_1 + 1)), some (.int r3)]) 1 dX12_sureOf_53 rfl ic_1 rfl rfl rfl ?_
        refine E_goto 4 dX12_sureOf_56 (by decide) ?_
        obtain rfl := Option.some.inj hf
        refine E.fewer (ls' := [some (.ref 0), some (.int x1_4_1), some (.int (x2_4_1 + 1)), none]) ⟨Or.inr rfl, ⟨Or.inr rfl, ⟨Or.inr rfl, ⟨Or.inl rfl, trivial⟩⟩⟩⟩ ?_
        exact k9
      · rw [if_neg hc4] at hf
        refine E_aload_n (v := 0) dX12_sureOf_24 rfl ?_
        refine E_aload_n (v := 0) dX12_sureOf_25 rfl ?_
        refine E_getI fg_RX12_96 dX12_sureOf_26 sM_0 rfl ?_
        refine E_iload_n (v := x2_4_1) dX12_sureOf_29 rfl ?_
        refine E_iconst 0 dX12_sureOf_30 ic_0 ?_
        obtain ⟨w6, hc5, hf⟩ := bd_some hf
        try dsimp only at hf
        refine E_callVv (rest := []) (ci := 12) cv_RX12_267 dX12_sureOf_31 (MX12_worksAll hc5) rfl sM_0 rfl (by decide) rfl rfl (fun _ => Nat.le_of_ble_eq_true rfl) ?_
        refine E_iload_n (v := x1_4_1) dX12_sureOf_34 rfl ?_
        refine E_aload_n (v := 0) dX12_sureOf_35 rfl ?_
        refine E_aload_n (v := 0) dX12_sureOf_36 rfl ?_
        refine E_getI fg_RX12_96 dX12_sureOf_37 sM_0 rfl ?_
        obtain ⟨r8, hc7, hf⟩ := bd_some hf
        try dsimp only at hf
        refine E_callVi (rest := [.int x1_4_1]) (ci := 12) cv_RX12_303 dX12_sureOf_40 (MX12_lateMany hc7) rfl sM_0 rfl (by decide) rfl rfl (fun _ => Nat.le_of_ble_eq_true rfl) ?_
        refine E_if_ne 50 dX12_sureOf_43 (by decide) (fun hc9 => ?_) (fun hc9 => ?_)
        · rw [if_pos hc9] at hf
          refine E_iload_n (v := r3) dX12_sureOf_46 rfl ?_
          refine E_goto 51 dX12_sureOf_47 (by decide) ?_
          refine E_iadd dX12_sureOf_51 ?_
          refine E_istore_n (ls' := [some (.ref 0), some (.int (x1_4_1 + r3)), some (.int x2_4_1), some (.int r3)]) dX12_sureOf_52 rfl rfl rfl ?_
          refine E_iinc (ls' := [some (.ref 0), some (.int (x1_4_1 + r3)), some (.int (x2_4_1 + 1)), some (.int r3)]) 1 dX12_sureOf_53 rfl ic_1 rfl rfl rfl ?_
          refine E_goto 4 dX12_sureOf_56 (by decide) ?_
          obtain rfl := Option.some.inj hf
          refine E.fewer (ls' := [some (.ref 0), some (.int (x1_4_1 + r3)), some (.int (x2_4_1 + 1)), none]) ⟨Or.inr rfl, ⟨Or.inr rfl, ⟨Or.inr rfl, ⟨Or.inl rfl, trivial⟩⟩⟩⟩ ?_
          exact k9
        · rw [if_neg hc9] at hf
          refine E_iconst 0 dX12_sureOf_50 ic_0 ?_
          refine E_iadd dX12_sureOf_51 ?_
          refine E_istore_n (ls' := [some (.ref 0), some (.int (x1_4_1 + 0)), some (.int x2_4_1), some (.int r3)]) dX12_sureOf_52 rfl rfl rfl ?_
          refine E_iinc (ls' := [some (.ref 0), some (.int (x1_4_1 + 0)), some (.int (x2_4_1 + 1)), some (.int r3)]) 1 dX12_sureOf_53 rfl ic_1 rfl rfl rfl ?_
          refine E_goto 4 dX12_sureOf_56 (by decide) ?_
          obtain rfl := Option.some.inj hf
          refine E.fewer (ls' := [some (.ref 0), some (.int (x1_4_1 + 0)), some (.int (x2_4_1 + 1)), none]) ⟨Or.inr rfl, ⟨Or.inr rfl, ⟨Or.inr rfl, ⟨Or.inl rfl, trivial⟩⟩⟩⟩ ?_
          exact k9
  · skip
    obtain ⟨y11, w12⟩ := q
    try dsimp only at hf
    show E PM RX12 cX12_sureOf 4 5 59 [none, some (.int y11), none, none] [] w12 Q
    refine E_iload_n (v := y11) dX12_sureOf_59 rfl ?_
    obtain ⟨rfl, rfl⟩ := ret2 hf
    exact E.done (by rw [eQ]; exact ⟨rfl, Or.inl ⟨_, _, rfl, rfl, dX12_sureOf_60, rfl, rfl⟩⟩)
set_option maxRecDepth 10000 in
set_option maxHeartbeats 2000000 in
theorem MX12_safest {N : Nat} {a0 : Int32} {w : AW} {rZ : Int32} {wZ : AW} (hf : fX12_safest N a0 w = some (rZ, wZ)) : CallOK PM yX12_safest cX12_safest 6 (some .int) 6 [.ref 0, .int a0] w (some (.int rZ)) wZ := by
  refine CallOK.of (ls := [some (.ref 0), some (.int a0), none, none, none, none]) (by decide) (by simp) rfl rfl ?_
  obtain ⟨Q, eQ⟩ : ∃ Q, Q = Qret cX12_safest (some .int) (some (.int rZ)) wZ := ⟨_, rfl⟩
  rw [← eQ]
  unfold fX12_safest at hf
  refine E_iload_n (v := a0) dX12_safest_0 rfl ?_
  refine E_iconst 0 dX12_safest_1 ic_0 ?_
  refine E_iconst 2 dX12_safest_2 ic_2 ?_
  obtain ⟨r2, hc1, hf⟩ := bd_some hf
  try dsimp only at hf
  refine E_callSi (rest := []) cs_RX12_99 dX12_safest_3 (MX12_in hc1) rfl rfl rfl (fun _ => Nat.le_of_ble_eq_true rfl) ?_
  refine E_if_ne 11 dX12_safest_6 (by decide) (fun hc3 => ?_) (fun hc3 => ?_)
  · rw [if_pos hc3] at hf
    refine E_iconst (-1) dX12_safest_9 ic_m1 ?_
    obtain ⟨rfl, rfl⟩ := ret2 hf
    exact E.done (by rw [eQ]; exact ⟨rfl, Or.inl ⟨_, _, rfl, rfl, dX12_safest_10, rfl, rfl⟩⟩)
  · rw [if_neg hc3] at hf
    refine E_aload_n (v := 0) dX12_safest_11 rfl ?_
    refine E_aload_n (v := 0) dX12_safest_12 rfl ?_
    refine E_getI fg_RX12_96 dX12_safest_13 sM_0 rfl ?_
    refine E_iconst (-1) dX12_safest_16 ic_m1 ?_
    obtain ⟨r5, w6, hc4, hf⟩ := bd2_some hf
    try dsimp only at hf
    refine E_callVi (rest := []) (ci := 12) cv_RX12_281 dX12_safest_17 (MX12_firstOrder hc4) rfl sM_0 rfl (by decide) rfl rfl (fun _ => Nat.le_of_ble_eq_true rfl) ?_
    refine E_istore_n (ls' := [some (.ref 0), some (.int a0), some (.int r5), none, none, none]) dX12_safest_20 rfl rfl rfl ?_
    refine E_iconst (-1) dX12_safest_21 ic_m1 ?_
    refine E_istore_n (ls' := [some (.ref 0), some (.int a0), some (.int r5), some (.int (-1)), none, none]) dX12_safest_22 rfl rfl rfl ?_
    refine E_iconst 1 dX12_safest_23 ic_1 ?_
    refine E_istore (ls' := [some (.ref 0), some (.int a0), some (.int r5), some (.int (-1)), some (.int 1), none]) dX12_safest_24 rfl rfl rfl ?_
    obtain ⟨q, hw24, hf⟩ := bd_some hf
    try dsimp only at hf
    show (fun (s : Int32 × Int32 × AW) => E PM RX12 cX12_safest 6 6 26 [some (.ref 0), some (.int a0), some (.int r5), some (.int s.1), some (.int s.2.1), none] [] s.2.2 Q) ((-1), 1, w6)
    refine wh_E (K := (fun (s : Int32 × Int32 × AW) => E PM RX12 cX12_safest 6 6 26 [some (.ref 0), some (.int a0), some (.int r5), some (.int s.1), some (.int s.2.1), none] [] s.2.2 Q)) (X := (fun (s : Int32 × AW) => E PM RX12 cX12_safest 6 6 61 [some (.ref 0), some (.int a0), none, some (.int s.1), none, none] [] s.2 Q)) ?_ hw24 ?_
    · intro s9 z9 hf k9
      obtain ⟨x3_26_1, x4_26_1, w_26_1⟩ := s9
      dsimp only [lbX12_safest_26_1] at hf
      show E PM RX12 cX12_safest 6 6 26 [some (.ref 0), some (.int a0), some (.int r5), some (.int x3_26_1), some (.int x4_26_1), none] [] w_26_1 Q
      refine E_iload (v := x4_26_1) dX12_safest_26 rfl ?_
      refine E_if_eq 61 dX12_safest_28 (by decide) (fun hc8 => ?_) (fun hc8 => ?_)
      · rw [if_pos hc8] at hf
        obtain rfl := Option.some.inj hf
        refine E.fewer (ls' := [some (.ref 0), some (.int a0), none, some (.int x3_26_1), none, none]) ⟨Or.inr rfl, ⟨Or.inr rfl, ⟨Or.inl rfl, ⟨Or.inr rfl, ⟨Or.inl rfl, ⟨Or.inl rfl, trivial⟩⟩⟩⟩⟩⟩ ?_
        exact k9
      · rw [if_neg hc8] at hf
        refine E_aload_n (v := 0) dX12_safest_31 rfl ?_
        obtain ⟨r10, w11, hc9, hf⟩ := bd2_some hf
        try dsimp only at hf
        refine E_callVi (rest := []) (ci := 12) cv_RX12_318 dX12_safest_32 (MX12_sureOf hc9) rfl sM_0 rfl (by decide) rfl rfl (fun _ => Nat.le_of_ble_eq_true rfl) ?_
        refine E_istore (ls' := [some (.ref 0), some (.int a0), some (.int r5), some (.int x3_26_1), some (.int x4_26_1), some (.int r10)]) dX12_safest_35 rfl rfl rfl ?_
        refine E_iload (v := r10) dX12_safest_37 rfl ?_
        refine E_iload_n (v := x3_26_1) dX12_safest_39 rfl ?_
        refine E_icmp_le 51 dX12_safest_40 (by decide) (fun hc13 => ?_) (fun hc13 => ?_)
        · rw [if_pos hc13] at hf
          refine E_aload_n (v := 0) dX12_safest_51 rfl ?_
          refine E_iload_n (v := r5) dX12_safest_52 rfl ?_
          obtain ⟨r15, w16, hc14, hf⟩ := bd2_some hf
          try dsimp only at hf
          refine E_callVi (rest := []) (ci := 12) cv_RX12_288 dX12_safest_53 (MX12_nextOrder hc14) rfl sM_0 rfl (by decide) rfl rfl (fun _ => Nat.le_of_ble_eq_true rfl) ?_
          refine E_istore (ls' := [some (.ref 0), some (.int a0), some (.int r5), some (.int x3_26_1), some (.int r15), some (.int r10)]) dX12_safest_56 rfl rfl rfl ?_
          refine E_goto 26 dX12_safest_58 (by decide) ?_
          obtain rfl := Option.some.inj hf
          refine E.fewer (ls' := [some (.ref 0), some (.int a0), some (.int r5), some (.int x3_26_1), some (.int r15), none]) ⟨Or.inr rfl, ⟨Or.inr rfl, ⟨Or.inr rfl, ⟨Or.inr rfl, ⟨Or.inr rfl, ⟨Or.inl rfl, trivial⟩⟩⟩⟩⟩⟩ ?_
          exact k9
        · rw [if_neg hc13] at hf
          refine E_iload (v := r10) dX12_safest_43 rfl ?_
          refine E_istore_n (ls' := [some (.ref 0), some (.int a0), some (.int r5), some (.int r10), some (.int x4_26_1), some (.int r10)]) dX12_safest_45 rfl rfl rfl ?_
          refine E_aload_n (v := 0) dX12_safest_46 rfl ?_
          refine E_iload_n (v := r5) dX12_safest_47 rfl ?_
          obtain ⟨w19, hc18, hf⟩ := bd_some hf
          try dsimp only at hf
          refine E_callVv (rest := []) (ci := 12) cv_RX12_285 dX12_safest_48 (MX12_keepsOrder hc18) rfl sM_0 rfl (by decide) rfl rfl (fun _ => Nat.le_of_ble_eq_true rfl) ?_
          refine E_aload_n (v := 0) dX12_safest_51 rfl ?_
          refine E_iload_n (v := r5) dX12_safest_52 rfl ?_
          obtain ⟨r21, w22, hc20, hf⟩ := bd2_some hf
          try dsimp only at hf
          refine E_callVi (rest := []) (ci := 12) cv_RX12_288 dX12_safest_53 (MX12_nextOrder hc20) rfl sM_0 rfl (by decide) rfl rfl (fun _ => Nat.le_of_ble_eq_true rfl) ?_
          refine E_istore (ls' := [some (.ref 0), some (.int a0), some (.int r5), some (.int r10), some (.int r21), some (.int r10)]) dX12_safest_56 rfl rfl rfl ?_
          refine E_goto 26 dX12_safest_58 (by decide) ?_
          obtain rfl := Option.some.inj hf
          refine E.fewer (ls' := [some (.ref 0), some (.int a0), some (.int r5), some (.int r10), some (.int r21), none]) ⟨Or.inr rfl, ⟨Or.inr rfl, ⟨Or.inr rfl, ⟨Or.inr rfl, ⟨Or.inr rfl, ⟨Or.inl rfl, trivial⟩⟩⟩⟩⟩⟩ ?_
          exact k9
    · skip
      obtain ⟨y25, w26⟩ := q
      try dsimp only at hf
      show E PM RX12 cX12_safest 6 6 61 [some (.ref 0), some (.int a0), none, some (.int y25), none, none] [] w26 Q
      refine E_aload_n (v := 0) dX12_safest_61 rfl ?_
      refine E_iload_n (v := y25) dX12_safest_62 rfl ?_
      refine E_iconst 1 dX12_safest_63 ic_1 ?_
      refine E_iconst 2 dX12_safest_64 ic_2 ?_
      refine E_aload_n (v := 0) dX12_safest_65 rfl ?_
      refine E_getI fg_RX12_96 dX12_safest_66 sM_0 rfl ?_
      refine E_imul dX12_safest_69 ?_
      refine E_ishl dX12_safest_70 ?_
      obtain ⟨w28, hc27, hf⟩ := bd_some hf
      try dsimp only at hf
      refine E_callVv (rest := []) (ci := 12) cv_RX12_321 dX12_safest_71 (MX12_lowest hc27) rfl sM_0 rfl (by decide) rfl rfl (fun _ => Nat.le_of_ble_eq_true rfl) ?_
      refine E_iload_n (v := a0) dX12_safest_74 rfl ?_
      refine E_if_ne 89 dX12_safest_75 (by decide) (fun hc29 => ?_) (fun hc29 => ?_)
      · rw [if_pos hc29] at hf
        refine E_aload_n (v := 0) dX12_safest_78 rfl ?_
        refine E_aload_n (v := 0) dX12_safest_79 rfl ?_
        refine E_getI fg_RX12_96 dX12_safest_80 sM_0 rfl ?_
        obtain ⟨r31, hc30, hf⟩ := bd_some hf
        try dsimp only at hf
        refine E_callVi (rest := []) (ci := 12) cv_RX12_300 dX12_safest_83 (MX12_digitsOf hc30) rfl sM_0 rfl (by decide) rfl rfl (fun _ => Nat.le_of_ble_eq_true rfl) ?_
        refine E_goto 105 dX12_safest_86 (by decide) ?_
        obtain ⟨rfl, rfl⟩ := ret2 hf
        exact E.done (by rw [eQ]; exact ⟨rfl, Or.inl ⟨_, _, rfl, rfl, dX12_safest_105, rfl, rfl⟩⟩)
      · rw [if_neg hc29] at hf
        refine E_iload_n (v := a0) dX12_safest_89 rfl ?_
        refine E_iconst 1 dX12_safest_90 ic_1 ?_
        refine E_icmp_ne 101 dX12_safest_91 (by decide) (fun hc32 => ?_) (fun hc32 => ?_)
        · rw [if_pos hc32] at hf
          refine E_aload_n (v := 0) dX12_safest_94 rfl ?_
          refine E_getI fg_RX12_306 dX12_safest_95 sM_0 rfl ?_
          refine E_goto 105 dX12_safest_98 (by decide) ?_
          obtain ⟨rfl, rfl⟩ := ret2 hf
          exact E.done (by rw [eQ]; exact ⟨rfl, Or.inl ⟨_, _, rfl, rfl, dX12_safest_105, rfl, rfl⟩⟩)
        · rw [if_neg hc32] at hf
          refine E_aload_n (v := 0) dX12_safest_101 rfl ?_
          refine E_getI fg_RX12_309 dX12_safest_102 sM_0 rfl ?_
          obtain ⟨rfl, rfl⟩ := ret2 hf
          exact E.done (by rw [eQ]; exact ⟨rfl, Or.inl ⟨_, _, rfl, rfl, dX12_safest_105, rfl, rfl⟩⟩)
set_option maxRecDepth 10000 in
set_option maxHeartbeats 2000000 in
theorem MX12_seed {a0 : Int32} {w : AW} {rZ : Int32} {wZ : AW} (hf : fX12_seed a0 w = some (rZ, wZ)) : CallOK PM yX12_seed cX12_seed 3 (some .int) 1 [.ref 0, .int a0] w (some (.int rZ)) wZ := by
  refine CallOK.of (ls := [some (.ref 0), some (.int a0), none]) (by decide) (by simp) rfl rfl ?_
  obtain ⟨Q, eQ⟩ : ∃ Q, Q = Qret cX12_seed (some .int) (some (.int rZ)) wZ := ⟨_, rfl⟩
  rw [← eQ]
  unfold fX12_seed at hf
  refine E_aload_n (v := 0) dX12_seed_0 rfl ?_
  refine E_getI fg_RX12_34 dX12_seed_1 sM_0 rfl ?_
  refine E_istore_n (ls' := [some (.ref 0), some (.int a0), some (.int (w.1 0 14))]) dX12_seed_4 rfl rfl rfl ?_
  refine E_aload_n (v := 0) dX12_seed_5 rfl ?_
  refine E_iload_n (v := a0) dX12_seed_6 rfl ?_
  obtain ⟨w1, ew1, hf⟩ := lw_some hf
  try dsimp only at hf
  refine E_putI fp_RX12_34 dX12_seed_7 sM_0 rfl rfl rfl ?_
  rw [← ew1]
  refine E_iload_n (v := (w.1 0 14)) dX12_seed_10 rfl ?_
  obtain ⟨rfl, rfl⟩ := ret2 hf
  exact E.done (by rw [eQ]; exact ⟨rfl, Or.inl ⟨_, _, rfl, rfl, dX12_seed_11, rfl, rfl⟩⟩)
set_option maxRecDepth 10000 in
set_option maxHeartbeats 2000000 in
theorem MX12_set {a0 : Int32} {a1 : Int32} {w : AW} {rZ : Int32} {wZ : AW} (hf : fX12_set a0 a1 w = some (rZ, wZ)) : CallOK PM yX12_set cX12_set 5 (some .int) 2 [.ref 0, .int a0, .int a1] w (some (.int rZ)) wZ := by
  refine CallOK.of (ls := [some (.ref 0), some (.int a0), some (.int a1), none, none]) (by decide) (by simp) rfl rfl ?_
  obtain ⟨Q, eQ⟩ : ∃ Q, Q = Qret cX12_set (some .int) (some (.int rZ)) wZ := ⟨_, rfl⟩
  rw [← eQ]
  unfold fX12_set at hf
  refine E_iload_n (v := a0) dX12_set_0 rfl ?_
  refine E_iconst 0 dX12_set_1 ic_0 ?_
  refine E_iconst 3 dX12_set_2 ic_3 ?_
  obtain ⟨r2, hc1, hf⟩ := bd_some hf
  try dsimp only at hf
  refine E_callSi (rest := []) cs_RX12_99 dX12_set_3 (MX12_in hc1) rfl rfl rfl (fun _ => Nat.le_of_ble_eq_true rfl) ?_
  refine E_if_eq 13 dX12_set_6 (by decide) (fun hc3 => ?_) (fun hc3 => ?_)
  · rw [if_pos hc3] at hf
    refine E_iconst 0 dX12_set_13 ic_0 ?_
    refine E_istore_n (ls' := [some (.ref 0), some (.int a0), some (.int a1), some (.int 0), none]) dX12_set_14 rfl rfl rfl ?_
    refine E_iload_n (v := 0) dX12_set_15 rfl ?_
    refine E_iload_n (v := a0) dX12_set_16 rfl ?_
    refine E_icmp_ne 39 dX12_set_17 (by decide) (fun hc4 => ?_) (fun hc4 => ?_)
    · rw [if_pos hc4] at hf
      refine E_iload_n (v := a1) dX12_set_20 rfl ?_
      refine E_aload_n (v := 0) dX12_set_21 rfl ?_
      refine E_getR fg_RX12_16 dX12_set_22 sM_0 rfl rM_0_3 (Nat.succ_ne_zero _) ?_
      refine E_iload_n (v := 0) dX12_set_25 rfl ?_
      refine E_iald (n := 4) dX12_set_26 sM_3 (by decide) (inb_in (by decide)) ?_
      refine E_aload_n (v := 0) dX12_set_27 rfl ?_
      refine E_getR fg_RX12_19 dX12_set_28 sM_0 rfl rM_0_4 (Nat.succ_ne_zero _) ?_
      refine E_iload_n (v := 0) dX12_set_31 rfl ?_
      refine E_iald (n := 4) dX12_set_32 sM_4 (by decide) (inb_in (by decide)) ?_
      obtain ⟨r6, hc5, hf⟩ := bd_some hf
      try dsimp only at hf
      refine E_callSi (rest := []) cs_RX12_99 dX12_set_33 (MX12_in hc5) rfl rfl rfl (fun _ => Nat.le_of_ble_eq_true rfl) ?_
      refine E_if_ne 41 dX12_set_36 (by decide) (fun hc7 => ?_) (fun hc7 => ?_)
      · rw [if_pos hc7] at hf
        refine E_iconst (-1) dX12_set_39 ic_m1 ?_
        obtain ⟨rfl, rfl⟩ := ret2 hf
        exact E.done (by rw [eQ]; exact ⟨rfl, Or.inl ⟨_, _, rfl, rfl, dX12_set_40, rfl, rfl⟩⟩)
      · rw [if_neg hc7] at hf
        refine E_aload_n (v := 0) dX12_set_41 rfl ?_
        refine E_getR fg_RX12_13 dX12_set_42 sM_0 rfl rM_0_2 (Nat.succ_ne_zero _) ?_
        refine E_iload_n (v := a0) dX12_set_45 rfl ?_
        obtain ⟨hi8, hf⟩ := gd_some hf
        refine E_iald (n := 4) dX12_set_46 sM_2 (by decide) (inb_in hi8) ?_
        refine E_istore (ls' := [some (.ref 0), some (.int a0), some (.int a1), some (.int 0), some (.int (w.1 2 a0.toNatClampNeg))]) dX12_set_47 rfl rfl rfl ?_
        refine E_aload_n (v := 0) dX12_set_49 rfl ?_
        refine E_getR fg_RX12_13 dX12_set_50 sM_0 rfl rM_0_2 (Nat.succ_ne_zero _) ?_
        refine E_iload_n (v := a0) dX12_set_53 rfl ?_
        refine E_iload_n (v := a1) dX12_set_54 rfl ?_
        obtain ⟨w9, ew9, hf⟩ := lw_some hf
        try dsimp only at hf
        refine E_iast (n := 4) dX12_set_55 sM_2 (by decide) (inb_in hi8) ?_
        rw [← ew9]
        refine E_iload (v := (w.1 2 a0.toNatClampNeg)) dX12_set_56 rfl ?_
        obtain ⟨rfl, rfl⟩ := ret2 hf
        exact E.done (by rw [eQ]; exact ⟨rfl, Or.inl ⟨_, _, rfl, rfl, dX12_set_58, rfl, rfl⟩⟩)
    · rw [if_neg hc4] at hf
      refine E_iconst (-1) dX12_set_39 ic_m1 ?_
      obtain ⟨rfl, rfl⟩ := ret2 hf
      exact E.done (by rw [eQ]; exact ⟨rfl, Or.inl ⟨_, _, rfl, rfl, dX12_set_40, rfl, rfl⟩⟩)
  · rw [if_neg hc3] at hf
    refine E_iload_n (v := a0) dX12_set_9 rfl ?_
    refine E_goto 14 dX12_set_10 (by decide) ?_
    refine E_istore_n (ls' := [some (.ref 0), some (.int a0), some (.int a1), some (.int a0), none]) dX12_set_14 rfl rfl rfl ?_
    refine E_iload_n (v := a0) dX12_set_15 rfl ?_
    refine E_iload_n (v := a0) dX12_set_16 rfl ?_
    refine E_icmp_ne 39 dX12_set_17 (by decide) (fun hc10 => ?_) (fun hc10 => ?_)
    · rw [if_pos hc10] at hf
      refine E_iload_n (v := a1) dX12_set_20 rfl ?_
      refine E_aload_n (v := 0) dX12_set_21 rfl ?_
      refine E_getR fg_RX12_16 dX12_set_22 sM_0 rfl rM_0_3 (Nat.succ_ne_zero _) ?_
      refine E_iload_n (v := a0) dX12_set_25 rfl ?_
      obtain ⟨hi11, hf⟩ := gd_some hf
      refine E_iald (n := 4) dX12_set_26 sM_3 (by decide) (inb_in hi11) ?_
      refine E_aload_n (v := 0) dX12_set_27 rfl ?_
      refine E_getR fg_RX12_19 dX12_set_28 sM_0 rfl rM_0_4 (Nat.succ_ne_zero _) ?_
      refine E_iload_n (v := a0) dX12_set_31 rfl ?_
      refine E_iald (n := 4) dX12_set_32 sM_4 (by decide) (inb_in hi11) ?_
      obtain ⟨r13, hc12, hf⟩ := bd_some hf
      try dsimp only at hf
      refine E_callSi (rest := []) cs_RX12_99 dX12_set_33 (MX12_in hc12) rfl rfl rfl (fun _ => Nat.le_of_ble_eq_true rfl) ?_
      refine E_if_ne 41 dX12_set_36 (by decide) (fun hc14 => ?_) (fun hc14 => ?_)
      · rw [if_pos hc14] at hf
        refine E_iconst (-1) dX12_set_39 ic_m1 ?_
        obtain ⟨rfl, rfl⟩ := ret2 hf
        exact E.done (by rw [eQ]; exact ⟨rfl, Or.inl ⟨_, _, rfl, rfl, dX12_set_40, rfl, rfl⟩⟩)
      · rw [if_neg hc14] at hf
        refine E_aload_n (v := 0) dX12_set_41 rfl ?_
        refine E_getR fg_RX12_13 dX12_set_42 sM_0 rfl rM_0_2 (Nat.succ_ne_zero _) ?_
        refine E_iload_n (v := a0) dX12_set_45 rfl ?_
        refine E_iald (n := 4) dX12_set_46 sM_2 (by decide) (inb_in hi11) ?_
        refine E_istore (ls' := [some (.ref 0), some (.int a0), some (.int a1), some (.int a0), some (.int (w.1 2 a0.toNatClampNeg))]) dX12_set_47 rfl rfl rfl ?_
        refine E_aload_n (v := 0) dX12_set_49 rfl ?_
        refine E_getR fg_RX12_13 dX12_set_50 sM_0 rfl rM_0_2 (Nat.succ_ne_zero _) ?_
        refine E_iload_n (v := a0) dX12_set_53 rfl ?_
        refine E_iload_n (v := a1) dX12_set_54 rfl ?_
        obtain ⟨w15, ew15, hf⟩ := lw_some hf
        try dsimp only at hf
        refine E_iast (n := 4) dX12_set_55 sM_2 (by decide) (inb_in hi11) ?_
        rw [← ew15]
        refine E_iload (v := (w.1 2 a0.toNatClampNeg)) dX12_set_56 rfl ?_
        obtain ⟨rfl, rfl⟩ := ret2 hf
        exact E.done (by rw [eQ]; exact ⟨rfl, Or.inl ⟨_, _, rfl, rfl, dX12_set_58, rfl, rfl⟩⟩)
    · rw [if_neg hc10] at hf
      refine E_iconst (-1) dX12_set_39 ic_m1 ?_
      obtain ⟨rfl, rfl⟩ := ret2 hf
      exact E.done (by rw [eQ]; exact ⟨rfl, Or.inl ⟨_, _, rfl, rfl, dX12_set_40, rfl, rfl⟩⟩)
set_option maxRecDepth 10000 in
set_option maxHeartbeats 2000000 in
theorem BX12_sheet_39 (N : Nat) (p1_39 : Int32) (p2_39 : Int32) (p3_39 : Int32) (w : AW) (rZ : Int32) (wZ : AW) {Q : Nat → List (Option Value) → List Value → AW → Prop} (eQ : Q = Qret cX12_sheet (some .int) (some (.int rZ)) wZ) (hf : bX12_sheet_39 N p1_39 p2_39 p3_39 w = some (rZ, wZ)) : E PM RX12 cX12_sheet 5 3 39 [some (.ref 0), some (.int p1_39), some (.int p2_39), some (.int p3_39), none] [] w Q := by
  unfold bX12_sheet_39 at hf
  refine E_aload_n (v := 0) dX12_sheet_39 rfl ?_
  refine E_getR fg_RX12_68 dX12_sheet_40 sM_0 rfl rM_0_38 (Nat.succ_ne_zero _) ?_
  refine E_iload_n (v := p1_39) dX12_sheet_43 rfl ?_
  refine E_iload_n (v := p2_39) dX12_sheet_44 rfl ?_
  obtain ⟨hi9, hf⟩ := gd_some hf
  obtain ⟨w10, ew10, hf⟩ := lw_some hf
  try dsimp only at hf
  refine E_iast (n := 4) dX12_sheet_45 sM_19 (by decide) (inb_in hi9) ?_
  rw [← ew10]
  refine E_aload_n (v := 0) dX12_sheet_46 rfl ?_
  refine E_getR fg_RX12_71 dX12_sheet_47 sM_0 rfl rM_0_39 (Nat.succ_ne_zero _) ?_
  refine E_iload_n (v := p1_39) dX12_sheet_50 rfl ?_
  refine E_iload_n (v := p2_39) dX12_sheet_51 rfl ?_
  refine E_if_ge 59 dX12_sheet_52 (by decide) (fun hc11 => ?_) (fun hc11 => ?_)
  · rw [if_pos hc11] at hf
    refine E_iload_n (v := p3_39) dX12_sheet_59 rfl ?_
    obtain ⟨w12, ew12, hf⟩ := lw_some hf
    try dsimp only at hf
    refine E_iast (n := 4) dX12_sheet_60 sM_20 (by decide) (inb_in hi9) ?_
    rw [← ew12]
    refine E_iconst 0 dX12_sheet_61 ic_0 ?_
    refine E_istore (ls' := [some (.ref 0), some (.int p1_39), some (.int p2_39), some (.int p3_39), some (.int 0)]) dX12_sheet_62 rfl rfl rfl ?_
    obtain ⟨q, hw16, hf⟩ := bd_some hf
    try dsimp only at hf
    refine E.fewer (ls' := [some (.ref 0), some (.int p1_39), none, none, some (.int 0)]) ⟨Or.inr rfl, ⟨Or.inr rfl, ⟨Or.inl rfl, ⟨Or.inl rfl, ⟨Or.inr rfl, trivial⟩⟩⟩⟩⟩ ?_
    show (fun (s : Int32 × AW) => E PM RX12 cX12_sheet 5 3 64 [some (.ref 0), some (.int p1_39), none, none, some (.int s.1)] [] s.2 Q) (0, w12)
    refine wh_E (K := (fun (s : Int32 × AW) => E PM RX12 cX12_sheet 5 3 64 [some (.ref 0), some (.int p1_39), none, none, some (.int s.1)] [] s.2 Q)) (X := (fun (s : AW) => E PM RX12 cX12_sheet 5 3 90 [none, none, none, none, none] [] s Q)) ?_ hw16 ?_
    · intro s9 z9 hf k9
      obtain ⟨x4_64_1, w_64_1⟩ := s9
      dsimp only [lbX12_sheet_64_1] at hf
      show E PM RX12 cX12_sheet 5 3 64 [some (.ref 0), some (.int p1_39), none, none, some (.int x4_64_1)] [] w_64_1 Q
      refine E_iload (v := x4_64_1) dX12_sheet_64 rfl ?_
      refine E_bipush 40 dX12_sheet_66 bp_40 ?_
      refine E_icmp_ge 90 dX12_sheet_68 (by decide) (fun hc13 => ?_) (fun hc13 => ?_)
      · rw [if_pos hc13] at hf
        obtain rfl := Option.some.inj hf
        refine E.fewer (ls' := [none, none, none, none, none]) ⟨Or.inl rfl, ⟨Or.inl rfl, ⟨Or.inl rfl, ⟨Or.inl rfl, ⟨Or.inl rfl, trivial⟩⟩⟩⟩⟩ ?_
        exact k9
      · rw [if_neg hc13] at hf
        refine E_aload_n (v := 0) dX12_sheet_71 rfl ?_
        refine E_getR fg_RX12_74 dX12_sheet_72 sM_0 rfl rM_0_40 (Nat.succ_ne_zero _) ?_
        refine E_bipush 40 dX12_sheet_75 bp_40 ?_
        refine E_iload_n (v := p1_39) dX12_sheet_77 rfl ?_
        refine E_imul dX12_sheet_78 ?_
        refine E_iload (v := x4_64_1) dX12_sheet_79 rfl ?_
        refine E_iadd dX12_sheet_81 ?_
        refine E_lconst 0 dX12_sheet_82 rfl ?_
        obtain ⟨hi14, hf⟩ := gd_some hf
        obtain ⟨w15, ew15, hf⟩ := lw_some hf
        try dsimp only at hf
        refine E_last (n := 160) dX12_sheet_83 sM_21 (inb_in hi14) ?_
        rw [← ew15]
        refine E_iinc (ls' := [some (.ref 0), some (.int p1_39), none, none, some (.int (x4_64_1 + 1))]) 1 dX12_sheet_84 rfl ic_1 rfl rfl rfl ?_
        refine E_goto 64 dX12_sheet_87 (by decide) ?_
        obtain rfl := Option.some.inj hf
        exact k9
    · skip
      obtain ⟨w17, hq9⟩ : ∃ a, a = q := ⟨_, rfl⟩
      subst hq9
      try dsimp only at hf
      show E PM RX12 cX12_sheet 5 3 90 [none, none, none, none, none] [] w17 Q
      refine E_iconst 1 dX12_sheet_90 ic_1 ?_
      obtain ⟨rfl, rfl⟩ := ret2 hf
      exact E.done (by rw [eQ]; exact ⟨rfl, Or.inl ⟨_, _, rfl, rfl, dX12_sheet_91, rfl, rfl⟩⟩)
  · rw [if_neg hc11] at hf
    refine E_iconst 0 dX12_sheet_55 ic_0 ?_
    refine E_goto 60 dX12_sheet_56 (by decide) ?_
    obtain ⟨w18, ew18, hf⟩ := lw_some hf
    try dsimp only at hf
    refine E_iast (n := 4) dX12_sheet_60 sM_20 (by decide) (inb_in hi9) ?_
    rw [← ew18]
    refine E_iconst 0 dX12_sheet_61 ic_0 ?_
    refine E_istore (ls' := [some (.ref 0), some (.int p1_39), some (.int p2_39), some (.int p3_39), some (.int 0)]) dX12_sheet_62 rfl rfl rfl ?_
    obtain ⟨q, hw22, hf⟩ := bd_some hf
    try dsimp only at hf
    refine E.fewer (ls' := [some (.ref 0), some (.int p1_39), none, none, some (.int 0)]) ⟨Or.inr rfl, ⟨Or.inr rfl, ⟨Or.inl rfl, ⟨Or.inl rfl, ⟨Or.inr rfl, trivial⟩⟩⟩⟩⟩ ?_
    show (fun (s : Int32 × AW) => E PM RX12 cX12_sheet 5 3 64 [some (.ref 0), some (.int p1_39), none, none, some (.int s.1)] [] s.2 Q) (0, w18)
    refine wh_E (K := (fun (s : Int32 × AW) => E PM RX12 cX12_sheet 5 3 64 [some (.ref 0), some (.int p1_39), none, none, some (.int s.1)] [] s.2 Q)) (X := (fun (s : AW) => E PM RX12 cX12_sheet 5 3 90 [none, none, none, none, none] [] s Q)) ?_ hw22 ?_
    · intro s9 z9 hf k9
      obtain ⟨x4_64_2, w_64_2⟩ := s9
      dsimp only [lbX12_sheet_64_2] at hf
      show E PM RX12 cX12_sheet 5 3 64 [some (.ref 0), some (.int p1_39), none, none, some (.int x4_64_2)] [] w_64_2 Q
      refine E_iload (v := x4_64_2) dX12_sheet_64 rfl ?_
      refine E_bipush 40 dX12_sheet_66 bp_40 ?_
      refine E_icmp_ge 90 dX12_sheet_68 (by decide) (fun hc19 => ?_) (fun hc19 => ?_)
      · rw [if_pos hc19] at hf
        obtain rfl := Option.some.inj hf
        refine E.fewer (ls' := [none, none, none, none, none]) ⟨Or.inl rfl, ⟨Or.inl rfl, ⟨Or.inl rfl, ⟨Or.inl rfl, ⟨Or.inl rfl, trivial⟩⟩⟩⟩⟩ ?_
        exact k9
      · rw [if_neg hc19] at hf
        refine E_aload_n (v := 0) dX12_sheet_71 rfl ?_
        refine E_getR fg_RX12_74 dX12_sheet_72 sM_0 rfl rM_0_40 (Nat.succ_ne_zero _) ?_
        refine E_bipush 40 dX12_sheet_75 bp_40 ?_
        refine E_iload_n (v := p1_39) dX12_sheet_77 rfl ?_
        refine E_imul dX12_sheet_78 ?_
        refine E_iload (v := x4_64_2) dX12_sheet_79 rfl ?_
        refine E_iadd dX12_sheet_81 ?_
        refine E_lconst 0 dX12_sheet_82 rfl ?_
        obtain ⟨hi20, hf⟩ := gd_some hf
        obtain ⟨w21, ew21, hf⟩ := lw_some hf
        try dsimp only at hf
        refine E_last (n := 160) dX12_sheet_83 sM_21 (inb_in hi20) ?_
        rw [← ew21]
        refine E_iinc (ls' := [some (.ref 0), some (.int p1_39), none, none, some (.int (x4_64_2 + 1))]) 1 dX12_sheet_84 rfl ic_1 rfl rfl rfl ?_
        refine E_goto 64 dX12_sheet_87 (by decide) ?_
        obtain rfl := Option.some.inj hf
        exact k9
    · skip
      obtain ⟨w23, hq9⟩ : ∃ a, a = q := ⟨_, rfl⟩
      subst hq9
      try dsimp only at hf
      show E PM RX12 cX12_sheet 5 3 90 [none, none, none, none, none] [] w23 Q
      refine E_iconst 1 dX12_sheet_90 ic_1 ?_
      obtain ⟨rfl, rfl⟩ := ret2 hf
      exact E.done (by rw [eQ]; exact ⟨rfl, Or.inl ⟨_, _, rfl, rfl, dX12_sheet_91, rfl, rfl⟩⟩)
set_option maxRecDepth 10000 in
set_option maxHeartbeats 2000000 in
theorem BX12_sheet_28 (N : Nat) (p1_28 : Int32) (p2_28 : Int32) (p3_28 : Int32) (w : AW) (rZ : Int32) (wZ : AW) {Q : Nat → List (Option Value) → List Value → AW → Prop} (eQ : Q = Qret cX12_sheet (some .int) (some (.int rZ)) wZ) (hf : bX12_sheet_28 N p1_28 p2_28 p3_28 w = some (rZ, wZ)) : E PM RX12 cX12_sheet 5 3 28 [some (.ref 0), some (.int p1_28), some (.int p2_28), some (.int p3_28), none] [] w Q := by
  unfold bX12_sheet_28 at hf
  refine E_iload_n (v := p2_28) dX12_sheet_28 rfl ?_
  refine E_if_lt 39 dX12_sheet_29 (by decide) (fun hc8 => ?_) (fun hc8 => ?_)
  · rw [if_pos hc8] at hf
    exact BX12_sheet_39 N p1_28 p2_28 p3_28 w  rZ wZ eQ hf
  · rw [if_neg hc8] at hf
    refine E_iload_n (v := p3_28) dX12_sheet_32 rfl ?_
    refine E_if_ge 39 dX12_sheet_33 (by decide) (fun hc24 => ?_) (fun hc24 => ?_)
    · rw [if_pos hc24] at hf
      exact BX12_sheet_39 N p1_28 p2_28 p3_28 w  rZ wZ eQ hf
    · rw [if_neg hc24] at hf
      refine E_bipush (-14) dX12_sheet_36 bp_m14 ?_
      obtain ⟨rfl, rfl⟩ := ret2 hf
      exact E.done (by rw [eQ]; exact ⟨rfl, Or.inl ⟨_, _, rfl, rfl, dX12_sheet_38, rfl, rfl⟩⟩)
set_option maxRecDepth 10000 in
set_option maxHeartbeats 2000000 in
theorem MX12_sheet {N : Nat} {a0 : Int32} {a1 : Int32} {a2 : Int32} {w : AW} {rZ : Int32} {wZ : AW} (hf : fX12_sheet N a0 a1 a2 w = some (rZ, wZ)) : CallOK PM yX12_sheet cX12_sheet 5 (some .int) 3 [.ref 0, .int a0, .int a1, .int a2] w (some (.int rZ)) wZ := by
  refine CallOK.of (ls := [some (.ref 0), some (.int a0), some (.int a1), some (.int a2), none]) (by decide) (by simp) rfl rfl ?_
  obtain ⟨Q, eQ⟩ : ∃ Q, Q = Qret cX12_sheet (some .int) (some (.int rZ)) wZ := ⟨_, rfl⟩
  rw [← eQ]
  unfold fX12_sheet at hf
  refine E_iload_n (v := a0) dX12_sheet_0 rfl ?_
  obtain ⟨r2, hc1, hf⟩ := bd_some hf
  try dsimp only at hf
  refine E_callSi (rest := []) cs_RX12_346 dX12_sheet_1 (MX12_isShelf hc1) rfl rfl rfl (fun _ => Nat.le_of_ble_eq_true rfl) ?_
  refine E_if_eq 26 dX12_sheet_4 (by decide) (fun hc3 => ?_) (fun hc3 => ?_)
  · rw [if_pos hc3] at hf
    refine E_iconst (-1) dX12_sheet_26 ic_m1 ?_
    obtain ⟨rfl, rfl⟩ := ret2 hf
    exact E.done (by rw [eQ]; exact ⟨rfl, Or.inl ⟨_, _, rfl, rfl, dX12_sheet_27, rfl, rfl⟩⟩)
  · rw [if_neg hc3] at hf
    refine E_iload_n (v := a1) dX12_sheet_7 rfl ?_
    refine E_iconst (-1) dX12_sheet_8 ic_m1 ?_
    refine E_iconst 3 dX12_sheet_9 ic_3 ?_
    obtain ⟨r5, hc4, hf⟩ := bd_some hf
    try dsimp only at hf
    refine E_callSi (rest := []) cs_RX12_99 dX12_sheet_10 (MX12_in hc4) rfl rfl rfl (fun _ => Nat.le_of_ble_eq_true rfl) ?_
    refine E_if_eq 26 dX12_sheet_13 (by decide) (fun hc6 => ?_) (fun hc6 => ?_)
    · rw [if_pos hc6] at hf
      refine E_iconst (-1) dX12_sheet_26 ic_m1 ?_
      obtain ⟨rfl, rfl⟩ := ret2 hf
      exact E.done (by rw [eQ]; exact ⟨rfl, Or.inl ⟨_, _, rfl, rfl, dX12_sheet_27, rfl, rfl⟩⟩)
    · rw [if_neg hc6] at hf
      refine E_iload_n (v := a1) dX12_sheet_16 rfl ?_
      refine E_if_lt 28 dX12_sheet_17 (by decide) (fun hc7 => ?_) (fun hc7 => ?_)
      · rw [if_pos hc7] at hf
        exact BX12_sheet_28 N a0 a1 a2 w  rZ wZ eQ hf
      · rw [if_neg hc7] at hf
        refine E_iload_n (v := a2) dX12_sheet_20 rfl ?_
        refine E_bipush 40 dX12_sheet_21 bp_40 ?_
        refine E_icmp_le 28 dX12_sheet_23 (by decide) (fun hc25 => ?_) (fun hc25 => ?_)
        · rw [if_pos hc25] at hf
          exact BX12_sheet_28 N a0 a1 a2 w  rZ wZ eQ hf
        · rw [if_neg hc25] at hf
          refine E_iconst (-1) dX12_sheet_26 ic_m1 ?_
          obtain ⟨rfl, rfl⟩ := ret2 hf
          exact E.done (by rw [eQ]; exact ⟨rfl, Or.inl ⟨_, _, rfl, rfl, dX12_sheet_27, rfl, rfl⟩⟩)
set_option maxRecDepth 10000 in
set_option maxHeartbeats 2000000 in
theorem BX12_shelf_47 (p1_47 : Int32) (p2_47 : Int32) (p3_47 : Int32) (q0_47 : Int32) (q1_47 : Int32) (w : AW) (rZ : Int32) (wZ : AW) {Q : Nat → List (Option Value) → List Value → AW → Prop} (eQ : Q = Qret cX12_shelf (some .int) (some (.int rZ)) wZ) (hf : bX12_shelf_47 p1_47 p2_47 p3_47 q0_47 q1_47 w = some (rZ, wZ)) : E PM RX12 cX12_shelf 4 4 47 [some (.ref 0), some (.int p1_47), some (.int p2_47), some (.int p3_47)] [.int q0_47, .int q1_47, .ref 22] w Q := by
  unfold bX12_shelf_47 at hf
  obtain ⟨hi8, hf⟩ := gd_some hf
  obtain ⟨w9, ew9, hf⟩ := lw_some hf
  try dsimp only at hf
  refine E_iast (n := 4) dX12_shelf_47 sM_22 (by decide) (inb_in hi8) ?_
  rw [← ew9]
  refine E_aload_n (v := 0) dX12_shelf_48 rfl ?_
  refine E_getR fg_RX12_81 dX12_shelf_49 sM_0 rfl rM_0_42 (Nat.succ_ne_zero _) ?_
  refine E_iload_n (v := p1_47) dX12_shelf_52 rfl ?_
  refine E_iload_n (v := p2_47) dX12_shelf_53 rfl ?_
  refine E_iconst 1 dX12_shelf_54 ic_1 ?_
  refine E_icmp_ne 67 dX12_shelf_55 (by decide) (fun hc10 => ?_) (fun hc10 => ?_)
  · rw [if_pos hc10] at hf
    refine E_aload_n (v := 0) dX12_shelf_58 rfl ?_
    refine E_getR fg_RX12_68 dX12_shelf_59 sM_0 rfl rM_0_38 (Nat.succ_ne_zero _) ?_
    refine E_iload_n (v := p3_47) dX12_shelf_62 rfl ?_
    obtain ⟨hi11, hf⟩ := gd_some hf
    refine E_iald (n := 4) dX12_shelf_63 sM_19 (by decide) (inb_in hi11) ?_
    refine E_goto 68 dX12_shelf_64 (by decide) ?_
    obtain ⟨hi12, hf⟩ := gd_some hf
    obtain ⟨w13, ew13, hf⟩ := lw_some hf
    try dsimp only at hf
    refine E_iast (n := 4) dX12_shelf_68 sM_23 (by decide) (inb_in hi12) ?_
    rw [← ew13]
    refine E_aload_n (v := 0) dX12_shelf_69 rfl ?_
    refine E_getR fg_RX12_84 dX12_shelf_70 sM_0 rfl rM_0_43 (Nat.succ_ne_zero _) ?_
    refine E_iload_n (v := p1_47) dX12_shelf_73 rfl ?_
    refine E_iload_n (v := p2_47) dX12_shelf_74 rfl ?_
    refine E_iconst 1 dX12_shelf_75 ic_1 ?_
    refine E_icmp_ne 88 dX12_shelf_76 (by decide) (fun hc14 => ?_) (fun hc14 => ?_)
    · rw [if_pos hc14] at hf
      refine E_aload_n (v := 0) dX12_shelf_79 rfl ?_
      refine E_getR fg_RX12_71 dX12_shelf_80 sM_0 rfl rM_0_39 (Nat.succ_ne_zero _) ?_
      refine E_iload_n (v := p3_47) dX12_shelf_83 rfl ?_
      refine E_iald (n := 4) dX12_shelf_84 sM_20 (by decide) (inb_in hi11) ?_
      refine E_goto 89 dX12_shelf_85 (by decide) ?_
      obtain ⟨w15, ew15, hf⟩ := lw_some hf
      try dsimp only at hf
      refine E_iast (n := 4) dX12_shelf_89 sM_24 (by decide) (inb_in hi12) ?_
      rw [← ew15]
      refine E_iconst 1 dX12_shelf_90 ic_1 ?_
      obtain ⟨rfl, rfl⟩ := ret2 hf
      exact E.done (by rw [eQ]; exact ⟨rfl, Or.inl ⟨_, _, rfl, rfl, dX12_shelf_91, rfl, rfl⟩⟩)
    · rw [if_neg hc14] at hf
      refine E_iconst 0 dX12_shelf_88 ic_0 ?_
      obtain ⟨w16, ew16, hf⟩ := lw_some hf
      try dsimp only at hf
      refine E_iast (n := 4) dX12_shelf_89 sM_24 (by decide) (inb_in hi12) ?_
      rw [← ew16]
      refine E_iconst 1 dX12_shelf_90 ic_1 ?_
      obtain ⟨rfl, rfl⟩ := ret2 hf
      exact E.done (by rw [eQ]; exact ⟨rfl, Or.inl ⟨_, _, rfl, rfl, dX12_shelf_91, rfl, rfl⟩⟩)
  · rw [if_neg hc10] at hf
    refine E_iload_n (v := p3_47) dX12_shelf_67 rfl ?_
    obtain ⟨hi17, hf⟩ := gd_some hf
    obtain ⟨w18, ew18, hf⟩ := lw_some hf
    try dsimp only at hf
    refine E_iast (n := 4) dX12_shelf_68 sM_23 (by decide) (inb_in hi17) ?_
    rw [← ew18]
    refine E_aload_n (v := 0) dX12_shelf_69 rfl ?_
    refine E_getR fg_RX12_84 dX12_shelf_70 sM_0 rfl rM_0_43 (Nat.succ_ne_zero _) ?_
    refine E_iload_n (v := p1_47) dX12_shelf_73 rfl ?_
    refine E_iload_n (v := p2_47) dX12_shelf_74 rfl ?_
    refine E_iconst 1 dX12_shelf_75 ic_1 ?_
    refine E_icmp_ne 88 dX12_shelf_76 (by decide) (fun hc19 => ?_) (fun hc19 => ?_)
    · rw [if_pos hc19] at hf
      refine E_aload_n (v := 0) dX12_shelf_79 rfl ?_
      refine E_getR fg_RX12_71 dX12_shelf_80 sM_0 rfl rM_0_39 (Nat.succ_ne_zero _) ?_
      refine E_iload_n (v := p3_47) dX12_shelf_83 rfl ?_
      obtain ⟨hi20, hf⟩ := gd_some hf
      refine E_iald (n := 4) dX12_shelf_84 sM_20 (by decide) (inb_in hi20) ?_
      refine E_goto 89 dX12_shelf_85 (by decide) ?_
      obtain ⟨w21, ew21, hf⟩ := lw_some hf
      try dsimp only at hf
      refine E_iast (n := 4) dX12_shelf_89 sM_24 (by decide) (inb_in hi17) ?_
      rw [← ew21]
      refine E_iconst 1 dX12_shelf_90 ic_1 ?_
      obtain ⟨rfl, rfl⟩ := ret2 hf
      exact E.done (by rw [eQ]; exact ⟨rfl, Or.inl ⟨_, _, rfl, rfl, dX12_shelf_91, rfl, rfl⟩⟩)
    · rw [if_neg hc19] at hf
      refine E_iconst 0 dX12_shelf_88 ic_0 ?_
      obtain ⟨w22, ew22, hf⟩ := lw_some hf
      try dsimp only at hf
      refine E_iast (n := 4) dX12_shelf_89 sM_24 (by decide) (inb_in hi17) ?_
      rw [← ew22]
      refine E_iconst 1 dX12_shelf_90 ic_1 ?_
      obtain ⟨rfl, rfl⟩ := ret2 hf
      exact E.done (by rw [eQ]; exact ⟨rfl, Or.inl ⟨_, _, rfl, rfl, dX12_shelf_91, rfl, rfl⟩⟩)
set_option maxRecDepth 10000 in
set_option maxHeartbeats 2000000 in
theorem BX12_shelf_42 (p1_42 : Int32) (p2_42 : Int32) (p3_42 : Int32) (q0_42 : Int32) (w : AW) (rZ : Int32) (wZ : AW) {Q : Nat → List (Option Value) → List Value → AW → Prop} (eQ : Q = Qret cX12_shelf (some .int) (some (.int rZ)) wZ) (hf : bX12_shelf_42 p1_42 p2_42 p3_42 q0_42 w = some (rZ, wZ)) : E PM RX12 cX12_shelf 4 4 42 [some (.ref 0), some (.int p1_42), some (.int p2_42), some (.int p3_42)] [.int q0_42, .ref 22] w Q := by
  unfold bX12_shelf_42 at hf
  refine E_iconst (-1) dX12_shelf_42 ic_m1 ?_
  refine E_goto 47 dX12_shelf_43 (by decide) ?_
  exact BX12_shelf_47 p1_42 p2_42 p3_42 (-1) q0_42 w  rZ wZ eQ hf
set_option maxRecDepth 10000 in
set_option maxHeartbeats 2000000 in
theorem BX12_shelf_46 (p1_46 : Int32) (p2_46 : Int32) (p3_46 : Int32) (q0_46 : Int32) (w : AW) (rZ : Int32) (wZ : AW) {Q : Nat → List (Option Value) → List Value → AW → Prop} (eQ : Q = Qret cX12_shelf (some .int) (some (.int rZ)) wZ) (hf : bX12_shelf_46 p1_46 p2_46 p3_46 q0_46 w = some (rZ, wZ)) : E PM RX12 cX12_shelf 4 4 46 [some (.ref 0), some (.int p1_46), some (.int p2_46), some (.int p3_46)] [.int q0_46, .ref 22] w Q := by
  unfold bX12_shelf_46 at hf
  refine E_iload_n (v := p2_46) dX12_shelf_46 rfl ?_
  exact BX12_shelf_47 p1_46 p2_46 p3_46 p2_46 q0_46 w  rZ wZ eQ hf
set_option maxRecDepth 10000 in
set_option maxHeartbeats 2000000 in
theorem MX12_shelf {a0 : Int32} {a1 : Int32} {a2 : Int32} {w : AW} {rZ : Int32} {wZ : AW} (hf : fX12_shelf a0 a1 a2 w = some (rZ, wZ)) : CallOK PM yX12_shelf cX12_shelf 4 (some .int) 4 [.ref 0, .int a0, .int a1, .int a2] w (some (.int rZ)) wZ := by
  refine CallOK.of (ls := [some (.ref 0), some (.int a0), some (.int a1), some (.int a2)]) (by decide) (by simp) rfl rfl ?_
  obtain ⟨Q, eQ⟩ : ∃ Q, Q = Qret cX12_shelf (some .int) (some (.int rZ)) wZ := ⟨_, rfl⟩
  rw [← eQ]
  unfold fX12_shelf at hf
  refine E_iload_n (v := a0) dX12_shelf_0 rfl ?_
  obtain ⟨r2, hc1, hf⟩ := bd_some hf
  try dsimp only at hf
  refine E_callSi (rest := []) cs_RX12_346 dX12_shelf_1 (MX12_isShelf hc1) rfl rfl rfl (fun _ => Nat.le_of_ble_eq_true rfl) ?_
  refine E_if_eq 16 dX12_shelf_4 (by decide) (fun hc3 => ?_) (fun hc3 => ?_)
  · rw [if_pos hc3] at hf
    refine E_iconst (-1) dX12_shelf_16 ic_m1 ?_
    obtain ⟨rfl, rfl⟩ := ret2 hf
    exact E.done (by rw [eQ]; exact ⟨rfl, Or.inl ⟨_, _, rfl, rfl, dX12_shelf_17, rfl, rfl⟩⟩)
  · rw [if_neg hc3] at hf
    refine E_aload_n (v := 0) dX12_shelf_7 rfl ?_
    refine E_iload_n (v := a1) dX12_shelf_8 rfl ?_
    refine E_iload_n (v := a2) dX12_shelf_9 rfl ?_
    obtain ⟨r5, hc4, hf⟩ := bd_some hf
    try dsimp only at hf
    refine E_callVi (rest := []) (ci := 12) cv_RX12_352 dX12_shelf_10 (MX12_isHeld hc4) rfl sM_0 rfl (by decide) rfl rfl (fun _ => Nat.le_of_ble_eq_true rfl) ?_
    refine E_if_ne 18 dX12_shelf_13 (by decide) (fun hc6 => ?_) (fun hc6 => ?_)
    · rw [if_pos hc6] at hf
      refine E_iconst (-1) dX12_shelf_16 ic_m1 ?_
      obtain ⟨rfl, rfl⟩ := ret2 hf
      exact E.done (by rw [eQ]; exact ⟨rfl, Or.inl ⟨_, _, rfl, rfl, dX12_shelf_17, rfl, rfl⟩⟩)
    · rw [if_neg hc6] at hf
      refine E_aload_n (v := 0) dX12_shelf_18 rfl ?_
      refine E_getR fg_RX12_78 dX12_shelf_19 sM_0 rfl rM_0_41 (Nat.succ_ne_zero _) ?_
      refine E_iload_n (v := a0) dX12_shelf_22 rfl ?_
      refine E_iload_n (v := a1) dX12_shelf_23 rfl ?_
      refine E_iconst 2 dX12_shelf_24 ic_2 ?_
      refine E_icmp_eq 42 dX12_shelf_25 (by decide) (fun hc7 => ?_) (fun hc7 => ?_)
      · rw [if_pos hc7] at hf
        exact BX12_shelf_42 a0 a1 a2 a0 w  rZ wZ eQ hf
      · rw [if_neg hc7] at hf
        refine E_iload_n (v := a1) dX12_shelf_28 rfl ?_
        refine E_iconst 1 dX12_shelf_29 ic_1 ?_
        refine E_icmp_ne 46 dX12_shelf_30 (by decide) (fun hc23 => ?_) (fun hc23 => ?_)
        · rw [if_pos hc23] at hf
          refine E_aload_n (v := 0) dX12_shelf_33 rfl ?_
          refine E_getR fg_RX12_68 dX12_shelf_34 sM_0 rfl rM_0_38 (Nat.succ_ne_zero _) ?_
          refine E_iload_n (v := a2) dX12_shelf_37 rfl ?_
          obtain ⟨hi24, hf⟩ := gd_some hf
          refine E_iald (n := 4) dX12_shelf_38 sM_19 (by decide) (inb_in hi24) ?_
          refine E_if_ge 46 dX12_shelf_39 (by decide) (fun hc25 => ?_) (fun hc25 => ?_)
          · rw [if_pos hc25] at hf
            exact BX12_shelf_46 a0 a1 a2 a0 w  rZ wZ eQ hf
          · rw [if_neg hc25] at hf
            exact BX12_shelf_42 a0 a1 a2 a0 w  rZ wZ eQ hf
        · rw [if_neg hc23] at hf
          exact BX12_shelf_46 a0 a1 a2 a0 w  rZ wZ eQ hf
set_option maxRecDepth 10000 in
set_option maxHeartbeats 2000000 in
theorem MX12_slots {a0 : Int32} {w : AW} {rZ : Int32} (hf : fX12_slots a0 w = some rZ) : CallOK PM yX12_slots cX12_slots 2 (some .int) 2 [.ref 0, .int a0] w (some (.int rZ)) w := by
  refine CallOK.of (ls := [some (.ref 0), some (.int a0)]) (by decide) (by simp) rfl rfl ?_
  obtain ⟨Q, eQ⟩ : ∃ Q, Q = Qret cX12_slots (some .int) (some (.int rZ)) w := ⟨_, rfl⟩
  rw [← eQ]
  unfold fX12_slots at hf
  refine E_iload_n (v := a0) dX12_slots_0 rfl ?_
  refine E_iconst 0 dX12_slots_1 ic_0 ?_
  refine E_bipush 99 dX12_slots_2 bp_99 ?_
  obtain ⟨r2, hc1, hf⟩ := bd_some hf
  try dsimp only at hf
  refine E_callSi (rest := []) cs_RX12_99 dX12_slots_4 (MX12_in hc1) rfl rfl rfl (fun _ => Nat.le_of_ble_eq_true rfl) ?_
  refine E_if_eq 18 dX12_slots_7 (by decide) (fun hc3 => ?_) (fun hc3 => ?_)
  · rw [if_pos hc3] at hf
    refine E_iconst (-1) dX12_slots_18 ic_m1 ?_
    obtain rfl := Option.some.inj hf
    exact E.done (by rw [eQ]; exact ⟨rfl, Or.inl ⟨_, _, rfl, rfl, dX12_slots_19, rfl, rfl⟩⟩)
  · rw [if_neg hc3] at hf
    refine E_aload_n (v := 0) dX12_slots_10 rfl ?_
    refine E_iload_n (v := a0) dX12_slots_11 rfl ?_
    obtain ⟨r5, hc4, hf⟩ := bd_some hf
    try dsimp only at hf
    refine E_callVi (rest := []) (ci := 12) cv_RX12_248 dX12_slots_12 (MX12_slotsOf hc4) rfl sM_0 rfl (by decide) rfl rfl (fun _ => Nat.le_of_ble_eq_true rfl) ?_
    refine E_goto 19 dX12_slots_15 (by decide) ?_
    obtain rfl := Option.some.inj hf
    exact E.done (by rw [eQ]; exact ⟨rfl, Or.inl ⟨_, _, rfl, rfl, dX12_slots_19, rfl, rfl⟩⟩)
set_option maxRecDepth 10000 in
set_option maxHeartbeats 2000000 in
theorem MX12_soonest {N : Nat} {a0 : Int32} {a1 : Int32} {a2 : Int32} {w : AW} {rZ : Int32} {wZ : AW} (hf : fX12_soonest N a0 a1 a2 w = some (rZ, wZ)) : CallOK PM yX12_soonest cX12_soonest 8 (some .int) 5 [.ref 0, .int a0, .int a1, .int a2] w (some (.int rZ)) wZ := by
  refine CallOK.of (ls := [some (.ref 0), some (.int a0), some (.int a1), some (.int a2), none, none, none, none]) (by decide) (by simp) rfl rfl ?_
  obtain ⟨Q, eQ⟩ : ∃ Q, Q = Qret cX12_soonest (some .int) (some (.int rZ)) wZ := ⟨_, rfl⟩
  rw [← eQ]
  unfold fX12_soonest at hf
  refine E_iload_n (v := a0) dX12_soonest_0 rfl ?_
  refine E_iload_n (v := a1) dX12_soonest_1 rfl ?_
  refine E_iload_n (v := a2) dX12_soonest_2 rfl ?_
  obtain ⟨r2, hc1, hf⟩ := bd_some hf
  try dsimp only at hf
  refine E_callSi (rest := []) cs_RX12_232 dX12_soonest_3 (MX12_isLike hc1) rfl rfl rfl (fun _ => Nat.le_of_ble_eq_true rfl) ?_
  refine E_if_ne 11 dX12_soonest_6 (by decide) (fun hc3 => ?_) (fun hc3 => ?_)
  · rw [if_pos hc3] at hf
    refine E_iconst (-1) dX12_soonest_9 ic_m1 ?_
    obtain ⟨rfl, rfl⟩ := ret2 hf
    exact E.done (by rw [eQ]; exact ⟨rfl, Or.inl ⟨_, _, rfl, rfl, dX12_soonest_10, rfl, rfl⟩⟩)
  · rw [if_neg hc3] at hf
    refine E_aload_n (v := 0) dX12_soonest_11 rfl ?_
    refine E_getI fg_RX12_96 dX12_soonest_12 sM_0 rfl ?_
    refine E_bipush 6 dX12_soonest_15 bp_6 ?_
    refine E_icmp_ne 23 dX12_soonest_17 (by decide) (fun hc4 => ?_) (fun hc4 => ?_)
    · rw [if_pos hc4] at hf
      refine E_bipush (-2) dX12_soonest_20 bp_m2 ?_
      obtain ⟨rfl, rfl⟩ := ret2 hf
      exact E.done (by rw [eQ]; exact ⟨rfl, Or.inl ⟨_, _, rfl, rfl, dX12_soonest_22, rfl, rfl⟩⟩)
    · rw [if_neg hc4] at hf
      refine E_aload_n (v := 0) dX12_soonest_23 rfl ?_
      refine E_aload_n (v := 0) dX12_soonest_24 rfl ?_
      refine E_getI fg_RX12_96 dX12_soonest_25 sM_0 rfl ?_
      refine E_iload_n (v := a0) dX12_soonest_28 rfl ?_
      refine E_iload_n (v := a1) dX12_soonest_29 rfl ?_
      refine E_iload_n (v := a2) dX12_soonest_30 rfl ?_
      refine E_bipush 60 dX12_soonest_31 bp_60 ?_
      refine E_iconst 0 dX12_soonest_33 ic_0 ?_
      obtain ⟨w6, hc5, hf⟩ := bd_some hf
      try dsimp only at hf
      refine E_callVv (rest := []) (ci := 12) cv_RX12_213 dX12_soonest_34 (MX12_lay hc5) rfl sM_0 rfl (by decide) rfl rfl (fun _ => Nat.le_of_ble_eq_true rfl) ?_
      refine E_aload_n (v := 0) dX12_soonest_37 rfl ?_
      refine E_aload_n (v := 0) dX12_soonest_38 rfl ?_
      refine E_getI fg_RX12_96 dX12_soonest_39 sM_0 rfl ?_
      refine E_iconst 1 dX12_soonest_42 ic_1 ?_
      refine E_iadd dX12_soonest_43 ?_
      refine E_iconst (-1) dX12_soonest_44 ic_m1 ?_
      obtain ⟨r8, w9, hc7, hf⟩ := bd2_some hf
      try dsimp only at hf
      refine E_callVi (rest := []) (ci := 12) cv_RX12_281 dX12_soonest_45 (MX12_firstOrder hc7) rfl sM_0 rfl (by decide) rfl rfl (fun _ => Nat.le_of_ble_eq_true rfl) ?_
      refine E_istore (ls' := [some (.ref 0), some (.int a0), some (.int a1), some (.int a2), some (.int r8), none, none, none]) dX12_soonest_48 rfl rfl rfl ?_
      refine E_bipush (-3) dX12_soonest_50 bp_m3 ?_
      refine E_istore (ls' := [some (.ref 0), some (.int a0), some (.int a1), some (.int a2), some (.int r8), some (.int (-3)), none, none]) dX12_soonest_52 rfl rfl rfl ?_
      refine E_iconst 1 dX12_soonest_54 ic_1 ?_
      refine E_istore (ls' := [some (.ref 0), some (.int a0), some (.int a1), some (.int a2), some (.int r8), some (.int (-3)), some (.int 1), none]) dX12_soonest_55 rfl rfl rfl ?_
      obtain ⟨q, hw36, hf⟩ := bd_some hf
      try dsimp only at hf
      refine E.fewer (ls' := [some (.ref 0), none, none, none, some (.int r8), some (.int (-3)), some (.int 1), none]) ⟨Or.inr rfl, ⟨Or.inl rfl, ⟨Or.inl rfl, ⟨Or.inl rfl, ⟨Or.inr rfl, ⟨Or.inr rfl, ⟨Or.inr rfl, ⟨Or.inl rfl, trivial⟩⟩⟩⟩⟩⟩⟩⟩ ?_
      show (fun (s : Int32 × Int32 × AW) => E PM RX12 cX12_soonest 8 5 57 [some (.ref 0), none, none, none, some (.int r8), some (.int s.1), some (.int s.2.1), none] [] s.2.2 Q) ((-3), 1, w9)
      refine wh_E (K := (fun (s : Int32 × Int32 × AW) => E PM RX12 cX12_soonest 8 5 57 [some (.ref 0), none, none, none, some (.int r8), some (.int s.1), some (.int s.2.1), none] [] s.2.2 Q)) (X := (fun (s : Int32 × AW) => E PM RX12 cX12_soonest 8 5 122 [none, none, none, none, none, some (.int s.1), none, none] [] s.2 Q)) ?_ hw36 ?_
      · intro s9 z9 hf k9
        obtain ⟨x5_57_1, x6_57_1, w_57_1⟩ := s9
        dsimp only [lbX12_soonest_57_1] at hf
        show E PM RX12 cX12_soonest 8 5 57 [some (.ref 0), none, none, none, some (.int r8), some (.int x5_57_1), some (.int x6_57_1), none] [] w_57_1 Q
        refine E_iload (v := x6_57_1) dX12_soonest_57 rfl ?_
        refine E_if_eq 122 dX12_soonest_59 (by decide) (fun hc11 => ?_) (fun hc11 => ?_)
        · rw [if_pos hc11] at hf
          obtain rfl := Option.some.inj hf
          refine E.fewer (ls' := [none, none, none, none, none, some (.int x5_57_1), none, none]) ⟨Or.inl rfl, ⟨Or.inl rfl, ⟨Or.inl rfl, ⟨Or.inl rfl, ⟨Or.inl rfl, ⟨Or.inr rfl, ⟨Or.inl rfl, ⟨Or.inl rfl, trivial⟩⟩⟩⟩⟩⟩⟩⟩ ?_
          exact k9
        · rw [if_neg hc11] at hf
          refine E_aload_n (v := 0) dX12_soonest_62 rfl ?_
          refine E_iload (v := r8) dX12_soonest_63 rfl ?_
          refine E_iconst 0 dX12_soonest_65 ic_0 ?_
          refine E_iconst 0 dX12_soonest_66 ic_0 ?_
          obtain ⟨w13, hc12, hf⟩ := bd_some hf
          try dsimp only at hf
          refine E_callVv (rest := []) (ci := 12) cv_RX12_267 dX12_soonest_67 (MX12_worksAll hc12) rfl sM_0 rfl (by decide) rfl rfl (fun _ => Nat.le_of_ble_eq_true rfl) ?_
          refine E_aload_n (v := 0) dX12_soonest_70 rfl ?_
          refine E_getR fg_RX12_53 dX12_soonest_71 sM_0 rfl rM_0_28 (Nat.succ_ne_zero _) ?_
          refine E_aload_n (v := 0) dX12_soonest_74 rfl ?_
          refine E_getI fg_RX12_96 dX12_soonest_75 sM_0 rfl ?_
          obtain ⟨hi14, hf⟩ := gd_some hf
          refine E_iald (n := 8) dX12_soonest_78 sM_14 (by decide) (inb_in hi14) ?_
          refine E_istore (ls' := [some (.ref 0), none, none, none, some (.int r8), some (.int x5_57_1), some (.int x6_57_1), some (.int (w13.1 14 (w13.1 0 0).toNatClampNeg))]) dX12_soonest_79 rfl rfl rfl ?_
          refine E_aload_n (v := 0) dX12_soonest_81 rfl ?_
          refine E_iload (v := r8) dX12_soonest_82 rfl ?_
          obtain ⟨r16, hc15, hf⟩ := bd_some hf
          try dsimp only at hf
          refine E_callVi (rest := []) (ci := 12) cv_RX12_303 dX12_soonest_84 (MX12_lateMany hc15) rfl sM_0 rfl (by decide) rfl rfl (fun _ => Nat.le_of_ble_eq_true rfl) ?_
          refine E_if_ne 107 dX12_soonest_87 (by decide) (fun hc17 => ?_) (fun hc17 => ?_)
          · rw [if_pos hc17] at hf
            refine E_iload (v := x5_57_1) dX12_soonest_90 rfl ?_
            refine E_if_lt 102 dX12_soonest_92 (by decide) (fun hc18 => ?_) (fun hc18 => ?_)
            · rw [if_pos hc18] at hf
              refine E_iload (v := (w13.1 14 (w13.1 0 0).toNatClampNeg)) dX12_soonest_102 rfl ?_
              refine E_goto 109 dX12_soonest_104 (by decide) ?_
              refine E_istore (ls' := [some (.ref 0), none, none, none, some (.int r8), some (.int (w13.1 14 (w13.1 0 0).toNatClampNeg)), some (.int x6_57_1), some (.int (w13.1 14 (w13.1 0 0).toNatClampNeg))]) dX12_soonest_109 rfl rfl rfl ?_
              refine E_aload_n (v := 0) dX12_soonest_111 rfl ?_
              refine E_iload (v := r8) dX12_soonest_112 rfl ?_
              obtain ⟨r20, w21, hc19, hf⟩ := bd2_some hf
              try dsimp only at hf
              refine E_callVi (rest := []) (ci := 12) cv_RX12_288 dX12_soonest_114 (MX12_nextOrder hc19) rfl sM_0 rfl (by decide) rfl rfl (fun _ => Nat.le_of_ble_eq_true rfl) ?_
              refine E_istore (ls' := [some (.ref 0), none, none, none, some (.int r8), some (.int (w13.1 14 (w13.1 0 0).toNatClampNeg)), some (.int r20), some (.int (w13.1 14 (w13.1 0 0).toNatClampNeg))]) dX12_soonest_117 rfl rfl rfl ?_
              refine E_goto 57 dX12_soonest_119 (by decide) ?_
              obtain rfl := Option.some.inj hf
              refine E.fewer (ls' := [some (.ref 0), none, none, none, some (.int r8), some (.int (w13.1 14 (w13.1 0 0).toNatClampNeg)), some (.int r20), none]) ⟨Or.inr rfl, ⟨Or.inl rfl, ⟨Or.inl rfl, ⟨Or.inl rfl, ⟨Or.inr rfl, ⟨Or.inr rfl, ⟨Or.inr rfl, ⟨Or.inl rfl, trivial⟩⟩⟩⟩⟩⟩⟩⟩ ?_
              exact k9
            · rw [if_neg hc18] at hf
              refine E_iload (v := (w13.1 14 (w13.1 0 0).toNatClampNeg)) dX12_soonest_95 rfl ?_
              refine E_iload (v := x5_57_1) dX12_soonest_97 rfl ?_
              refine E_icmp_ge 107 dX12_soonest_99 (by decide) (fun hc23 => ?_) (fun hc23 => ?_)
              · rw [if_pos hc23] at hf
                refine E_iload (v := x5_57_1) dX12_soonest_107 rfl ?_
                refine E_istore (ls' := [some (.ref 0), none, none, none, some (.int r8), some (.int x5_57_1), some (.int x6_57_1), some (.int (w13.1 14 (w13.1 0 0).toNatClampNeg))]) dX12_soonest_109 rfl rfl rfl ?_
                refine E_aload_n (v := 0) dX12_soonest_111 rfl ?_
                refine E_iload (v := r8) dX12_soonest_112 rfl ?_
                obtain ⟨r25, w26, hc24, hf⟩ := bd2_some hf
                try dsimp only at hf
                refine E_callVi (rest := []) (ci := 12) cv_RX12_288 dX12_soonest_114 (MX12_nextOrder hc24) rfl sM_0 rfl (by decide) rfl rfl (fun _ => Nat.le_of_ble_eq_true rfl) ?_
                refine E_istore (ls' := [some (.ref 0), none, none, none, some (.int r8), some (.int x5_57_1), some (.int r25), some (.int (w13.1 14 (w13.1 0 0).toNatClampNeg))]) dX12_soonest_117 rfl rfl rfl ?_
                refine E_goto 57 dX12_soonest_119 (by decide) ?_
                obtain rfl := Option.some.inj hf
                refine E.fewer (ls' := [some (.ref 0), none, none, none, some (.int r8), some (.int x5_57_1), some (.int r25), none]) ⟨Or.inr rfl, ⟨Or.inl rfl, ⟨Or.inl rfl, ⟨Or.inl rfl, ⟨Or.inr rfl, ⟨Or.inr rfl, ⟨Or.inr rfl, ⟨Or.inl rfl, trivial⟩⟩⟩⟩⟩⟩⟩⟩ ?_
                exact k9
              · rw [if_neg hc23] at hf
                refine E_iload (v := (w13.1 14 (w13.1 0 0).toNatClampNeg)) dX12_soonest_102 rfl ?_
                refine E_goto 109 dX12_soonest_104 (by decide) ?_
                refine E_istore (ls' := [some (.ref 0), none, none, none, some (.int r8), some (.int (w13.1 14 (w13.1 0 0).toNatClampNeg)), some (.int x6_57_1), some (.int (w13.1 14 (w13.1 0 0).toNatClampNeg))]) dX12_soonest_109 rfl rfl rfl ?_
                refine E_aload_n (v := 0) dX12_soonest_111 rfl ?_
                refine E_iload (v := r8) dX12_soonest_112 rfl ?_
                obtain ⟨r29, w30, hc28, hf⟩ := bd2_some hf
                try dsimp only at hf
                refine E_callVi (rest := []) (ci := 12) cv_RX12_288 dX12_soonest_114 (MX12_nextOrder hc28) rfl sM_0 rfl (by decide) rfl rfl (fun _ => Nat.le_of_ble_eq_true rfl) ?_
                refine E_istore (ls' := [some (.ref 0), none, none, none, some (.int r8), some (.int (w13.1 14 (w13.1 0 0).toNatClampNeg)), some (.int r29), some (.int (w13.1 14 (w13.1 0 0).toNatClampNeg))]) dX12_soonest_117 rfl rfl rfl ?_
                refine E_goto 57 dX12_soonest_119 (by decide) ?_
                obtain rfl := Option.some.inj hf
                refine E.fewer (ls' := [some (.ref 0), none, none, none, some (.int r8), some (.int (w13.1 14 (w13.1 0 0).toNatClampNeg)), some (.int r29), none]) ⟨Or.inr rfl, ⟨Or.inl rfl, ⟨Or.inl rfl, ⟨Or.inl rfl, ⟨Or.inr rfl, ⟨Or.inr rfl, ⟨Or.inr rfl, ⟨Or.inl rfl, trivial⟩⟩⟩⟩⟩⟩⟩⟩ ?_
                exact k9
          · rw [if_neg hc17] at hf
            refine E_iload (v := x5_57_1) dX12_soonest_107 rfl ?_
            refine E_istore (ls' := [some (.ref 0), none, none, none, some (.int r8), some (.int x5_57_1), some (.int x6_57_1), some (.int (w13.1 14 (w13.1 0 0).toNatClampNeg))]) dX12_soonest_109 rfl rfl rfl ?_
            refine E_aload_n (v := 0) dX12_soonest_111 rfl ?_
            refine E_iload (v := r8) dX12_soonest_112 rfl ?_
            obtain ⟨r33, w34, hc32, hf⟩ := bd2_some hf
            try dsimp only at hf
            refine E_callVi (rest := []) (ci := 12) cv_RX12_288 dX12_soonest_114 (MX12_nextOrder hc32) rfl sM_0 rfl (by decide) rfl rfl (fun _ => Nat.le_of_ble_eq_true rfl) ?_
            refine E_istore (ls' := [some (.ref 0), none, none, none, some (.int r8), some (.int x5_57_1), some (.int r33), some (.int (w13.1 14 (w13.1 0 0).toNatClampNeg))]) dX12_soonest_117 rfl rfl rfl ?_
            refine E_goto 57 dX12_soonest_119 (by decide) ?_
            obtain rfl := Option.some.inj hf
            refine E.fewer (ls' := [some (.ref 0), none, none, none, some (.int r8), some (.int x5_57_1), some (.int r33), none]) ⟨Or.inr rfl, ⟨Or.inl rfl, ⟨Or.inl rfl, ⟨Or.inl rfl, ⟨Or.inr rfl, ⟨Or.inr rfl, ⟨Or.inr rfl, ⟨Or.inl rfl, trivial⟩⟩⟩⟩⟩⟩⟩⟩ ?_
            exact k9
      · skip
        obtain ⟨y37, w38⟩ := q
        try dsimp only at hf
        show E PM RX12 cX12_soonest 8 5 122 [none, none, none, none, none, some (.int y37), none, none] [] w38 Q
        refine E_iload (v := y37) dX12_soonest_122 rfl ?_
        obtain ⟨rfl, rfl⟩ := ret2 hf
        exact E.done (by rw [eQ]; exact ⟨rfl, Or.inl ⟨_, _, rfl, rfl, dX12_soonest_124, rfl, rfl⟩⟩)
set_option maxRecDepth 10000 in
set_option maxHeartbeats 2000000 in
theorem MX12_sure {N : Nat} {a0 : Int32} {w : AW} {rZ : Int32} {wZ : AW} (hf : fX12_sure N a0 w = some (rZ, wZ)) : CallOK PM yX12_sure cX12_sure 2 (some .int) 6 [.ref 0, .int a0] w (some (.int rZ)) wZ := by
  refine CallOK.of (ls := [some (.ref 0), some (.int a0)]) (by decide) (by simp) rfl rfl ?_
  obtain ⟨Q, eQ⟩ : ∃ Q, Q = Qret cX12_sure (some .int) (some (.int rZ)) wZ := ⟨_, rfl⟩
  rw [← eQ]
  unfold fX12_sure at hf
  refine E_iload_n (v := a0) dX12_sure_0 rfl ?_
  obtain ⟨r2, hc1, hf⟩ := bd_some hf
  try dsimp only at hf
  refine E_callSi (rest := []) cs_RX12_103 dX12_sure_1 (MX12_isSide hc1) rfl rfl rfl (fun _ => Nat.le_of_ble_eq_true rfl) ?_
  refine E_if_ne 9 dX12_sure_4 (by decide) (fun hc3 => ?_) (fun hc3 => ?_)
  · rw [if_pos hc3] at hf
    refine E_iconst (-1) dX12_sure_7 ic_m1 ?_
    obtain ⟨rfl, rfl⟩ := ret2 hf
    exact E.done (by rw [eQ]; exact ⟨rfl, Or.inl ⟨_, _, rfl, rfl, dX12_sure_8, rfl, rfl⟩⟩)
  · rw [if_neg hc3] at hf
    refine E_aload_n (v := 0) dX12_sure_9 rfl ?_
    obtain ⟨w5, hc4, hf⟩ := bd_some hf
    try dsimp only at hf
    refine E_callVv (rest := []) (ci := 12) cv_RX12_315 dX12_sure_10 (MX12_orderOfPlan hc4) rfl sM_0 rfl (by decide) rfl rfl (fun _ => Nat.le_of_ble_eq_true rfl) ?_
    refine E_aload_n (v := 0) dX12_sure_13 rfl ?_
    refine E_aload_n (v := 0) dX12_sure_14 rfl ?_
    obtain ⟨r7, w8, hc6, hf⟩ := bd2_some hf
    try dsimp only at hf
    refine E_callVi (rest := [.ref 0]) (ci := 12) cv_RX12_318 dX12_sure_15 (MX12_sureOf hc6) rfl sM_0 rfl (by decide) rfl rfl (fun _ => Nat.le_of_ble_eq_true rfl) ?_
    refine E_iconst 1 dX12_sure_18 ic_1 ?_
    refine E_iconst 2 dX12_sure_19 ic_2 ?_
    refine E_aload_n (v := 0) dX12_sure_20 rfl ?_
    refine E_getI fg_RX12_96 dX12_sure_21 sM_0 rfl ?_
    refine E_imul dX12_sure_24 ?_
    refine E_ishl dX12_sure_25 ?_
    obtain ⟨w11, hc10, hf⟩ := bd_some hf
    try dsimp only at hf
    refine E_callVv (rest := []) (ci := 12) cv_RX12_321 dX12_sure_26 (MX12_lowest hc10) rfl sM_0 rfl (by decide) rfl rfl (fun _ => Nat.le_of_ble_eq_true rfl) ?_
    refine E_iload_n (v := a0) dX12_sure_29 rfl ?_
    refine E_if_ne 40 dX12_sure_30 (by decide) (fun hc12 => ?_) (fun hc12 => ?_)
    · rw [if_pos hc12] at hf
      refine E_aload_n (v := 0) dX12_sure_33 rfl ?_
      refine E_getI fg_RX12_306 dX12_sure_34 sM_0 rfl ?_
      refine E_goto 44 dX12_sure_37 (by decide) ?_
      obtain ⟨rfl, rfl⟩ := ret2 hf
      exact E.done (by rw [eQ]; exact ⟨rfl, Or.inl ⟨_, _, rfl, rfl, dX12_sure_44, rfl, rfl⟩⟩)
    · rw [if_neg hc12] at hf
      refine E_aload_n (v := 0) dX12_sure_40 rfl ?_
      refine E_getI fg_RX12_309 dX12_sure_41 sM_0 rfl ?_
      obtain ⟨rfl, rfl⟩ := ret2 hf
      exact E.done (by rw [eQ]; exact ⟨rfl, Or.inl ⟨_, _, rfl, rfl, dX12_sure_44, rfl, rfl⟩⟩)
set_option maxRecDepth 10000 in
set_option maxHeartbeats 2000000 in
theorem BX12_taken_29 (p1_29 : Int32) (p2_29 : Int32) (w : AW) (rZ : Int32) {Q : Nat → List (Option Value) → List Value → AW → Prop} (eQ : Q = Qret cX12_taken (some .int) (some (.int rZ)) w) (hf : bX12_taken_29 p1_29 p2_29 w = some rZ) : E PM RX12 cX12_taken 4 4 29 [some (.ref 0), some (.int p1_29), some (.int p2_29), none] [] w Q := by
  unfold bX12_taken_29 at hf
  refine E_aload_n (v := 0) dX12_taken_29 rfl ?_
  refine E_iload_n (v := p1_29) dX12_taken_30 rfl ?_
  obtain ⟨r11, hc10, hf⟩ := bd_some hf
  try dsimp only at hf
  refine E_callVi (rest := []) (ci := 12) cv_RX12_355 dX12_taken_31 (MX12_kindOn hc10) rfl sM_0 rfl (by decide) rfl rfl (fun _ => Nat.le_of_ble_eq_true rfl) ?_
  refine E_istore_n (ls' := [some (.ref 0), some (.int p1_29), some (.int p2_29), some (.int r11)]) dX12_taken_34 rfl rfl rfl ?_
  refine E_iload_n (v := r11) dX12_taken_35 rfl ?_
  refine E_if_ge 42 dX12_taken_36 (by decide) (fun hc12 => ?_) (fun hc12 => ?_)
  · rw [if_pos hc12] at hf
    refine E_iload_n (v := r11) dX12_taken_42 rfl ?_
    refine E_bipush 9 dX12_taken_43 bp_9 ?_
    refine E_icmp_ne 73 dX12_taken_45 (by decide) (fun hc13 => ?_) (fun hc13 => ?_)
    · rw [if_pos hc13] at hf
      refine E_iload_n (v := p2_29) dX12_taken_48 rfl ?_
      refine E_bipush 10 dX12_taken_49 bp_10 ?_
      refine E_aload_n (v := 0) dX12_taken_51 rfl ?_
      refine E_getR fg_RX12_81 dX12_taken_52 sM_0 rfl rM_0_42 (Nat.succ_ne_zero _) ?_
      refine E_iload_n (v := p1_29) dX12_taken_55 rfl ?_
      obtain ⟨hi14, hf⟩ := gd_some hf
      refine E_iald (n := 4) dX12_taken_56 sM_23 (by decide) (inb_in hi14) ?_
      refine E_iadd dX12_taken_57 ?_
      refine E_icmp_ne 70 dX12_taken_58 (by decide) (fun hc15 => ?_) (fun hc15 => ?_)
      · rw [if_pos hc15] at hf
        refine E_aload_n (v := 0) dX12_taken_61 rfl ?_
        refine E_getR fg_RX12_84 dX12_taken_62 sM_0 rfl rM_0_43 (Nat.succ_ne_zero _) ?_
        refine E_iload_n (v := p1_29) dX12_taken_65 rfl ?_
        refine E_iald (n := 4) dX12_taken_66 sM_24 (by decide) (inb_in hi14) ?_
        refine E_goto 72 dX12_taken_67 (by decide) ?_
        obtain rfl := Option.some.inj hf
        exact E.done (by rw [eQ]; exact ⟨rfl, Or.inl ⟨_, _, rfl, rfl, dX12_taken_72, rfl, rfl⟩⟩)
      · rw [if_neg hc15] at hf
        refine E_bipush (-13) dX12_taken_70 bp_m13 ?_
        obtain rfl := Option.some.inj hf
        exact E.done (by rw [eQ]; exact ⟨rfl, Or.inl ⟨_, _, rfl, rfl, dX12_taken_72, rfl, rfl⟩⟩)
    · rw [if_neg hc13] at hf
      refine E_iload_n (v := p2_29) dX12_taken_73 rfl ?_
      refine E_bipush 10 dX12_taken_74 bp_10 ?_
      refine E_icmp_ge 96 dX12_taken_76 (by decide) (fun hc16 => ?_) (fun hc16 => ?_)
      · rw [if_pos hc16] at hf
        refine E_bipush (-13) dX12_taken_96 bp_m13 ?_
        obtain rfl := Option.some.inj hf
        exact E.done (by rw [eQ]; exact ⟨rfl, Or.inl ⟨_, _, rfl, rfl, dX12_taken_98, rfl, rfl⟩⟩)
      · rw [if_neg hc16] at hf
        refine E_iload_n (v := r11) dX12_taken_79 rfl ?_
        refine E_iload_n (v := p2_29) dX12_taken_80 rfl ?_
        obtain ⟨r18, hc17, hf⟩ := bd_some hf
        try dsimp only at hf
        refine E_callSi (rest := []) cs_RX12_358 dX12_taken_81 (MX12_isUnder hc17) rfl rfl rfl (fun _ => Nat.le_of_ble_eq_true rfl) ?_
        refine E_if_eq 96 dX12_taken_84 (by decide) (fun hc19 => ?_) (fun hc19 => ?_)
        · rw [if_pos hc19] at hf
          refine E_bipush (-13) dX12_taken_96 bp_m13 ?_
          obtain rfl := Option.some.inj hf
          exact E.done (by rw [eQ]; exact ⟨rfl, Or.inl ⟨_, _, rfl, rfl, dX12_taken_98, rfl, rfl⟩⟩)
        · rw [if_neg hc19] at hf
          refine E_aload_n (v := 0) dX12_taken_87 rfl ?_
          refine E_getR fg_RX12_81 dX12_taken_88 sM_0 rfl rM_0_42 (Nat.succ_ne_zero _) ?_
          refine E_iload_n (v := p1_29) dX12_taken_91 rfl ?_
          obtain ⟨hi20, hf⟩ := gd_some hf
          refine E_iald (n := 4) dX12_taken_92 sM_23 (by decide) (inb_in hi20) ?_
          refine E_goto 98 dX12_taken_93 (by decide) ?_
          obtain rfl := Option.some.inj hf
          exact E.done (by rw [eQ]; exact ⟨rfl, Or.inl ⟨_, _, rfl, rfl, dX12_taken_98, rfl, rfl⟩⟩)
  · rw [if_neg hc12] at hf
    refine E_bipush (-11) dX12_taken_39 bp_m11 ?_
    obtain rfl := Option.some.inj hf
    exact E.done (by rw [eQ]; exact ⟨rfl, Or.inl ⟨_, _, rfl, rfl, dX12_taken_41, rfl, rfl⟩⟩)
set_option maxRecDepth 10000 in
set_option maxHeartbeats 2000000 in
theorem MX12_taken {a0 : Int32} {a1 : Int32} {w : AW} {rZ : Int32} (hf : fX12_taken a0 a1 w = some rZ) : CallOK PM yX12_taken cX12_taken 4 (some .int) 4 [.ref 0, .int a0, .int a1] w (some (.int rZ)) w := by
  refine CallOK.of (ls := [some (.ref 0), some (.int a0), some (.int a1), none]) (by decide) (by simp) rfl rfl ?_
  obtain ⟨Q, eQ⟩ : ∃ Q, Q = Qret cX12_taken (some .int) (some (.int rZ)) w := ⟨_, rfl⟩
  rw [← eQ]
  unfold fX12_taken at hf
  refine E_iload_n (v := a0) dX12_taken_0 rfl ?_
  obtain ⟨r2, hc1, hf⟩ := bd_some hf
  try dsimp only at hf
  refine E_callSi (rest := []) cs_RX12_346 dX12_taken_1 (MX12_isShelf hc1) rfl rfl rfl (fun _ => Nat.le_of_ble_eq_true rfl) ?_
  refine E_if_eq 27 dX12_taken_4 (by decide) (fun hc3 => ?_) (fun hc3 => ?_)
  · rw [if_pos hc3] at hf
    refine E_iconst (-1) dX12_taken_27 ic_m1 ?_
    obtain rfl := Option.some.inj hf
    exact E.done (by rw [eQ]; exact ⟨rfl, Or.inl ⟨_, _, rfl, rfl, dX12_taken_28, rfl, rfl⟩⟩)
  · rw [if_neg hc3] at hf
    refine E_iload_n (v := a1) dX12_taken_7 rfl ?_
    refine E_iconst 0 dX12_taken_8 ic_0 ?_
    refine E_iconst 5 dX12_taken_9 ic_5 ?_
    obtain ⟨r5, hc4, hf⟩ := bd_some hf
    try dsimp only at hf
    refine E_callSi (rest := []) cs_RX12_99 dX12_taken_10 (MX12_in hc4) rfl rfl rfl (fun _ => Nat.le_of_ble_eq_true rfl) ?_
    refine E_if_ne 29 dX12_taken_13 (by decide) (fun hc6 => ?_) (fun hc6 => ?_)
    · rw [if_pos hc6] at hf
      refine E_iload_n (v := a1) dX12_taken_16 rfl ?_
      refine E_bipush 10 dX12_taken_17 bp_10 ?_
      refine E_bipush 13 dX12_taken_19 bp_13 ?_
      obtain ⟨r8, hc7, hf⟩ := bd_some hf
      try dsimp only at hf
      refine E_callSi (rest := []) cs_RX12_99 dX12_taken_21 (MX12_in hc7) rfl rfl rfl (fun _ => Nat.le_of_ble_eq_true rfl) ?_
      refine E_if_ne 29 dX12_taken_24 (by decide) (fun hc9 => ?_) (fun hc9 => ?_)
      · rw [if_pos hc9] at hf
        refine E_iconst (-1) dX12_taken_27 ic_m1 ?_
        obtain rfl := Option.some.inj hf
        exact E.done (by rw [eQ]; exact ⟨rfl, Or.inl ⟨_, _, rfl, rfl, dX12_taken_28, rfl, rfl⟩⟩)
      · rw [if_neg hc9] at hf
        exact BX12_taken_29 a0 a1 w  rZ eQ hf
    · rw [if_neg hc6] at hf
      exact BX12_taken_29 a0 a1 w  rZ eQ hf
set_option maxRecDepth 10000 in
set_option maxHeartbeats 2000000 in
theorem MX12_till {w : AW} {rZ : Int32} (hf : fX12_till w = some rZ) : CallOK PM yX12_till cX12_till 1 (some .int) 1 [.ref 0] w (some (.int rZ)) w := by
  refine CallOK.of (ls := [some (.ref 0)]) (by decide) (by simp) rfl rfl ?_
  obtain ⟨Q, eQ⟩ : ∃ Q, Q = Qret cX12_till (some .int) (some (.int rZ)) w := ⟨_, rfl⟩
  rw [← eQ]
  unfold fX12_till at hf
  refine E_aload_n (v := 0) dX12_till_0 rfl ?_
  refine E_getI fg_RX12_226 dX12_till_1 sM_0 rfl ?_
  obtain rfl := Option.some.inj hf
  exact E.done (by rw [eQ]; exact ⟨rfl, Or.inl ⟨_, _, rfl, rfl, dX12_till_4, rfl, rfl⟩⟩)
set_option maxRecDepth 10000 in
set_option maxHeartbeats 2000000 in
theorem MX12_trace {a0 : Int32} {w : AW} {rZ : Int32} (hf : fX12_trace a0 w = some rZ) : CallOK PM yX12_trace cX12_trace 2 (some .int) 2 [.ref 0, .int a0] w (some (.int rZ)) w := by
  refine CallOK.of (ls := [some (.ref 0), some (.int a0)]) (by decide) (by simp) rfl rfl ?_
  obtain ⟨Q, eQ⟩ : ∃ Q, Q = Qret cX12_trace (some .int) (some (.int rZ)) w := ⟨_, rfl⟩
  rw [← eQ]
  unfold fX12_trace at hf
  refine E_iload_n (v := a0) dX12_trace_0 rfl ?_
  refine E_iconst 0 dX12_trace_1 ic_0 ?_
  refine E_aload_n (v := 0) dX12_trace_2 rfl ?_
  refine E_getI fg_RX12_361 dX12_trace_3 sM_0 rfl ?_
  refine E_iconst 1 dX12_trace_6 ic_1 ?_
  refine E_isub dX12_trace_7 ?_
  obtain ⟨r2, hc1, hf⟩ := bd_some hf
  try dsimp only at hf
  refine E_callSi (rest := []) cs_RX12_99 dX12_trace_8 (MX12_in hc1) rfl rfl rfl (fun _ => Nat.le_of_ble_eq_true rfl) ?_
  refine E_if_eq 23 dX12_trace_11 (by decide) (fun hc3 => ?_) (fun hc3 => ?_)
  · rw [if_pos hc3] at hf
    refine E_bipush (-3) dX12_trace_23 bp_m3 ?_
    obtain rfl := Option.some.inj hf
    exact E.done (by rw [eQ]; exact ⟨rfl, Or.inl ⟨_, _, rfl, rfl, dX12_trace_25, rfl, rfl⟩⟩)
  · rw [if_neg hc3] at hf
    refine E_aload_n (v := 0) dX12_trace_14 rfl ?_
    refine E_getR fg_RX12_87 dX12_trace_15 sM_0 rfl rM_0_47 (Nat.succ_ne_zero _) ?_
    refine E_iload_n (v := a0) dX12_trace_18 rfl ?_
    obtain ⟨hi4, hf⟩ := gd_some hf
    refine E_iald (n := 30) dX12_trace_19 sM_25 (by decide) (inb_in hi4) ?_
    refine E_goto 25 dX12_trace_20 (by decide) ?_
    obtain rfl := Option.some.inj hf
    exact E.done (by rw [eQ]; exact ⟨rfl, Or.inl ⟨_, _, rfl, rfl, dX12_trace_25, rfl, rfl⟩⟩)
set_option maxRecDepth 10000 in
set_option maxHeartbeats 2000000 in
theorem MX12_type {N : Nat} {a0 : Int32} {a1 : Int32} {a2 : Int32} {a3 : Int32} {a4 : Int32} {a5 : Int32} {w : AW} {rZ : Int32} {wZ : AW} (hf : fX12_type N a0 a1 a2 a3 a4 a5 w = some (rZ, wZ)) : CallOK PM yX12_type cX12_type 8 (some .int) 4 [.ref 0, .int a0, .int a1, .int a2, .int a3, .int a4, .int a5] w (some (.int rZ)) wZ := by
  refine CallOK.of (ls := [some (.ref 0), some (.int a0), some (.int a1), some (.int a2), some (.int a3), some (.int a4), some (.int a5), none]) (by decide) (by simp) rfl rfl ?_
  obtain ⟨Q, eQ⟩ : ∃ Q, Q = Qret cX12_type (some .int) (some (.int rZ)) wZ := ⟨_, rfl⟩
  rw [← eQ]
  unfold fX12_type at hf
  refine E_iload_n (v := a0) dX12_type_0 rfl ?_
  refine E_iload_n (v := a1) dX12_type_1 rfl ?_
  refine E_iload_n (v := a2) dX12_type_2 rfl ?_
  obtain ⟨r2, hc1, hf⟩ := bd_some hf
  try dsimp only at hf
  refine E_callSi (rest := []) cs_RX12_232 dX12_type_3 (MX12_isLike hc1) rfl rfl rfl (fun _ => Nat.le_of_ble_eq_true rfl) ?_
  refine E_if_eq 41 dX12_type_6 (by decide) (fun hc3 => ?_) (fun hc3 => ?_)
  · rw [if_pos hc3] at hf
    refine E_iconst (-1) dX12_type_41 ic_m1 ?_
    obtain ⟨rfl, rfl⟩ := ret2 hf
    exact E.done (by rw [eQ]; exact ⟨rfl, Or.inl ⟨_, _, rfl, rfl, dX12_type_42, rfl, rfl⟩⟩)
  · rw [if_neg hc3] at hf
    refine E_iload (v := a3) dX12_type_9 rfl ?_
    refine E_iconst 0 dX12_type_11 ic_0 ?_
    refine E_bipush 20 dX12_type_12 bp_20 ?_
    obtain ⟨r5, hc4, hf⟩ := bd_some hf
    try dsimp only at hf
    refine E_callSi (rest := []) cs_RX12_99 dX12_type_14 (MX12_in hc4) rfl rfl rfl (fun _ => Nat.le_of_ble_eq_true rfl) ?_
    refine E_if_eq 41 dX12_type_17 (by decide) (fun hc6 => ?_) (fun hc6 => ?_)
    · rw [if_pos hc6] at hf
      refine E_iconst (-1) dX12_type_41 ic_m1 ?_
      obtain ⟨rfl, rfl⟩ := ret2 hf
      exact E.done (by rw [eQ]; exact ⟨rfl, Or.inl ⟨_, _, rfl, rfl, dX12_type_42, rfl, rfl⟩⟩)
    · rw [if_neg hc6] at hf
      refine E_iload (v := a4) dX12_type_20 rfl ?_
      refine E_iconst 0 dX12_type_22 ic_0 ?_
      refine E_bipush 99 dX12_type_23 bp_99 ?_
      obtain ⟨r8, hc7, hf⟩ := bd_some hf
      try dsimp only at hf
      refine E_callSi (rest := []) cs_RX12_99 dX12_type_25 (MX12_in hc7) rfl rfl rfl (fun _ => Nat.le_of_ble_eq_true rfl) ?_
      refine E_if_eq 41 dX12_type_28 (by decide) (fun hc9 => ?_) (fun hc9 => ?_)
      · rw [if_pos hc9] at hf
        refine E_iconst (-1) dX12_type_41 ic_m1 ?_
        obtain ⟨rfl, rfl⟩ := ret2 hf
        exact E.done (by rw [eQ]; exact ⟨rfl, Or.inl ⟨_, _, rfl, rfl, dX12_type_42, rfl, rfl⟩⟩)
      · rw [if_neg hc9] at hf
        refine E_iload (v := a5) dX12_type_31 rfl ?_
        refine E_iconst 1 dX12_type_33 ic_1 ?_
        refine E_iconst 4 dX12_type_34 ic_4 ?_
        obtain ⟨r11, hc10, hf⟩ := bd_some hf
        try dsimp only at hf
        refine E_callSi (rest := []) cs_RX12_99 dX12_type_35 (MX12_in hc10) rfl rfl rfl (fun _ => Nat.le_of_ble_eq_true rfl) ?_
        refine E_if_ne 43 dX12_type_38 (by decide) (fun hc12 => ?_) (fun hc12 => ?_)
        · rw [if_pos hc12] at hf
          refine E_iconst (-1) dX12_type_41 ic_m1 ?_
          obtain ⟨rfl, rfl⟩ := ret2 hf
          exact E.done (by rw [eQ]; exact ⟨rfl, Or.inl ⟨_, _, rfl, rfl, dX12_type_42, rfl, rfl⟩⟩)
        · rw [if_neg hc12] at hf
          refine E_aload_n (v := 0) dX12_type_43 rfl ?_
          obtain ⟨r14, hc13, hf⟩ := bd_some hf
          try dsimp only at hf
          refine E_callVi (rest := []) (ci := 12) cv_RX12_330 dX12_type_44 (MX12_oddsOfTypes hc13) rfl sM_0 rfl (by decide) rfl rfl (fun _ => Nat.le_of_ble_eq_true rfl) ?_
          refine E_iload (v := a5) dX12_type_47 rfl ?_
          refine E_iadd dX12_type_49 ?_
          refine E_iconst 4 dX12_type_50 ic_4 ?_
          refine E_icmp_le 57 dX12_type_51 (by decide) (fun hc15 => ?_) (fun hc15 => ?_)
          · rw [if_pos hc15] at hf
            refine E_aload_n (v := 0) dX12_type_57 rfl ?_
            refine E_getI fg_RX12_324 dX12_type_58 sM_0 rfl ?_
            refine E_iconst 3 dX12_type_61 ic_3 ?_
            refine E_icmp_ne 68 dX12_type_62 (by decide) (fun hc16 => ?_) (fun hc16 => ?_)
            · rw [if_pos hc16] at hf
              refine E_bipush (-2) dX12_type_65 bp_m2 ?_
              obtain ⟨rfl, rfl⟩ := ret2 hf
              exact E.done (by rw [eQ]; exact ⟨rfl, Or.inl ⟨_, _, rfl, rfl, dX12_type_67, rfl, rfl⟩⟩)
            · rw [if_neg hc16] at hf
              refine E_bipush 6 dX12_type_68 bp_6 ?_
              refine E_aload_n (v := 0) dX12_type_70 rfl ?_
              refine E_getI fg_RX12_324 dX12_type_71 sM_0 rfl ?_
              refine E_imul dX12_type_74 ?_
              refine E_istore (ls' := [some (.ref 0), some (.int a0), some (.int a1), some (.int a2), some (.int a3), some (.int a4), some (.int a5), some (.int (6 * (w.1 0 12)))]) dX12_type_75 rfl rfl rfl ?_
              refine E_aload_n (v := 0) dX12_type_77 rfl ?_
              refine E_getR fg_RX12_31 dX12_type_78 sM_0 rfl rM_0_13 (Nat.succ_ne_zero _) ?_
              refine E_iload (v := (6 * (w.1 0 12))) dX12_type_81 rfl ?_
              refine E_iload_n (v := a0) dX12_type_83 rfl ?_
              obtain ⟨hi17, hf⟩ := gd_some hf
              obtain ⟨w18, ew18, hf⟩ := lw_some hf
              try dsimp only at hf
              refine E_iast (n := 18) dX12_type_84 sM_8 (by decide) (inb_in hi17) ?_
              rw [← ew18]
              refine E_aload_n (v := 0) dX12_type_85 rfl ?_
              refine E_getR fg_RX12_31 dX12_type_86 sM_0 rfl rM_0_13 (Nat.succ_ne_zero _) ?_
              refine E_iload (v := (6 * (w.1 0 12))) dX12_type_89 rfl ?_
              refine E_iconst 1 dX12_type_91 ic_1 ?_
              refine E_iadd dX12_type_92 ?_
              refine E_iload_n (v := a1) dX12_type_93 rfl ?_
              obtain ⟨hi19, hf⟩ := gd_some hf
              obtain ⟨w20, ew20, hf⟩ := lw_some hf
              try dsimp only at hf
              refine E_iast (n := 18) dX12_type_94 sM_8 (by decide) (inb_in hi19) ?_
              rw [← ew20]
              refine E_aload_n (v := 0) dX12_type_95 rfl ?_
              refine E_getR fg_RX12_31 dX12_type_96 sM_0 rfl rM_0_13 (Nat.succ_ne_zero _) ?_
              refine E_iload (v := (6 * (w.1 0 12))) dX12_type_99 rfl ?_
              refine E_iconst 2 dX12_type_101 ic_2 ?_
              refine E_iadd dX12_type_102 ?_
              refine E_iload_n (v := a2) dX12_type_103 rfl ?_
              obtain ⟨hi21, hf⟩ := gd_some hf
              obtain ⟨w22, ew22, hf⟩ := lw_some hf
              try dsimp only at hf
              refine E_iast (n := 18) dX12_type_104 sM_8 (by decide) (inb_in hi21) ?_
              rw [← ew22]
              refine E_aload_n (v := 0) dX12_type_105 rfl ?_
              refine E_getR fg_RX12_31 dX12_type_106 sM_0 rfl rM_0_13 (Nat.succ_ne_zero _) ?_
              refine E_iload (v := (6 * (w.1 0 12))) dX12_type_109 rfl ?_
              refine E_iconst 3 dX12_type_111 ic_3 ?_
              refine E_iadd dX12_type_112 ?_
              refine E_iload (v := a3) dX12_type_113 rfl ?_
              obtain ⟨hi23, hf⟩ := gd_some hf
              obtain ⟨w24, ew24, hf⟩ := lw_some hf
              try dsimp only at hf
              refine E_iast (n := 18) dX12_type_115 sM_8 (by decide) (inb_in hi23) ?_
              rw [← ew24]
              refine E_aload_n (v := 0) dX12_type_116 rfl ?_
              refine E_getR fg_RX12_31 dX12_type_117 sM_0 rfl rM_0_13 (Nat.succ_ne_zero _) ?_
              refine E_iload (v := (6 * (w.1 0 12))) dX12_type_120 rfl ?_
              refine E_iconst 4 dX12_type_122 ic_4 ?_
              refine E_iadd dX12_type_123 ?_
              refine E_iload (v := a4) dX12_type_124 rfl ?_
              obtain ⟨hi25, hf⟩ := gd_some hf
              obtain ⟨w26, ew26, hf⟩ := lw_some hf
              try dsimp only at hf
              refine E_iast (n := 18) dX12_type_126 sM_8 (by decide) (inb_in hi25) ?_
              rw [← ew26]
              refine E_aload_n (v := 0) dX12_type_127 rfl ?_
              refine E_getR fg_RX12_31 dX12_type_128 sM_0 rfl rM_0_13 (Nat.succ_ne_zero _) ?_
              refine E_iload (v := (6 * (w.1 0 12))) dX12_type_131 rfl ?_
              refine E_iconst 5 dX12_type_133 ic_5 ?_
              refine E_iadd dX12_type_134 ?_
              refine E_iload (v := a5) dX12_type_135 rfl ?_
              obtain ⟨hi27, hf⟩ := gd_some hf
              obtain ⟨w28, ew28, hf⟩ := lw_some hf
              try dsimp only at hf
              refine E_iast (n := 18) dX12_type_137 sM_8 (by decide) (inb_in hi27) ?_
              rw [← ew28]
              refine E_aload_n (v := 0) dX12_type_138 rfl ?_
              refine E_dup_r dX12_type_139 ?_
              refine E_getI fg_RX12_324 dX12_type_140 sM_0 rfl ?_
              refine E_iconst 1 dX12_type_143 ic_1 ?_
              refine E_iadd dX12_type_144 ?_
              obtain ⟨w29, ew29, hf⟩ := lw_some hf
              try dsimp only at hf
              refine E_putI fp_RX12_324 dX12_type_145 sM_0 rfl rfl rfl ?_
              rw [← ew29]
              refine E_aload_n (v := 0) dX12_type_148 rfl ?_
              refine E_getI fg_RX12_324 dX12_type_149 sM_0 rfl ?_
              refine E_iconst 1 dX12_type_152 ic_1 ?_
              refine E_isub dX12_type_153 ?_
              obtain ⟨rfl, rfl⟩ := ret2 hf
              exact E.done (by rw [eQ]; exact ⟨rfl, Or.inl ⟨_, _, rfl, rfl, dX12_type_154, rfl, rfl⟩⟩)
          · rw [if_neg hc15] at hf
            refine E_bipush (-4) dX12_type_54 bp_m4 ?_
            obtain ⟨rfl, rfl⟩ := ret2 hf
            exact E.done (by rw [eQ]; exact ⟨rfl, Or.inl ⟨_, _, rfl, rfl, dX12_type_56, rfl, rfl⟩⟩)
set_option maxRecDepth 10000 in
set_option maxHeartbeats 2000000 in
theorem MX12_typeOf {a0 : Int32} {a1 : Int32} {w : AW} {rZ : Int32} (hf : fX12_typeOf a0 a1 w = some rZ) : CallOK PM yX12_typeOf cX12_typeOf 3 (some .int) 2 [.ref 0, .int a0, .int a1] w (some (.int rZ)) w := by
  refine CallOK.of (ls := [some (.ref 0), some (.int a0), some (.int a1)]) (by decide) (by simp) rfl rfl ?_
  obtain ⟨Q, eQ⟩ : ∃ Q, Q = Qret cX12_typeOf (some .int) (some (.int rZ)) w := ⟨_, rfl⟩
  rw [← eQ]
  unfold fX12_typeOf at hf
  refine E_iload_n (v := a0) dX12_typeOf_0 rfl ?_
  refine E_iconst 0 dX12_typeOf_1 ic_0 ?_
  refine E_aload_n (v := 0) dX12_typeOf_2 rfl ?_
  refine E_getI fg_RX12_324 dX12_typeOf_3 sM_0 rfl ?_
  refine E_iconst 1 dX12_typeOf_6 ic_1 ?_
  refine E_isub dX12_typeOf_7 ?_
  obtain ⟨r2, hc1, hf⟩ := bd_some hf
  try dsimp only at hf
  refine E_callSi (rest := []) cs_RX12_99 dX12_typeOf_8 (MX12_in hc1) rfl rfl rfl (fun _ => Nat.le_of_ble_eq_true rfl) ?_
  refine E_if_eq 32 dX12_typeOf_11 (by decide) (fun hc3 => ?_) (fun hc3 => ?_)
  · rw [if_pos hc3] at hf
    refine E_iconst (-1) dX12_typeOf_32 ic_m1 ?_
    obtain rfl := Option.some.inj hf
    exact E.done (by rw [eQ]; exact ⟨rfl, Or.inl ⟨_, _, rfl, rfl, dX12_typeOf_33, rfl, rfl⟩⟩)
  · rw [if_neg hc3] at hf
    refine E_iload_n (v := a1) dX12_typeOf_14 rfl ?_
    refine E_iconst 0 dX12_typeOf_15 ic_0 ?_
    refine E_iconst 5 dX12_typeOf_16 ic_5 ?_
    obtain ⟨r5, hc4, hf⟩ := bd_some hf
    try dsimp only at hf
    refine E_callSi (rest := []) cs_RX12_99 dX12_typeOf_17 (MX12_in hc4) rfl rfl rfl (fun _ => Nat.le_of_ble_eq_true rfl) ?_
    refine E_if_eq 32 dX12_typeOf_20 (by decide) (fun hc6 => ?_) (fun hc6 => ?_)
    · rw [if_pos hc6] at hf
      refine E_iconst (-1) dX12_typeOf_32 ic_m1 ?_
      obtain rfl := Option.some.inj hf
      exact E.done (by rw [eQ]; exact ⟨rfl, Or.inl ⟨_, _, rfl, rfl, dX12_typeOf_33, rfl, rfl⟩⟩)
    · rw [if_neg hc6] at hf
      refine E_aload_n (v := 0) dX12_typeOf_23 rfl ?_
      refine E_iload_n (v := a0) dX12_typeOf_24 rfl ?_
      refine E_iload_n (v := a1) dX12_typeOf_25 rfl ?_
      obtain ⟨r8, hc7, hf⟩ := bd_some hf
      try dsimp only at hf
      refine E_callVi (rest := []) (ci := 12) cv_RX12_327 dX12_typeOf_26 (MX12_typeIts hc7) rfl sM_0 rfl (by decide) rfl rfl (fun _ => Nat.le_of_ble_eq_true rfl) ?_
      refine E_goto 33 dX12_typeOf_29 (by decide) ?_
      obtain rfl := Option.some.inj hf
      exact E.done (by rw [eQ]; exact ⟨rfl, Or.inl ⟨_, _, rfl, rfl, dX12_typeOf_33, rfl, rfl⟩⟩)
set_option maxRecDepth 10000 in
set_option maxHeartbeats 2000000 in
theorem MX12_worth {N : Nat} {w : AW} {rZ : Int32} {wZ : AW} (hf : fX12_worth N w = some (rZ, wZ)) : CallOK PM yX12_worth cX12_worth 1 (some .int) 6 [.ref 0] w (some (.int rZ)) wZ := by
  refine CallOK.of (ls := [some (.ref 0)]) (by decide) (by simp) rfl rfl ?_
  obtain ⟨Q, eQ⟩ : ∃ Q, Q = Qret cX12_worth (some .int) (some (.int rZ)) wZ := ⟨_, rfl⟩
  rw [← eQ]
  unfold fX12_worth at hf
  refine E_aload_n (v := 0) dX12_worth_0 rfl ?_
  obtain ⟨w2, hc1, hf⟩ := bd_some hf
  try dsimp only at hf
  refine E_callVv (rest := []) (ci := 12) cv_RX12_271 dX12_worth_1 (MX12_byPlan hc1) rfl sM_0 rfl (by decide) rfl rfl (fun _ => Nat.le_of_ble_eq_true rfl) ?_
  refine E_aload_n (v := 0) dX12_worth_4 rfl ?_
  refine E_aload_n (v := 0) dX12_worth_5 rfl ?_
  refine E_getI fg_RX12_96 dX12_worth_6 sM_0 rfl ?_
  obtain ⟨r4, hc3, hf⟩ := bd_some hf
  try dsimp only at hf
  refine E_callVi (rest := []) (ci := 12) cv_RX12_274 dX12_worth_9 (MX12_worthAll hc3) rfl sM_0 rfl (by decide) rfl rfl (fun _ => Nat.le_of_ble_eq_true rfl) ?_
  obtain ⟨rfl, rfl⟩ := ret2 hf
  exact E.done (by rw [eQ]; exact ⟨rfl, Or.inl ⟨_, _, rfl, rfl, dX12_worth_12, rfl, rfl⟩⟩)
