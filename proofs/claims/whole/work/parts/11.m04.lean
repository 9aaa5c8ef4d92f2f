set_option maxRecDepth 10000 in
set_option maxHeartbeats 2000000 in
theorem MX2_meanOf {N : Nat} {o0 : Nat} {r1 : Nat} {w : AW} {rZ : Int32} {wZ : AW} (ho0 : isJ o0) (hr1 : PC.1[r1]? = some 106) (hf : fX2_meanOf N o0 r1 w = some (rZ, wZ)) : CallOK PC yX2_meanOf cX2_meanOf 5 (some .int) 4 [.ref 52, .ref o0, .ref r1] w (some (.int rZ)) wZ := by
  refine CallOK.of (ls := [some (.ref 52), some (.ref o0), some (.ref r1), none, none]) (by decide) (by simp) rfl rfl ?_
  obtain ⟨Q, eQ⟩ : ∃ Q, Q = Qret cX2_meanOf (some .int) (some (.int rZ)) wZ := ⟨_, rfl⟩
  rw [← eQ]
  unfold fX2_meanOf at hf
  refine E_aload_n (v := 52) dX2_meanOf_0 rfl ?_
  refine E_iconst 1 dX2_meanOf_1 ic_1 ?_
  obtain ⟨w2, hc1, hf⟩ := bd_some hf
  try dsimp only at hf
  refine E_callVv (rest := []) (ci := 2) cv_RX2_42 dX2_meanOf_2 (MX2_begin hc1) rfl sC_52 rfl (by decide) rfl rfl (fun _ => Nat.le_of_ble_eq_true rfl) ?_
  refine E_iconst 0 dX2_meanOf_5 ic_0 ?_
  refine E_istore_n (ls' := [some (.ref 52), some (.ref o0), some (.ref r1), some (.int 0), none]) dX2_meanOf_6 rfl rfl rfl ?_
  refine E_iconst 0 dX2_meanOf_7 ic_0 ?_
  refine E_istore (ls' := [some (.ref 52), some (.ref o0), some (.ref r1), some (.int 0), some (.int 0)]) dX2_meanOf_8 rfl rfl rfl ?_
  obtain ⟨q, hw17, hf⟩ := bd_some hf
  try dsimp only at hf
  show (fun (s : Int32 × Int32 × AW) => E PC RX2 cX2_meanOf 5 4 10 [some (.ref 52), some (.ref o0), some (.ref r1), some (.int s.1), some (.int s.2.1)] [] s.2.2 Q) (0, 0, w2)
  refine wh_E (K := (fun (s : Int32 × Int32 × AW) => E PC RX2 cX2_meanOf 5 4 10 [some (.ref 52), some (.ref o0), some (.ref r1), some (.int s.1), some (.int s.2.1)] [] s.2.2 Q)) (X := (fun (s : Int32 × AW) => E PC RX2 cX2_meanOf 5 4 66 [none, none, none, some (.int s.1), none] [] s.2 Q)) ?_ hw17 ?_
  · intro s9 z9 hf k9
    obtain ⟨x3_10_1, x4_10_1, w_10_1⟩ := s9
    dsimp only [lbX2_meanOf_10_1] at hf
    show E PC RX2 cX2_meanOf 5 4 10 [some (.ref 52), some (.ref o0), some (.ref r1), some (.int x3_10_1), some (.int x4_10_1)] [] w_10_1 Q
    refine E_iload (v := x4_10_1) dX2_meanOf_10 rfl ?_
    refine E_aload_n (v := o0) dX2_meanOf_12 rfl ?_
    refine E_getI fg_RX2_46 dX2_meanOf_13 (J_s0 ho0) rfl ?_
    refine E_icmp_ge 66 dX2_meanOf_16 (by decide) (fun hc3 => ?_) (fun hc3 => ?_)
    · rw [if_pos hc3] at hf
      obtain rfl := Option.some.inj hf
      refine E.fewer (ls' := [none, none, none, some (.int x3_10_1), none]) ⟨Or.inl rfl, ⟨Or.inl rfl, ⟨Or.inl rfl, ⟨Or.inr rfl, ⟨Or.inl rfl, trivial⟩⟩⟩⟩⟩ ?_
      exact k9
    · rw [if_neg hc3] at hf
      refine E_aload_n (v := 52) dX2_meanOf_19 rfl ?_
      refine E_aload_n (v := o0) dX2_meanOf_20 rfl ?_
      refine E_iload (v := x4_10_1) dX2_meanOf_21 rfl ?_
      refine E_iload (v := x4_10_1) dX2_meanOf_23 rfl ?_
      refine E_if_ne 32 dX2_meanOf_25 (by decide) (fun hc4 => ?_) (fun hc4 => ?_)
      · rw [if_pos hc4] at hf
        refine E_iconst 0 dX2_meanOf_28 ic_0 ?_
        refine E_goto 43 dX2_meanOf_29 (by decide) ?_
        refine E_aload_n (v := r1) dX2_meanOf_43 rfl ?_
        refine E_iload (v := x4_10_1) dX2_meanOf_44 rfl ?_
        obtain ⟨hi5, hf⟩ := gd_some hf
        refine E_iald (n := 6) dX2_meanOf_46 hr1 (by decide) (inb_in hi5) ?_
        obtain ⟨r7, w8, hc6, hf⟩ := bd2_some hf
        try dsimp only at hf
        refine E_callVi (rest := []) (ci := 2) cv_RX2_54 dX2_meanOf_47 (MX2_spread ho0 hc6) rfl sC_52 rfl (by decide) rfl rfl (fun _ => Nat.le_of_ble_eq_true rfl) ?_
        refine E_pop_i dX2_meanOf_50 ?_
        refine E_iload_n (v := x3_10_1) dX2_meanOf_51 rfl ?_
        refine E_iconst 4 dX2_meanOf_52 ic_4 ?_
        refine E_imul dX2_meanOf_53 ?_
        refine E_aload_n (v := 52) dX2_meanOf_54 rfl ?_
        refine E_getI fg_RX2_31 dX2_meanOf_55 sC_52 rfl ?_
        refine E_iadd dX2_meanOf_58 ?_
        refine E_istore_n (ls' := [some (.ref 52), some (.ref o0), some (.ref r1), some (.int ((x3_10_1 * 4) + (w8.1 52 7))), some (.int x4_10_1)]) dX2_meanOf_59 rfl rfl rfl ?_
        refine E_iinc (ls' := [some (.ref 52), some (.ref o0), some (.ref r1), some (.int ((x3_10_1 * 4) + (w8.1 52 7))), some (.int (x4_10_1 + 1))]) 1 dX2_meanOf_60 rfl ic_1 rfl rfl rfl ?_
        refine E_goto 10 dX2_meanOf_63 (by decide) ?_
        obtain rfl := Option.some.inj hf
        exact k9
      · rw [if_neg hc4] at hf
        refine E_aload_n (v := o0) dX2_meanOf_32 rfl ?_
        refine E_getR fg_RX2_51 dX2_meanOf_33 (J_s0 ho0) rfl (J_r0_3 ho0) (Nat.succ_ne_zero _) ?_
        refine E_aload_n (v := r1) dX2_meanOf_36 rfl ?_
        refine E_iload (v := x4_10_1) dX2_meanOf_37 rfl ?_
        refine E_iconst 1 dX2_meanOf_39 ic_1 ?_
        refine E_isub dX2_meanOf_40 ?_
        obtain ⟨hi10, hf⟩ := gd_some hf
        refine E_iald (n := 6) dX2_meanOf_41 hr1 (by decide) (inb_in hi10) ?_
        obtain ⟨hi11, hf⟩ := gd_some hf
        refine E_iald (n := 6) dX2_meanOf_42 (J_s3 ho0) (by decide) (inb_in hi11) ?_
        refine E_aload_n (v := r1) dX2_meanOf_43 rfl ?_
        refine E_iload (v := x4_10_1) dX2_meanOf_44 rfl ?_
        obtain ⟨hi12, hf⟩ := gd_some hf
        refine E_iald (n := 6) dX2_meanOf_46 hr1 (by decide) (inb_in hi12) ?_
        obtain ⟨r14, w15, hc13, hf⟩ := bd2_some hf
        try dsimp only at hf
        refine E_callVi (rest := []) (ci := 2) cv_RX2_54 dX2_meanOf_47 (MX2_spread ho0 hc13) rfl sC_52 rfl (by decide) rfl rfl (fun _ => Nat.le_of_ble_eq_true rfl) ?_
        refine E_pop_i dX2_meanOf_50 ?_
        refine E_iload_n (v := x3_10_1) dX2_meanOf_51 rfl ?_
        refine E_iconst 4 dX2_meanOf_52 ic_4 ?_
        refine E_imul dX2_meanOf_53 ?_
        refine E_aload_n (v := 52) dX2_meanOf_54 rfl ?_
        refine E_getI fg_RX2_31 dX2_meanOf_55 sC_52 rfl ?_
        refine E_iadd dX2_meanOf_58 ?_
        refine E_istore_n (ls' := [some (.ref 52), some (.ref o0), some (.ref r1), some (.int ((x3_10_1 * 4) + (w15.1 52 7))), some (.int x4_10_1)]) dX2_meanOf_59 rfl rfl rfl ?_
        refine E_iinc (ls' := [some (.ref 52), some (.ref o0), some (.ref r1), some (.int ((x3_10_1 * 4) + (w15.1 52 7))), some (.int (x4_10_1 + 1))]) 1 dX2_meanOf_60 rfl ic_1 rfl rfl rfl ?_
        refine E_goto 10 dX2_meanOf_63 (by decide) ?_
        obtain rfl := Option.some.inj hf
        exact k9
  · skip
    obtain ⟨y18, w19⟩ := q
    try dsimp only at hf
    show E PC RX2 cX2_meanOf 5 4 66 [none, none, none, some (.int y18), none] [] w19 Q
    refine E_iload_n (v := y18) dX2_meanOf_66 rfl ?_
    obtain ⟨rfl, rfl⟩ := ret2 hf
    exact E.done (by rw [eQ]; exact ⟨rfl, Or.inl ⟨_, _, rfl, rfl, dX2_meanOf_67, rfl, rfl⟩⟩)
set_option maxRecDepth 10000 in
set_option maxHeartbeats 2000000 in
theorem MX11_mean {N : Nat} {a0 : Int32} {w : AW} {rZ : Int32} {wZ : AW} (hf : fX11_mean N a0 w = some (rZ, wZ)) : CallOK PC yX11_mean cX11_mean 2 (some .int) 5 [.ref 0, .int a0] w (some (.int rZ)) wZ := by
  refine CallOK.of (ls := [some (.ref 0), some (.int a0)]) (by decide) (by simp) rfl rfl ?_
  obtain ⟨Q, eQ⟩ : ∃ Q, Q = Qret cX11_mean (some .int) (some (.int rZ)) wZ := ⟨_, rfl⟩
  rw [← eQ]
  unfold fX11_mean at hf
  refine E_iload_n (v := a0) dX11_mean_0 rfl ?_
  refine E_iconst 0 dX11_mean_1 ic_0 ?_
  refine E_iconst 1 dX11_mean_2 ic_1 ?_
  obtain ⟨r2, hc1, hf⟩ := bd_some hf
  try dsimp only at hf
  refine E_callSi (rest := []) cs_RX11_100 dX11_mean_3 (MX11_within hc1) rfl rfl rfl (fun _ => Nat.le_of_ble_eq_true rfl) ?_
  refine E_if_ne 12 dX11_mean_6 (by decide) (fun hc3 => ?_) (fun hc3 => ?_)
  · rw [if_pos hc3] at hf
    refine E_ldc (-2147483648) dX11_mean_9 wk_RX11_207 ?_
    obtain ⟨rfl, rfl⟩ := ret2 hf
    exact E.done (by rw [eQ]; exact ⟨rfl, Or.inl ⟨_, _, rfl, rfl, dX11_mean_11, rfl, rfl⟩⟩)
  · rw [if_neg hc3] at hf
    refine E_aload_n (v := 0) dX11_mean_12 rfl ?_
    refine E_getR fg_RX11_43 dX11_mean_13 sC_0 rfl rC_0_6 (Nat.succ_ne_zero _) ?_
    refine E_aload_n (v := 0) dX11_mean_16 rfl ?_
    refine E_getR fg_RX11_10 dX11_mean_17 sC_0 rfl rC_0_0 (Nat.succ_ne_zero _) ?_
    refine E_iconst 0 dX11_mean_20 ic_0 ?_
    obtain ⟨w5, hc4, hf⟩ := bd_some hf
    try dsimp only at hf
    refine E_callVv (rest := []) (ci := 3) cv_RX11_208 dX11_mean_21 (MX3_measure B_is1 hc4) rfl sC_46 rfl (by decide) rfl rfl (fun _ => Nat.le_of_ble_eq_true rfl) ?_
    refine E_aload_n (v := 0) dX11_mean_24 rfl ?_
    refine E_getR fg_RX11_59 dX11_mean_25 sC_0 rfl rC_0_8 (Nat.succ_ne_zero _) ?_
    refine E_aload_n (v := 0) dX11_mean_28 rfl ?_
    refine E_getR fg_RX11_10 dX11_mean_29 sC_0 rfl rC_0_0 (Nat.succ_ne_zero _) ?_
    refine E_getR fg_RX11_130 dX11_mean_32 sC_1 rfl rC_1_0 (Nat.succ_ne_zero _) ?_
    refine E_aload_n (v := 0) dX11_mean_35 rfl ?_
    refine E_getR fg_RX11_10 dX11_mean_36 sC_0 rfl rC_0_0 (Nat.succ_ne_zero _) ?_
    refine E_getR fg_RX11_183 dX11_mean_39 sC_1 rfl rC_1_4 (Nat.succ_ne_zero _) ?_
    obtain ⟨r7, w8, hc6, hf⟩ := bd2_some hf
    try dsimp only at hf
    refine E_callVi (rest := []) (ci := 2) cv_RX11_249 dX11_mean_42 (MX2_meanOf J_is2 sC_11 hc6) rfl sC_52 rfl (by decide) rfl rfl (fun _ => Nat.le_of_ble_eq_true rfl) ?_
    refine E_iconst 2 dX11_mean_45 ic_2 ?_
    refine E_aload_n (v := 0) dX11_mean_46 rfl ?_
    refine E_getR fg_RX11_10 dX11_mean_47 sC_0 rfl rC_0_0 (Nat.succ_ne_zero _) ?_
    refine E_getR fg_RX11_130 dX11_mean_50 sC_1 rfl rC_1_0 (Nat.succ_ne_zero _) ?_
    refine E_getI fg_RX11_131 dX11_mean_53 sC_2 rfl ?_
    refine E_imul dX11_mean_56 ?_
    refine E_iload_n (v := a0) dX11_mean_57 rfl ?_
    obtain ⟨r11, hc10, hf⟩ := bd_some hf
    try dsimp only at hf
    refine E_callSi (rest := []) cs_RX11_242 dX11_mean_58 (MX11_partOf hc10) rfl rfl rfl (fun _ => Nat.le_of_ble_eq_true rfl) ?_
    obtain ⟨rfl, rfl⟩ := ret2 hf
    exact E.done (by rw [eQ]; exact ⟨rfl, Or.inl ⟨_, _, rfl, rfl, dX11_mean_61, rfl, rfl⟩⟩)
set_option maxRecDepth 10000 in
set_option maxHeartbeats 2000000 in
theorem MX11_night {a0 : Int32} {a1 : Int32} {w : AW} {rZ : Int32} {wZ : AW} (hf : fX11_night a0 a1 w = some (rZ, wZ)) : CallOK PC yX11_night cX11_night 4 (some .int) 2 [.ref 0, .int a0, .int a1] w (some (.int rZ)) wZ := by
  refine CallOK.of (ls := [some (.ref 0), some (.int a0), some (.int a1), none]) (by decide) (by simp) rfl rfl ?_
  obtain ⟨Q, eQ⟩ : ∃ Q, Q = Qret cX11_night (some .int) (some (.int rZ)) wZ := ⟨_, rfl⟩
  rw [← eQ]
  unfold fX11_night at hf
  refine E_iload_n (v := a0) dX11_night_0 rfl ?_
  refine E_iconst 0 dX11_night_1 ic_0 ?_
  refine E_bipush 60 dX11_night_2 bp_60 ?_
  obtain ⟨r2, hc1, hf⟩ := bd_some hf
  try dsimp only at hf
  refine E_callSi (rest := []) cs_RX11_100 dX11_night_4 (MX11_within hc1) rfl rfl rfl (fun _ => Nat.le_of_ble_eq_true rfl) ?_
  refine E_if_eq 20 dX11_night_7 (by decide) (fun hc3 => ?_) (fun hc3 => ?_)
  · rw [if_pos hc3] at hf
    refine E_iconst (-1) dX11_night_20 ic_m1 ?_
    obtain ⟨rfl, rfl⟩ := ret2 hf
    exact E.done (by rw [eQ]; exact ⟨rfl, Or.inl ⟨_, _, rfl, rfl, dX11_night_21, rfl, rfl⟩⟩)
  · rw [if_neg hc3] at hf
    refine E_iload_n (v := a1) dX11_night_10 rfl ?_
    refine E_iconst 0 dX11_night_11 ic_0 ?_
    refine E_bipush 9 dX11_night_12 bp_9 ?_
    obtain ⟨r5, hc4, hf⟩ := bd_some hf
    try dsimp only at hf
    refine E_callSi (rest := []) cs_RX11_100 dX11_night_14 (MX11_within hc4) rfl rfl rfl (fun _ => Nat.le_of_ble_eq_true rfl) ?_
    refine E_if_ne 22 dX11_night_17 (by decide) (fun hc6 => ?_) (fun hc6 => ?_)
    · rw [if_pos hc6] at hf
      refine E_iconst (-1) dX11_night_20 ic_m1 ?_
      obtain ⟨rfl, rfl⟩ := ret2 hf
      exact E.done (by rw [eQ]; exact ⟨rfl, Or.inl ⟨_, _, rfl, rfl, dX11_night_21, rfl, rfl⟩⟩)
    · rw [if_neg hc6] at hf
      refine E_aload_n (v := 0) dX11_night_22 rfl ?_
      refine E_getR fg_RX11_10 dX11_night_23 sC_0 rfl rC_0_0 (Nat.succ_ne_zero _) ?_
      refine E_getR fg_RX11_173 dX11_night_26 sC_1 rfl rC_1_3 (Nat.succ_ne_zero _) ?_
      refine E_iload_n (v := a0) dX11_night_29 rfl ?_
      obtain ⟨hi7, hf⟩ := gd_some hf
      refine E_iald (n := 61) dX11_night_30 sC_10 (by decide) (inb_in hi7) ?_
      refine E_istore_n (ls' := [some (.ref 0), some (.int a0), some (.int a1), some (.int (w.1 10 a0.toNatClampNeg))]) dX11_night_31 rfl rfl rfl ?_
      refine E_aload_n (v := 0) dX11_night_32 rfl ?_
      refine E_getR fg_RX11_10 dX11_night_33 sC_0 rfl rC_0_0 (Nat.succ_ne_zero _) ?_
      refine E_getR fg_RX11_173 dX11_night_36 sC_1 rfl rC_1_3 (Nat.succ_ne_zero _) ?_
      refine E_iload_n (v := a0) dX11_night_39 rfl ?_
      refine E_iload_n (v := a1) dX11_night_40 rfl ?_
      obtain ⟨w8, ew8, hf⟩ := lw_some hf
      try dsimp only at hf
      refine E_iast (n := 61) dX11_night_41 sC_10 (by decide) (inb_in hi7) ?_
      rw [← ew8]
      refine E_iload_n (v := (w.1 10 a0.toNatClampNeg)) dX11_night_42 rfl ?_
      obtain ⟨rfl, rfl⟩ := ret2 hf
      exact E.done (by rw [eQ]; exact ⟨rfl, Or.inl ⟨_, _, rfl, rfl, dX11_night_43, rfl, rfl⟩⟩)
set_option maxRecDepth 10000 in
set_option maxHeartbeats 2000000 in
theorem MX11_nights {N : Nat} {w : AW} {rZ : Int32} {wZ : AW} (hf : fX11_nights N w = some (rZ, wZ)) : CallOK PC yX11_nights cX11_nights 2 (some .int) 14 [.ref 0] w (some (.int rZ)) wZ := by
  refine CallOK.of (ls := [some (.ref 0), none]) (by decide) (by simp) rfl rfl ?_
  obtain ⟨Q, eQ⟩ : ∃ Q, Q = Qret cX11_nights (some .int) (some (.int rZ)) wZ := ⟨_, rfl⟩
  rw [← eQ]
  unfold fX11_nights at hf
  refine E_iconst 0 dX11_nights_0 ic_0 ?_
  refine E_istore_n (ls' := [some (.ref 0), some (.int 0)]) dX11_nights_1 rfl rfl rfl ?_
  obtain ⟨q, hw9, hf⟩ := bd_some hf
  try dsimp only at hf
  show (fun (s : Int32 × AW) => E PC RX11 cX11_nights 2 14 2 [some (.ref 0), some (.int s.1)] [] s.2 Q) (0, w)
  refine wh_E (K := (fun (s : Int32 × AW) => E PC RX11 cX11_nights 2 14 2 [some (.ref 0), some (.int s.1)] [] s.2 Q)) (X := (se (fun (s : AW) => E PC RX11 cX11_nights 2 14 45 [none, none] [] s Q) (fun (s : Int32 × AW) => E PC RX11 cX11_nights 2 14 37 [none, some (.int s.1)] [] s.2 Q))) ?_ hw9 ?_
  · intro s9 z9 hf k9
    obtain ⟨x1_2_1, w_2_1⟩ := s9
    dsimp only [lbX11_nights_2_1] at hf
    show E PC RX11 cX11_nights 2 14 2 [some (.ref 0), some (.int x1_2_1)] [] w_2_1 Q
    refine E_iload_n (v := x1_2_1) dX11_nights_2 rfl ?_
    refine E_bipush 9 dX11_nights_3 bp_9 ?_
    refine E_icmp_gt 45 dX11_nights_5 (by decide) (fun hc1 => ?_) (fun hc1 => ?_)
    · rw [if_pos hc1] at hf
      obtain rfl := Option.some.inj hf
      refine E.fewer (ls' := [none, none]) ⟨Or.inl rfl, ⟨Or.inl rfl, trivial⟩⟩ ?_
      exact k9
    · rw [if_neg hc1] at hf
      refine E_aload_n (v := 0) dX11_nights_8 rfl ?_
      refine E_getR fg_RX11_43 dX11_nights_9 sC_0 rfl rC_0_6 (Nat.succ_ne_zero _) ?_
      refine E_aload_n (v := 0) dX11_nights_12 rfl ?_
      refine E_getR fg_RX11_10 dX11_nights_13 sC_0 rfl rC_0_0 (Nat.succ_ne_zero _) ?_
      refine E_iload_n (v := x1_2_1) dX11_nights_16 rfl ?_
      obtain ⟨w3, hc2, hf⟩ := bd_some hf
      try dsimp only at hf
      refine E_callVv (rest := []) (ci := 3) cv_RX11_208 dX11_nights_17 (MX3_measure B_is1 hc2) rfl sC_46 rfl (by decide) rfl rfl (fun _ => Nat.le_of_ble_eq_true rfl) ?_
      refine E_aload_n (v := 0) dX11_nights_20 rfl ?_
      refine E_getR fg_RX11_52 dX11_nights_21 sC_0 rfl rC_0_7 (Nat.succ_ne_zero _) ?_
      refine E_aload_n (v := 0) dX11_nights_24 rfl ?_
      refine E_getR fg_RX11_10 dX11_nights_25 sC_0 rfl rC_0_0 (Nat.succ_ne_zero _) ?_
      refine E_getR fg_RX11_130 dX11_nights_28 sC_1 rfl rC_1_0 (Nat.succ_ne_zero _) ?_
      obtain ⟨r5, w6, hc4, hf⟩ := bd2_some hf
      try dsimp only at hf
      refine E_callVi (rest := []) (ci := 5) cv_RX11_223 dX11_nights_31 (MX5_fewestLate J_is2 hc4) rfl sC_49 rfl (by decide) rfl rfl (fun _ => Nat.le_of_ble_eq_true rfl) ?_
      refine E_if_ne 39 dX11_nights_34 (by decide) (fun hc8 => ?_) (fun hc8 => ?_)
      · rw [if_pos hc8] at hf
        obtain rfl := Option.some.inj hf
        refine E.fewer (ls' := [none, some (.int x1_2_1)]) ⟨Or.inl rfl, ⟨Or.inr rfl, trivial⟩⟩ ?_
        exact k9
      · rw [if_neg hc8] at hf
        refine E_iinc (ls' := [some (.ref 0), some (.int (x1_2_1 + 1))]) 1 dX11_nights_39 rfl ic_1 rfl rfl rfl ?_
        refine E_goto 2 dX11_nights_42 (by decide) ?_
        obtain rfl := Option.some.inj hf
        exact k9
  · skip
    rcases q with q | q
    · dsimp only [se] at hf
      obtain ⟨w10, hq9⟩ : ∃ a, a = q := ⟨_, rfl⟩
      subst hq9
      try dsimp only at hf
      show E PC RX11 cX11_nights 2 14 45 [none, none] [] w10 Q
      refine E_bipush (-3) dX11_nights_45 bp_m3 ?_
      obtain ⟨rfl, rfl⟩ := ret2 hf
      exact E.done (by rw [eQ]; exact ⟨rfl, Or.inl ⟨_, _, rfl, rfl, dX11_nights_47, rfl, rfl⟩⟩)
    · dsimp only [se] at hf
      obtain ⟨y11, w12⟩ := q
      try dsimp only at hf
      show E PC RX11 cX11_nights 2 14 37 [none, some (.int y11)] [] w12 Q
      refine E_iload_n (v := y11) dX11_nights_37 rfl ?_
      obtain ⟨rfl, rfl⟩ := ret2 hf
      exact E.done (by rw [eQ]; exact ⟨rfl, Or.inl ⟨_, _, rfl, rfl, dX11_nights_38, rfl, rfl⟩⟩)
set_option maxRecDepth 10000 in
set_option maxHeartbeats 2000000 in
theorem MX1_arrange {N : Nat} {b : Nat} {a0 : Int32} {w : AW} {rZ : Int32} {wZ : AW} (hb : isB b) (hf : fX1_arrange N b a0 w = some (rZ, wZ)) : CallOK PC yX1_arrange cX1_arrange 4 (some .boolean) 1 [.ref b, .int a0] w (some (.int rZ)) wZ := by
  refine CallOK.of (ls := [some (.ref b), some (.int a0), none, none]) (by decide) (by simp) rfl rfl ?_
  obtain ⟨Q, eQ⟩ : ∃ Q, Q = Qret cX1_arrange (some .boolean) (some (.int rZ)) wZ := ⟨_, rfl⟩
  rw [← eQ]
  unfold fX1_arrange at hf
  refine E_iload_n (v := a0) dX1_arrange_0 rfl ?_
  refine E_if_lt 18 dX1_arrange_1 (by decide) (fun hc1 => ?_) (fun hc1 => ?_)
  · rw [if_pos hc1] at hf
    refine E_iconst 0 dX1_arrange_18 ic_0 ?_
    obtain ⟨rfl, rfl⟩ := ret2 hf
    exact E.done (by rw [eQ]; exact ⟨rfl, Or.inl ⟨_, _, rfl, rfl, dX1_arrange_19, rfl, rfl⟩⟩)
  · rw [if_neg hc1] at hf
    refine E_iload_n (v := a0) dX1_arrange_4 rfl ?_
    refine E_iconst 3 dX1_arrange_5 ic_3 ?_
    refine E_aload_n (v := b) dX1_arrange_6 rfl ?_
    refine E_getR fg_RX1_12 dX1_arrange_7 (B_s0 hb) rfl (B_r0_0 hb) (Nat.succ_ne_zero _) ?_
    refine E_getI fg_RX1_54 dX1_arrange_10 (B_s1 hb) rfl ?_
    refine E_imul dX1_arrange_13 ?_
    refine E_ishr dX1_arrange_14 ?_
    refine E_if_eq 20 dX1_arrange_15 (by decide) (fun hc2 => ?_) (fun hc2 => ?_)
    · rw [if_pos hc2] at hf
      refine E_iconst 0 dX1_arrange_20 ic_0 ?_
      refine E_istore_n (ls' := [some (.ref b), some (.int a0), some (.int 0), none]) dX1_arrange_21 rfl rfl rfl ?_
      refine E_iconst 0 dX1_arrange_22 ic_0 ?_
      refine E_istore_n (ls' := [some (.ref b), some (.int a0), some (.int 0), some (.int 0)]) dX1_arrange_23 rfl rfl rfl ?_
      obtain ⟨q, hw5, hf⟩ := bd_some hf
      try dsimp only at hf
      show (fun (s : Int32 × Int32) => E PC RX1 cX1_arrange 4 1 24 [some (.ref b), some (.int a0), some (.int s.1), some (.int s.2)] [] w Q) (0, 0)
      refine wh_E (K := (fun (s : Int32 × Int32) => E PC RX1 cX1_arrange 4 1 24 [some (.ref b), some (.int a0), some (.int s.1), some (.int s.2)] [] w Q)) (X := (fun (s : Int32) => E PC RX1 cX1_arrange 4 1 54 [some (.ref b), some (.int a0), some (.int s), none] [] w Q)) ?_ hw5 ?_
      · intro s9 z9 hf k9
        obtain ⟨x2_24_1, x3_24_1⟩ := s9
        dsimp only [lbX1_arrange_24_1] at hf
        show E PC RX1 cX1_arrange 4 1 24 [some (.ref b), some (.int a0), some (.int x2_24_1), some (.int x3_24_1)] [] w Q
        refine E_iload_n (v := x3_24_1) dX1_arrange_24 rfl ?_
        refine E_aload_n (v := b) dX1_arrange_25 rfl ?_
        refine E_getR fg_RX1_12 dX1_arrange_26 (B_s0 hb) rfl (B_r0_0 hb) (Nat.succ_ne_zero _) ?_
        refine E_getI fg_RX1_54 dX1_arrange_29 (B_s1 hb) rfl ?_
        refine E_icmp_ge 54 dX1_arrange_32 (by decide) (fun hc3 => ?_) (fun hc3 => ?_)
        · rw [if_pos hc3] at hf
          obtain rfl := Option.some.inj hf
          refine E.fewer (ls' := [some (.ref b), some (.int a0), some (.int x2_24_1), none]) ⟨Or.inr rfl, ⟨Or.inr rfl, ⟨Or.inr rfl, ⟨Or.inl rfl, trivial⟩⟩⟩⟩ ?_
          exact k9
        · rw [if_neg hc3] at hf
          refine E_iload_n (v := x2_24_1) dX1_arrange_35 rfl ?_
          refine E_iconst 1 dX1_arrange_36 ic_1 ?_
          refine E_iload_n (v := a0) dX1_arrange_37 rfl ?_
          refine E_iconst 3 dX1_arrange_38 ic_3 ?_
          refine E_iload_n (v := x3_24_1) dX1_arrange_39 rfl ?_
          refine E_imul dX1_arrange_40 ?_
          refine E_ishr dX1_arrange_41 ?_
          refine E_bipush 7 dX1_arrange_42 bp_7 ?_
          refine E_iand dX1_arrange_44 ?_
          refine E_ishl dX1_arrange_45 ?_
          refine E_ior dX1_arrange_46 ?_
          obtain ⟨v4, ev4, hf⟩ := lw_some hf
          try dsimp only at hf
          rw [← ev4]
          refine E_istore_n (ls' := [some (.ref b), some (.int a0), some (.int v4), some (.int x3_24_1)]) dX1_arrange_47 rfl rfl rfl ?_
          refine E_iinc (ls' := [some (.ref b), some (.int a0), some (.int v4), some (.int (x3_24_1 + 1))]) 1 dX1_arrange_48 rfl ic_1 rfl rfl rfl ?_
          refine E_goto 24 dX1_arrange_51 (by decide) ?_
          obtain rfl := Option.some.inj hf
          exact k9
      · skip
        obtain ⟨y6, hq9⟩ : ∃ a, a = q := ⟨_, rfl⟩
        subst hq9
        try dsimp only at hf
        show E PC RX1 cX1_arrange 4 1 54 [some (.ref b), some (.int a0), some (.int y6), none] [] w Q
        refine E_iload_n (v := y6) dX1_arrange_54 rfl ?_
        refine E_iconst 1 dX1_arrange_55 ic_1 ?_
        refine E_aload_n (v := b) dX1_arrange_56 rfl ?_
        refine E_getR fg_RX1_12 dX1_arrange_57 (B_s0 hb) rfl (B_r0_0 hb) (Nat.succ_ne_zero _) ?_
        refine E_getI fg_RX1_54 dX1_arrange_60 (B_s1 hb) rfl ?_
        refine E_ishl dX1_arrange_63 ?_
        refine E_iconst 1 dX1_arrange_64 ic_1 ?_
        refine E_isub dX1_arrange_65 ?_
        refine E_icmp_eq 71 dX1_arrange_66 (by decide) (fun hc7 => ?_) (fun hc7 => ?_)
        · rw [if_pos hc7] at hf
          refine E_iconst 0 dX1_arrange_71 ic_0 ?_
          refine E_istore_n (ls' := [some (.ref b), some (.int a0), some (.int y6), some (.int 0)]) dX1_arrange_72 rfl rfl rfl ?_
          obtain ⟨q, hw11, hf⟩ := bd_some hf
          try dsimp only at hf
          refine E.fewer (ls' := [some (.ref b), some (.int a0), none, some (.int 0)]) ⟨Or.inr rfl, ⟨Or.inr rfl, ⟨Or.inl rfl, ⟨Or.inr rfl, trivial⟩⟩⟩⟩ ?_
          show (fun (s : Int32 × AW) => E PC RX1 cX1_arrange 4 1 73 [some (.ref b), some (.int a0), none, some (.int s.1)] [] s.2 Q) (0, w)
          refine wh_E (K := (fun (s : Int32 × AW) => E PC RX1 cX1_arrange 4 1 73 [some (.ref b), some (.int a0), none, some (.int s.1)] [] s.2 Q)) (X := (fun (s : AW) => E PC RX1 cX1_arrange 4 1 104 [none, none, none, none] [] s Q)) ?_ hw11 ?_
          · intro s9 z9 hf k9
            obtain ⟨x3_73_2, w_73_2⟩ := s9
            dsimp only [lbX1_arrange_73_2] at hf
            show E PC RX1 cX1_arrange 4 1 73 [some (.ref b), some (.int a0), none, some (.int x3_73_2)] [] w_73_2 Q
            refine E_iload_n (v := x3_73_2) dX1_arrange_73 rfl ?_
            refine E_aload_n (v := b) dX1_arrange_74 rfl ?_
            refine E_getR fg_RX1_12 dX1_arrange_75 (B_s0 hb) rfl (B_r0_0 hb) (Nat.succ_ne_zero _) ?_
            refine E_getI fg_RX1_54 dX1_arrange_78 (B_s1 hb) rfl ?_
            refine E_icmp_ge 104 dX1_arrange_81 (by decide) (fun hc8 => ?_) (fun hc8 => ?_)
            · rw [if_pos hc8] at hf
              obtain rfl := Option.some.inj hf
              refine E.fewer (ls' := [none, none, none, none]) ⟨Or.inl rfl, ⟨Or.inl rfl, ⟨Or.inl rfl, ⟨Or.inl rfl, trivial⟩⟩⟩⟩ ?_
              exact k9
            · rw [if_neg hc8] at hf
              refine E_aload_n (v := b) dX1_arrange_84 rfl ?_
              refine E_getR fg_RX1_28 dX1_arrange_85 (B_s0 hb) rfl (B_r0_4 hb) (Nat.succ_ne_zero _) ?_
              refine E_iload_n (v := x3_73_2) dX1_arrange_88 rfl ?_
              refine E_iload_n (v := a0) dX1_arrange_89 rfl ?_
              refine E_iconst 3 dX1_arrange_90 ic_3 ?_
              refine E_iload_n (v := x3_73_2) dX1_arrange_91 rfl ?_
              refine E_imul dX1_arrange_92 ?_
              refine E_ishr dX1_arrange_93 ?_
              refine E_bipush 7 dX1_arrange_94 bp_7 ?_
              refine E_iand dX1_arrange_96 ?_
              obtain ⟨hi9, hf⟩ := gd_some hf
              obtain ⟨w10, ew10, hf⟩ := lw_some hf
              try dsimp only at hf
              refine E_iast (n := 6) dX1_arrange_97 (B_s10 hb) (by decide) (inb_in hi9) ?_
              rw [← ew10]
              refine E_iinc (ls' := [some (.ref b), some (.int a0), none, some (.int (x3_73_2 + 1))]) 1 dX1_arrange_98 rfl ic_1 rfl rfl rfl ?_
              refine E_goto 73 dX1_arrange_101 (by decide) ?_
              obtain rfl := Option.some.inj hf
              exact k9
          · skip
            obtain ⟨w12, hq9⟩ : ∃ a, a = q := ⟨_, rfl⟩
            subst hq9
            try dsimp only at hf
            show E PC RX1 cX1_arrange 4 1 104 [none, none, none, none] [] w12 Q
            refine E_iconst 1 dX1_arrange_104 ic_1 ?_
            obtain ⟨rfl, rfl⟩ := ret2 hf
            exact E.done (by rw [eQ]; exact ⟨rfl, Or.inl ⟨_, _, rfl, rfl, dX1_arrange_105, rfl, rfl⟩⟩)
        · rw [if_neg hc7] at hf
          refine E_iconst 0 dX1_arrange_69 ic_0 ?_
          obtain ⟨rfl, rfl⟩ := ret2 hf
          exact E.done (by rw [eQ]; exact ⟨rfl, Or.inl ⟨_, _, rfl, rfl, dX1_arrange_70, rfl, rfl⟩⟩)
    · rw [if_neg hc2] at hf
      refine E_iconst 0 dX1_arrange_18 ic_0 ?_
      obtain ⟨rfl, rfl⟩ := ret2 hf
      exact E.done (by rw [eQ]; exact ⟨rfl, Or.inl ⟨_, _, rfl, rfl, dX1_arrange_19, rfl, rfl⟩⟩)
set_option maxRecDepth 10000 in
set_option maxHeartbeats 2000000 in
theorem MX11_plan {N : Nat} {a0 : Int32} {w : AW} {rZ : Int32} {wZ : AW} (hf : fX11_plan N a0 w = some (rZ, wZ)) : CallOK PC yX11_plan cX11_plan 2 (some .int) 2 [.ref 0, .int a0] w (some (.int rZ)) wZ := by
  refine CallOK.of (ls := [some (.ref 0), some (.int a0)]) (by decide) (by simp) rfl rfl ?_
  obtain ⟨Q, eQ⟩ : ∃ Q, Q = Qret cX11_plan (some .int) (some (.int rZ)) wZ := ⟨_, rfl⟩
  rw [← eQ]
  unfold fX11_plan at hf
  refine E_aload_n (v := 0) dX11_plan_0 rfl ?_
  refine E_getR fg_RX11_10 dX11_plan_1 sC_0 rfl rC_0_0 (Nat.succ_ne_zero _) ?_
  refine E_iload_n (v := a0) dX11_plan_4 rfl ?_
  obtain ⟨r2, w3, hc1, hf⟩ := bd2_some hf
  try dsimp only at hf
  refine E_callVi (rest := []) (ci := 1) cv_RX11_180 dX11_plan_5 (MX1_arrange B_is1 hc1) rfl sC_1 rfl (by decide) rfl rfl (fun _ => Nat.le_of_ble_eq_true rfl) ?_
  refine E_if_eq 15 dX11_plan_8 (by decide) (fun hc5 => ?_) (fun hc5 => ?_)
  · rw [if_pos hc5] at hf
    refine E_iconst (-1) dX11_plan_15 ic_m1 ?_
    obtain ⟨rfl, rfl⟩ := ret2 hf
    exact E.done (by rw [eQ]; exact ⟨rfl, Or.inl ⟨_, _, rfl, rfl, dX11_plan_16, rfl, rfl⟩⟩)
  · rw [if_neg hc5] at hf
    refine E_iconst 1 dX11_plan_11 ic_1 ?_
    refine E_goto 16 dX11_plan_12 (by decide) ?_
    obtain ⟨rfl, rfl⟩ := ret2 hf
    exact E.done (by rw [eQ]; exact ⟨rfl, Or.inl ⟨_, _, rfl, rfl, dX11_plan_16, rfl, rfl⟩⟩)
set_option maxRecDepth 10000 in
set_option maxHeartbeats 2000000 in
theorem MX11_planOf {a0 : Int32} {w : AW} {rZ : Int32} (hf : fX11_planOf a0 w = some rZ) : CallOK PC yX11_planOf cX11_planOf 2 (some .int) 2 [.ref 0, .int a0] w (some (.int rZ)) w := by
  refine CallOK.of (ls := [some (.ref 0), some (.int a0)]) (by decide) (by simp) rfl rfl ?_
  obtain ⟨Q, eQ⟩ : ∃ Q, Q = Qret cX11_planOf (some .int) (some (.int rZ)) w := ⟨_, rfl⟩
  rw [← eQ]
  unfold fX11_planOf at hf
  refine E_aload_n (v := 0) dX11_planOf_0 rfl ?_
  refine E_getR fg_RX11_10 dX11_planOf_1 sC_0 rfl rC_0_0 (Nat.succ_ne_zero _) ?_
  refine E_getR fg_RX11_130 dX11_planOf_4 sC_1 rfl rC_1_0 (Nat.succ_ne_zero _) ?_
  refine E_iload_n (v := a0) dX11_planOf_7 rfl ?_
  obtain ⟨r2, hc1, hf⟩ := bd_some hf
  try dsimp only at hf
  refine E_callVi (rest := []) (ci := 4) cv_RX11_140 dX11_planOf_8 (MX4_has J_is2 hc1) rfl sC_2 rfl (by decide) rfl rfl (fun _ => Nat.le_of_ble_eq_true rfl) ?_
  refine E_if_ne 16 dX11_planOf_11 (by decide) (fun hc3 => ?_) (fun hc3 => ?_)
  · rw [if_pos hc3] at hf
    refine E_iconst (-1) dX11_planOf_14 ic_m1 ?_
    obtain rfl := Option.some.inj hf
    exact E.done (by rw [eQ]; exact ⟨rfl, Or.inl ⟨_, _, rfl, rfl, dX11_planOf_15, rfl, rfl⟩⟩)
  · rw [if_neg hc3] at hf
    refine E_aload_n (v := 0) dX11_planOf_16 rfl ?_
    refine E_getR fg_RX11_10 dX11_planOf_17 sC_0 rfl rC_0_0 (Nat.succ_ne_zero _) ?_
    refine E_getR fg_RX11_183 dX11_planOf_20 sC_1 rfl rC_1_4 (Nat.succ_ne_zero _) ?_
    refine E_iload_n (v := a0) dX11_planOf_23 rfl ?_
    obtain ⟨hi4, hf⟩ := gd_some hf
    refine E_iald (n := 6) dX11_planOf_24 sC_11 (by decide) (inb_in hi4) ?_
    obtain rfl := Option.some.inj hf
    exact E.done (by rw [eQ]; exact ⟨rfl, Or.inl ⟨_, _, rfl, rfl, dX11_planOf_25, rfl, rfl⟩⟩)
set_option maxRecDepth 10000 in
set_option maxHeartbeats 2000000 in
theorem MX11_press {a0 : Int32} {w : AW} {rZ : Int32} (hf : fX11_press a0 w = some rZ) : CallOK PC yX11_press cX11_press 2 (some .int) 1 [.ref 0, .int a0] w (some (.int rZ)) w := by
  refine CallOK.of (ls := [some (.ref 0), some (.int a0)]) (by decide) (by simp) rfl rfl ?_
  obtain ⟨Q, eQ⟩ : ∃ Q, Q = Qret cX11_press (some .int) (some (.int rZ)) w := ⟨_, rfl⟩
  rw [← eQ]
  unfold fX11_press at hf
  refine E_iload_n (v := a0) dX11_press_0 rfl ?_
  by_cases hc1 : a0 = 0
  · rw [if_pos hc1] at hf
    refine E_tableIn 28 dX11_press_1 (by rw [hc1]; decide) (by rw [hc1]; decide) (by rw [hc1]; rfl) (by decide) ?_
    refine E_aload_n (v := 0) dX11_press_28 rfl ?_
    refine E_getR fg_RX11_10 dX11_press_29 sC_0 rfl rC_0_0 (Nat.succ_ne_zero _) ?_
    refine E_getI fg_RX11_186 dX11_press_32 sC_1 rfl ?_
    obtain rfl := Option.some.inj hf
    exact E.done (by rw [eQ]; exact ⟨rfl, Or.inl ⟨_, _, rfl, rfl, dX11_press_35, rfl, rfl⟩⟩)
  · rw [if_neg hc1] at hf
    by_cases hc2 : a0 = 1
    · rw [if_pos hc2] at hf
      refine E_tableIn 36 dX11_press_1 (by rw [hc2]; decide) (by rw [hc2]; decide) (by rw [hc2]; rfl) (by decide) ?_
      refine E_aload_n (v := 0) dX11_press_36 rfl ?_
      refine E_getR fg_RX11_10 dX11_press_37 sC_0 rfl rC_0_0 (Nat.succ_ne_zero _) ?_
      refine E_getI fg_RX11_189 dX11_press_40 sC_1 rfl ?_
      obtain rfl := Option.some.inj hf
      exact E.done (by rw [eQ]; exact ⟨rfl, Or.inl ⟨_, _, rfl, rfl, dX11_press_43, rfl, rfl⟩⟩)
    · rw [if_neg hc2] at hf
      by_cases hc3 : a0 = 2
      · rw [if_pos hc3] at hf
        refine E_tableIn 44 dX11_press_1 (by rw [hc3]; decide) (by rw [hc3]; decide) (by rw [hc3]; rfl) (by decide) ?_
        refine E_aload_n (v := 0) dX11_press_44 rfl ?_
        refine E_getR fg_RX11_10 dX11_press_45 sC_0 rfl rC_0_0 (Nat.succ_ne_zero _) ?_
        refine E_getI fg_RX11_191 dX11_press_48 sC_1 rfl ?_
        obtain rfl := Option.some.inj hf
        exact E.done (by rw [eQ]; exact ⟨rfl, Or.inl ⟨_, _, rfl, rfl, dX11_press_51, rfl, rfl⟩⟩)
      · rw [if_neg hc3] at hf
        refine E_tableOut 52 dX11_press_1 (tb_0_2 hc1 hc2 hc3) (by decide) ?_
        refine E_iconst (-1) dX11_press_52 ic_m1 ?_
        obtain rfl := Option.some.inj hf
        exact E.done (by rw [eQ]; exact ⟨rfl, Or.inl ⟨_, _, rfl, rfl, dX11_press_53, rfl, rfl⟩⟩)
set_option maxRecDepth 10000 in
set_option maxHeartbeats 2000000 in
theorem MX6_fill {N : Nat} {o0 : Nat} {r1 : Nat} {w : AW} {wZ : AW} (ho0 : isJ o0) (hr1 : PC.1[r1]? = some 106) (hf : fX6_fill N o0 r1 w = some wZ) : CallOK PC yX6_fill cX6_fill 5 none 4 [.ref 59, .ref o0, .ref r1] w none wZ := by
  refine CallOK.of (ls := [some (.ref 59), some (.ref o0), some (.ref r1), none, none]) (by decide) (by simp) rfl rfl ?_
  obtain ⟨Q, eQ⟩ : ∃ Q, Q = Qret cX6_fill none none wZ := ⟨_, rfl⟩
  rw [← eQ]
  unfold fX6_fill at hf
  refine E_aload_n (v := 59) dX6_fill_0 rfl ?_
  refine E_getR fg_RX6_19 dX6_fill_1 sC_59 rfl rC_59_0 (Nat.succ_ne_zero _) ?_
  refine E_aload_n (v := o0) dX6_fill_4 rfl ?_
  refine E_aload_n (v := r1) dX6_fill_5 rfl ?_
  obtain ⟨w2, hc1, hf⟩ := bd_some hf
  try dsimp only at hf
  refine E_callVv (rest := []) (ci := 3) cv_RX6_27 dX6_fill_6 (MX3_follow ho0 hr1 hc1) rfl sC_46 rfl (by decide) rfl rfl (fun _ => Nat.le_of_ble_eq_true rfl) ?_
  refine E_aload_n (v := 59) dX6_fill_9 rfl ?_
  refine E_aload_n (v := o0) dX6_fill_10 rfl ?_
  refine E_getI fg_RX6_33 dX6_fill_11 (J_s0 ho0) rfl ?_
  obtain ⟨w3, ew3, hf⟩ := lw_some hf
  try dsimp only at hf
  refine E_putI fp_RX6_15 dX6_fill_14 sC_59 rfl rfl rfl ?_
  rw [← ew3]
  refine E_iconst 0 dX6_fill_17 ic_0 ?_
  refine E_istore_n (ls' := [some (.ref 59), some (.ref o0), some (.ref r1), some (.int 0), none]) dX6_fill_18 rfl rfl rfl ?_
  obtain ⟨q, hw15, hf⟩ := bd_some hf
  try dsimp only at hf
  show (fun (s : Int32 × AW) => E PC RX6 cX6_fill 5 4 19 [some (.ref 59), some (.ref o0), some (.ref r1), some (.int s.1), none] [] s.2 Q) (0, w3)
  refine wh_E (K := (fun (s : Int32 × AW) => E PC RX6 cX6_fill 5 4 19 [some (.ref 59), some (.ref o0), some (.ref r1), some (.int s.1), none] [] s.2 Q)) (X := (fun (s : AW) => E PC RX6 cX6_fill 5 4 101 [none, none, none, none, none] [] s Q)) ?_ hw15 ?_
  · intro s9 z9 hf k9
    obtain ⟨x3_19_1, w_19_1⟩ := s9
    dsimp only [lbX6_fill_19_1] at hf
    show E PC RX6 cX6_fill 5 4 19 [some (.ref 59), some (.ref o0), some (.ref r1), some (.int x3_19_1), none] [] w_19_1 Q
    refine E_iload_n (v := x3_19_1) dX6_fill_19 rfl ?_
    refine E_aload_n (v := o0) dX6_fill_20 rfl ?_
    refine E_getI fg_RX6_33 dX6_fill_21 (J_s0 ho0) rfl ?_
    refine E_icmp_ge 101 dX6_fill_24 (by decide) (fun hc4 => ?_) (fun hc4 => ?_)
    · rw [if_pos hc4] at hf
      obtain rfl := Option.some.inj hf
      refine E.fewer (ls' := [none, none, none, none, none]) ⟨Or.inl rfl, ⟨Or.inl rfl, ⟨Or.inl rfl, ⟨Or.inl rfl, ⟨Or.inl rfl, trivial⟩⟩⟩⟩⟩ ?_
      exact k9
    · rw [if_neg hc4] at hf
      refine E_aload_n (v := r1) dX6_fill_27 rfl ?_
      refine E_iload_n (v := x3_19_1) dX6_fill_28 rfl ?_
      obtain ⟨hi5, hf⟩ := gd_some hf
      refine E_iald (n := 6) dX6_fill_29 hr1 (by decide) (inb_in hi5) ?_
      refine E_istore (ls' := [some (.ref 59), some (.ref o0), some (.ref r1), some (.int x3_19_1), some (.int (w_19_1.1 r1 x3_19_1.toNatClampNeg))]) dX6_fill_30 rfl rfl rfl ?_
      refine E_aload_n (v := 59) dX6_fill_32 rfl ?_
      refine E_getR fg_RX6_11 dX6_fill_33 sC_59 rfl rC_59_1 (Nat.succ_ne_zero _) ?_
      refine E_iload_n (v := x3_19_1) dX6_fill_36 rfl ?_
      refine E_iconst 3 dX6_fill_37 ic_3 ?_
      refine E_imul dX6_fill_38 ?_
      refine E_iload (v := (w_19_1.1 r1 x3_19_1.toNatClampNeg)) dX6_fill_39 rfl ?_
      obtain ⟨hi6, hf⟩ := gd_some hf
      obtain ⟨w7, ew7, hf⟩ := lw_some hf
      try dsimp only at hf
      refine E_iast (n := 18) dX6_fill_41 sC_60 (by decide) (inb_in hi6) ?_
      rw [← ew7]
      refine E_aload_n (v := 59) dX6_fill_42 rfl ?_
      refine E_getR fg_RX6_11 dX6_fill_43 sC_59 rfl rC_59_1 (Nat.succ_ne_zero _) ?_
      refine E_iload_n (v := x3_19_1) dX6_fill_46 rfl ?_
      refine E_iconst 3 dX6_fill_47 ic_3 ?_
      refine E_imul dX6_fill_48 ?_
      refine E_iconst 1 dX6_fill_49 ic_1 ?_
      refine E_iadd dX6_fill_50 ?_
      refine E_aload_n (v := 59) dX6_fill_51 rfl ?_
      refine E_getR fg_RX6_19 dX6_fill_52 sC_59 rfl rC_59_0 (Nat.succ_ne_zero _) ?_
      refine E_getR fg_RX6_36 dX6_fill_55 sC_46 rfl rC_46_1 (Nat.succ_ne_zero _) ?_
      refine E_iload (v := (w_19_1.1 r1 x3_19_1.toNatClampNeg)) dX6_fill_58 rfl ?_
      obtain ⟨hi8, hf⟩ := gd_some hf
      refine E_iald (n := 6) dX6_fill_60 sC_48 (by decide) (inb_in hi8) ?_
      obtain ⟨hi9, hf⟩ := gd_some hf
      obtain ⟨w10, ew10, hf⟩ := lw_some hf
      try dsimp only at hf
      refine E_iast (n := 18) dX6_fill_61 sC_60 (by decide) (inb_in hi9) ?_
      rw [← ew10]
      refine E_aload_n (v := 59) dX6_fill_62 rfl ?_
      refine E_getR fg_RX6_11 dX6_fill_63 sC_59 rfl rC_59_1 (Nat.succ_ne_zero _) ?_
      refine E_iload_n (v := x3_19_1) dX6_fill_66 rfl ?_
      refine E_iconst 3 dX6_fill_67 ic_3 ?_
      refine E_imul dX6_fill_68 ?_
      refine E_iconst 2 dX6_fill_69 ic_2 ?_
      refine E_iadd dX6_fill_70 ?_
      refine E_aload_n (v := o0) dX6_fill_71 rfl ?_
      refine E_iload (v := (w_19_1.1 r1 x3_19_1.toNatClampNeg)) dX6_fill_72 rfl ?_
      refine E_aload_n (v := 59) dX6_fill_74 rfl ?_
      refine E_getR fg_RX6_19 dX6_fill_75 sC_59 rfl rC_59_0 (Nat.succ_ne_zero _) ?_
      refine E_getR fg_RX6_36 dX6_fill_78 sC_46 rfl rC_46_1 (Nat.succ_ne_zero _) ?_
      refine E_iload (v := (w_19_1.1 r1 x3_19_1.toNatClampNeg)) dX6_fill_81 rfl ?_
      refine E_iald (n := 6) dX6_fill_83 sC_48 (by decide) (inb_in hi8) ?_
      refine E_aload_n (v := 59) dX6_fill_84 rfl ?_
      refine E_getR fg_RX6_19 dX6_fill_85 sC_59 rfl rC_59_0 (Nat.succ_ne_zero _) ?_
      refine E_getI fg_RX6_39 dX6_fill_88 sC_46 rfl ?_
      obtain ⟨r12, hc11, hf⟩ := bd_some hf
      try dsimp only at hf
      refine E_callVi (rest := [.int ((x3_19_1 * 3) + 2), .ref 60]) (ci := 4) cv_RX6_42 dX6_fill_91 (MX4_valueOf ho0 hc11) rfl (J_s0 ho0) rfl (by decide) rfl rfl (fun _ => Nat.le_of_ble_eq_true rfl) ?_
      obtain ⟨hi13, hf⟩ := gd_some hf
      obtain ⟨w14, ew14, hf⟩ := lw_some hf
      try dsimp only at hf
      refine E_iast (n := 18) dX6_fill_94 sC_60 (by decide) (inb_in hi13) ?_
      rw [← ew14]
      refine E_iinc (ls' := [some (.ref 59), some (.ref o0), some (.ref r1), some (.int (x3_19_1 + 1)), some (.int (w_19_1.1 r1 x3_19_1.toNatClampNeg))]) 1 dX6_fill_95 rfl ic_1 rfl rfl rfl ?_
      refine E_goto 19 dX6_fill_98 (by decide) ?_
      obtain rfl := Option.some.inj hf
      refine E.fewer (ls' := [some (.ref 59), some (.ref o0), some (.ref r1), some (.int (x3_19_1 + 1)), none]) ⟨Or.inr rfl, ⟨Or.inr rfl, ⟨Or.inr rfl, ⟨Or.inr rfl, ⟨Or.inl rfl, trivial⟩⟩⟩⟩⟩ ?_
      exact k9
  · skip
    obtain ⟨w16, hq9⟩ : ∃ a, a = q := ⟨_, rfl⟩
    subst hq9
    try dsimp only at hf
    show E PC RX6 cX6_fill 5 4 101 [none, none, none, none, none] [] w16 Q
    obtain rfl := Option.some.inj hf
    exact E.done (by rw [eQ]; exact ⟨rfl, Or.inr ⟨rfl, rfl, dX6_fill_101, rfl⟩⟩)
set_option maxRecDepth 10000 in
set_option maxHeartbeats 2000000 in
theorem MX11_prove {N : Nat} {w : AW} {rZ : Int32} {wZ : AW} (hf : fX11_prove N w = some (rZ, wZ)) : CallOK PC yX11_prove cX11_prove 1 (some .int) 14 [.ref 0] w (some (.int rZ)) wZ := by
  refine CallOK.of (ls := [some (.ref 0)]) (by decide) (by simp) rfl rfl ?_
  obtain ⟨Q, eQ⟩ : ∃ Q, Q = Qret cX11_prove (some .int) (some (.int rZ)) wZ := ⟨_, rfl⟩
  rw [← eQ]
  unfold fX11_prove at hf
  refine E_aload_n (v := 0) dX11_prove_0 rfl ?_
  refine E_getR fg_RX11_43 dX11_prove_1 sC_0 rfl rC_0_6 (Nat.succ_ne_zero _) ?_
  refine E_aload_n (v := 0) dX11_prove_4 rfl ?_
  refine E_getR fg_RX11_10 dX11_prove_5 sC_0 rfl rC_0_0 (Nat.succ_ne_zero _) ?_
  refine E_iconst 0 dX11_prove_8 ic_0 ?_
  obtain ⟨w2, hc1, hf⟩ := bd_some hf
  try dsimp only at hf
  refine E_callVv (rest := []) (ci := 3) cv_RX11_208 dX11_prove_9 (MX3_measure B_is1 hc1) rfl sC_46 rfl (by decide) rfl rfl (fun _ => Nat.le_of_ble_eq_true rfl) ?_
  refine E_aload_n (v := 0) dX11_prove_12 rfl ?_
  refine E_getR fg_RX11_52 dX11_prove_13 sC_0 rfl rC_0_7 (Nat.succ_ne_zero _) ?_
  refine E_aload_n (v := 0) dX11_prove_16 rfl ?_
  refine E_getR fg_RX11_10 dX11_prove_17 sC_0 rfl rC_0_0 (Nat.succ_ne_zero _) ?_
  refine E_getR fg_RX11_130 dX11_prove_20 sC_1 rfl rC_1_0 (Nat.succ_ne_zero _) ?_
  refine E_bipush (-9) dX11_prove_23 bp_m9 ?_
  obtain ⟨r4, w5, hc3, hf⟩ := bd2_some hf
  try dsimp only at hf
  refine E_callVi (rest := []) (ci := 5) cv_RX11_212 dX11_prove_25 (MX5_mostWorth J_is2 hc3) rfl sC_49 rfl (by decide) rfl rfl (fun _ => Nat.le_of_ble_eq_true rfl) ?_
  refine E_pop_i dX11_prove_28 ?_
  refine E_aload_n (v := 0) dX11_prove_29 rfl ?_
  refine E_getR fg_RX11_75 dX11_prove_30 sC_0 rfl rC_0_10 (Nat.succ_ne_zero _) ?_
  refine E_aload_n (v := 0) dX11_prove_33 rfl ?_
  refine E_getR fg_RX11_10 dX11_prove_34 sC_0 rfl rC_0_0 (Nat.succ_ne_zero _) ?_
  refine E_getR fg_RX11_130 dX11_prove_37 sC_1 rfl rC_1_0 (Nat.succ_ne_zero _) ?_
  refine E_aload_n (v := 0) dX11_prove_40 rfl ?_
  refine E_getR fg_RX11_52 dX11_prove_41 sC_0 rfl rC_0_7 (Nat.succ_ne_zero _) ?_
  refine E_getR fg_RX11_216 dX11_prove_44 sC_49 rfl rC_49_2 (Nat.succ_ne_zero _) ?_
  obtain ⟨w8, hc7, hf⟩ := bd_some hf
  try dsimp only at hf
  refine E_callVv (rest := []) (ci := 6) cv_RX11_287 dX11_prove_47 (MX6_fill J_is2 sC_51 hc7) rfl sC_59 rfl (by decide) rfl rfl (fun _ => Nat.le_of_ble_eq_true rfl) ?_
  refine E_aload_n (v := 0) dX11_prove_50 rfl ?_
  refine E_getR fg_RX11_75 dX11_prove_51 sC_0 rfl rC_0_10 (Nat.succ_ne_zero _) ?_
  refine E_getI fg_RX11_126 dX11_prove_54 sC_59 rfl ?_
  obtain ⟨rfl, rfl⟩ := ret2 hf
  exact E.done (by rw [eQ]; exact ⟨rfl, Or.inl ⟨_, _, rfl, rfl, dX11_prove_57, rfl, rfl⟩⟩)
set_option maxRecDepth 10000 in
set_option maxHeartbeats 2000000 in
theorem MX7_narrowed {a0 : Int32} {a1 : Int32} {w : AW} {rZ : Int32} (hf : fX7_narrowed a0 a1 w = some rZ) : CallOK PC yX7_narrowed cX7_narrowed 2 (some .int) 1 [.int a0, .int a1] w (some (.int rZ)) w := by
  refine CallOK.of (ls := [some (.int a0), some (.int a1)]) (by decide) (by simp) rfl rfl ?_
  obtain ⟨Q, eQ⟩ : ∃ Q, Q = Qret cX7_narrowed (some .int) (some (.int rZ)) w := ⟨_, rfl⟩
  rw [← eQ]
  unfold fX7_narrowed at hf
  refine E_iload_n (v := a1) dX7_narrowed_0 rfl ?_
  refine E_if_ne 7 dX7_narrowed_1 (by decide) (fun hc1 => ?_) (fun hc1 => ?_)
  · rw [if_pos hc1] at hf
    refine E_iload_n (v := a0) dX7_narrowed_4 rfl ?_
    refine E_i2b dX7_narrowed_5 ?_
    obtain rfl := Option.some.inj hf
    exact E.done (by rw [eQ]; exact ⟨rfl, Or.inl ⟨_, _, rfl, rfl, dX7_narrowed_6, rfl, rfl⟩⟩)
  · rw [if_neg hc1] at hf
    refine E_iload_n (v := a1) dX7_narrowed_7 rfl ?_
    refine E_iconst 1 dX7_narrowed_8 ic_1 ?_
    refine E_icmp_ne 17 dX7_narrowed_9 (by decide) (fun hc2 => ?_) (fun hc2 => ?_)
    · rw [if_pos hc2] at hf
      refine E_iload_n (v := a0) dX7_narrowed_12 rfl ?_
      refine E_i2s dX7_narrowed_13 ?_
      refine E_goto 18 dX7_narrowed_14 (by decide) ?_
      obtain rfl := Option.some.inj hf
      exact E.done (by rw [eQ]; exact ⟨rfl, Or.inl ⟨_, _, rfl, rfl, dX7_narrowed_18, rfl, rfl⟩⟩)
    · rw [if_neg hc2] at hf
      refine E_iload_n (v := a0) dX7_narrowed_17 rfl ?_
      obtain rfl := Option.some.inj hf
      exact E.done (by rw [eQ]; exact ⟨rfl, Or.inl ⟨_, _, rfl, rfl, dX7_narrowed_18, rfl, rfl⟩⟩)
set_option maxRecDepth 10000 in
set_option maxHeartbeats 2000000 in
theorem MX11_put {a0 : Int32} {a1 : Int32} {a2 : Int32} {w : AW} {rZ : Int32} {wZ : AW} (hf : fX11_put a0 a1 a2 w = some (rZ, wZ)) : CallOK PC yX11_put cX11_put 4 (some .int) 3 [.ref 0, .int a0, .int a1, .int a2] w (some (.int rZ)) wZ := by
  refine CallOK.of (ls := [some (.ref 0), some (.int a0), some (.int a1), some (.int a2)]) (by decide) (by simp) rfl rfl ?_
  obtain ⟨Q, eQ⟩ : ∃ Q, Q = Qret cX11_put (some .int) (some (.int rZ)) wZ := ⟨_, rfl⟩
  rw [← eQ]
  unfold fX11_put at hf
  refine E_iload_n (v := a0) dX11_put_0 rfl ?_
  obtain ⟨r2, hc1, hf⟩ := bd_some hf
  try dsimp only at hf
  refine E_callSi (rest := []) cs_RX11_299 dX11_put_1 (MX7_isPlace hc1) rfl rfl rfl (fun _ => Nat.le_of_ble_eq_true rfl) ?_
  refine E_if_ne 9 dX11_put_4 (by decide) (fun hc3 => ?_) (fun hc3 => ?_)
  · rw [if_pos hc3] at hf
    refine E_iconst (-1) dX11_put_7 ic_m1 ?_
    obtain ⟨rfl, rfl⟩ := ret2 hf
    exact E.done (by rw [eQ]; exact ⟨rfl, Or.inl ⟨_, _, rfl, rfl, dX11_put_8, rfl, rfl⟩⟩)
  · rw [if_neg hc3] at hf
    refine E_aload_n (v := 0) dX11_put_9 rfl ?_
    refine E_getR fg_RX11_89 dX11_put_10 sC_0 rfl rC_0_12 (Nat.succ_ne_zero _) ?_
    refine E_getR fg_RX11_306 dX11_put_13 sC_67 rfl rC_67_0 (Nat.succ_ne_zero _) ?_
    refine E_iload_n (v := a0) dX11_put_16 rfl ?_
    obtain ⟨hi4, hf⟩ := gd_some hf
    refine E_iald (n := 4) dX11_put_17 sC_68 (by decide) (inb_in hi4) ?_
    refine E_iconst (-1) dX11_put_18 ic_m1 ?_
    refine E_icmp_ne 25 dX11_put_19 (by decide) (fun hc5 => ?_) (fun hc5 => ?_)
    · rw [if_pos hc5] at hf
      refine E_bipush (-11) dX11_put_22 bp_m11 ?_
      obtain ⟨rfl, rfl⟩ := ret2 hf
      exact E.done (by rw [eQ]; exact ⟨rfl, Or.inl ⟨_, _, rfl, rfl, dX11_put_24, rfl, rfl⟩⟩)
    · rw [if_neg hc5] at hf
      refine E_iload_n (v := a1) dX11_put_25 rfl ?_
      refine E_iconst 0 dX11_put_26 ic_0 ?_
      refine E_aload_n (v := 0) dX11_put_27 rfl ?_
      refine E_getR fg_RX11_89 dX11_put_28 sC_0 rfl rC_0_12 (Nat.succ_ne_zero _) ?_
      refine E_getR fg_RX11_309 dX11_put_31 sC_67 rfl rC_67_1 (Nat.succ_ne_zero _) ?_
      refine E_iload_n (v := a0) dX11_put_34 rfl ?_
      refine E_iald (n := 4) dX11_put_35 sC_69 (by decide) (inb_in hi4) ?_
      refine E_iconst 1 dX11_put_36 ic_1 ?_
      refine E_isub dX11_put_37 ?_
      obtain ⟨r7, hc6, hf⟩ := bd_some hf
      try dsimp only at hf
      refine E_callSi (rest := []) cs_RX11_100 dX11_put_38 (MX11_within hc6) rfl rfl rfl (fun _ => Nat.le_of_ble_eq_true rfl) ?_
      refine E_if_ne 47 dX11_put_41 (by decide) (fun hc8 => ?_) (fun hc8 => ?_)
      · rw [if_pos hc8] at hf
        refine E_bipush (-12) dX11_put_44 bp_m12 ?_
        obtain ⟨rfl, rfl⟩ := ret2 hf
        exact E.done (by rw [eQ]; exact ⟨rfl, Or.inl ⟨_, _, rfl, rfl, dX11_put_46, rfl, rfl⟩⟩)
      · rw [if_neg hc8] at hf
        refine E_aload_n (v := 0) dX11_put_47 rfl ?_
        refine E_getR fg_RX11_89 dX11_put_48 sC_0 rfl rC_0_12 (Nat.succ_ne_zero _) ?_
        refine E_getR fg_RX11_312 dX11_put_51 sC_67 rfl rC_67_2 (Nat.succ_ne_zero _) ?_
        refine E_iload_n (v := a0) dX11_put_54 rfl ?_
        refine E_bipush 40 dX11_put_55 bp_40 ?_
        refine E_imul dX11_put_57 ?_
        refine E_iload_n (v := a1) dX11_put_58 rfl ?_
        refine E_iadd dX11_put_59 ?_
        refine E_iload_n (v := a2) dX11_put_60 rfl ?_
        refine E_aload_n (v := 0) dX11_put_61 rfl ?_
        refine E_getR fg_RX11_89 dX11_put_62 sC_0 rfl rC_0_12 (Nat.succ_ne_zero _) ?_
        refine E_getR fg_RX11_306 dX11_put_65 sC_67 rfl rC_67_0 (Nat.succ_ne_zero _) ?_
        refine E_iload_n (v := a0) dX11_put_68 rfl ?_
        refine E_iald (n := 4) dX11_put_69 sC_68 (by decide) (inb_in hi4) ?_
        obtain ⟨r10, hc9, hf⟩ := bd_some hf
        try dsimp only at hf
        refine E_callSi (rest := [.int ((a0 * 40) + a1), .ref 70]) cs_RX11_315 dX11_put_70 (MX7_narrowed hc9) rfl rfl rfl (fun _ => Nat.le_of_ble_eq_true rfl) ?_
        obtain ⟨hi11, hf⟩ := gd_some hf
        obtain ⟨w12, ew12, hf⟩ := lw_some hf
        try dsimp only at hf
        refine E_iast (n := 160) dX11_put_73 sC_70 (by decide) (inb_in hi11) ?_
        rw [← ew12]
        refine E_iconst 1 dX11_put_74 ic_1 ?_
        obtain ⟨rfl, rfl⟩ := ret2 hf
        exact E.done (by rw [eQ]; exact ⟨rfl, Or.inl ⟨_, _, rfl, rfl, dX11_put_75, rfl, rfl⟩⟩)
set_option maxRecDepth 10000 in
set_option maxHeartbeats 2000000 in
theorem MX11_row {a0 : Int32} {a1 : Int32} {w : AW} {rZ : Int32} (hf : fX11_row a0 a1 w = some rZ) : CallOK PC yX11_row cX11_row 3 (some .int) 3 [.ref 0, .int a0, .int a1] w (some (.int rZ)) w := by
  refine CallOK.of (ls := [some (.ref 0), some (.int a0), some (.int a1)]) (by decide) (by simp) rfl rfl ?_
  obtain ⟨Q, eQ⟩ : ∃ Q, Q = Qret cX11_row (some .int) (some (.int rZ)) w := ⟨_, rfl⟩
  rw [← eQ]
  unfold fX11_row at hf
  refine E_aload_n (v := 0) dX11_row_0 rfl ?_
  refine E_getR fg_RX11_75 dX11_row_1 sC_0 rfl rC_0_10 (Nat.succ_ne_zero _) ?_
  refine E_iload_n (v := a0) dX11_row_4 rfl ?_
  refine E_iload_n (v := a1) dX11_row_5 rfl ?_
  obtain ⟨r2, hc1, hf⟩ := bd_some hf
  try dsimp only at hf
  refine E_callVi (rest := []) (ci := 6) cv_RX11_290 dX11_row_6 (MX6_has hc1) rfl sC_59 rfl (by decide) rfl rfl (fun _ => Nat.le_of_ble_eq_true rfl) ?_
  refine E_if_ne 15 dX11_row_9 (by decide) (fun hc3 => ?_) (fun hc3 => ?_)
  · rw [if_pos hc3] at hf
    refine E_ldc (-2147483648) dX11_row_12 wk_RX11_207 ?_
    obtain rfl := Option.some.inj hf
    exact E.done (by rw [eQ]; exact ⟨rfl, Or.inl ⟨_, _, rfl, rfl, dX11_row_14, rfl, rfl⟩⟩)
  · rw [if_neg hc3] at hf
    refine E_aload_n (v := 0) dX11_row_15 rfl ?_
    refine E_getR fg_RX11_75 dX11_row_16 sC_0 rfl rC_0_10 (Nat.succ_ne_zero _) ?_
    refine E_getR fg_RX11_293 dX11_row_19 sC_59 rfl rC_59_1 (Nat.succ_ne_zero _) ?_
    refine E_iload_n (v := a0) dX11_row_22 rfl ?_
    refine E_iconst 3 dX11_row_23 ic_3 ?_
    refine E_imul dX11_row_24 ?_
    refine E_iload_n (v := a1) dX11_row_25 rfl ?_
    refine E_iadd dX11_row_26 ?_
    obtain ⟨hi4, hf⟩ := gd_some hf
    refine E_iald (n := 18) dX11_row_27 sC_60 (by decide) (inb_in hi4) ?_
    obtain rfl := Option.some.inj hf
    exact E.done (by rw [eQ]; exact ⟨rfl, Or.inl ⟨_, _, rfl, rfl, dX11_row_28, rfl, rfl⟩⟩)
set_option maxRecDepth 10000 in
set_option maxHeartbeats 2000000 in
theorem MX2_walk_b {N n9 : Nat} {rec : Nat → Int32 → Int32 → Int32 → Int32 → AW → Option (AW)} (hrec : ∀ (o0 : Nat) (a1 : Int32) (a2 : Int32) (a3 : Int32) (a4 : Int32) (w : AW) (wZ : AW) (ho0 : isJ o0) , rec o0 a1 a2 a3 a4 w = some wZ → CallOK PC yX2_walk cX2_walk 7 none (4 + n9 - 1) [.ref 52, .ref o0, .int a1, .int a2, .int a3, .int a4] w none wZ) {o0 : Nat} {a1 : Int32} {a2 : Int32} {a3 : Int32} {a4 : Int32} {w : AW} {wZ : AW} (ho0 : isJ o0) (hf : fX2_walk_b N rec o0 a1 a2 a3 a4 w = some wZ) : CallOK PC yX2_walk cX2_walk 7 none (4 + n9) [.ref 52, .ref o0, .int a1, .int a2, .int a3, .int a4] w none wZ := by
  refine CallOK.of (ls := [some (.ref 52), some (.ref o0), some (.int a1), some (.int a2), some (.int a3), some (.int a4), none]) (by decide) (by simp) rfl rfl ?_
  obtain ⟨Q, eQ⟩ : ∃ Q, Q = Qret cX2_walk none none wZ := ⟨_, rfl⟩
  rw [← eQ]
  unfold fX2_walk_b at hf
  refine E_iload (v := a4) dX2_walk_0 rfl ?_
  refine E_iconst 2 dX2_walk_2 ic_2 ?_
  refine E_aload_n (v := o0) dX2_walk_3 rfl ?_
  refine E_getI fg_RX2_46 dX2_walk_4 (J_s0 ho0) rfl ?_
  refine E_iload_n (v := a1) dX2_walk_7 rfl ?_
  refine E_isub dX2_walk_8 ?_
  refine E_imul dX2_walk_9 ?_
  refine E_ishl dX2_walk_10 ?_
  refine E_aload_n (v := 52) dX2_walk_11 rfl ?_
  refine E_getI fg_RX2_35 dX2_walk_12 sC_52 rfl ?_
  refine E_icmp_gt 19 dX2_walk_15 (by decide) (fun hc1 => ?_) (fun hc1 => ?_)
  · rw [if_pos hc1] at hf
    refine E_iload_n (v := a1) dX2_walk_19 rfl ?_
    refine E_aload_n (v := o0) dX2_walk_20 rfl ?_
    refine E_getI fg_RX2_46 dX2_walk_21 (J_s0 ho0) rfl ?_
    refine E_icmp_lt 49 dX2_walk_24 (by decide) (fun hc2 => ?_) (fun hc2 => ?_)
    · rw [if_pos hc2] at hf
      refine E_iconst 0 dX2_walk_49 ic_0 ?_
      refine E_istore (ls' := [some (.ref 52), some (.ref o0), some (.int a1), some (.int a2), some (.int a3), some (.int a4), some (.int 0)]) dX2_walk_50 rfl rfl rfl ?_
      obtain ⟨q, hw14, hf⟩ := bd_some hf
      try dsimp only at hf
      refine E.fewer (ls' := [some (.ref 52), some (.ref o0), some (.int a1), some (.int a2), some (.int a3), none, some (.int 0)]) ⟨Or.inr rfl, ⟨Or.inr rfl, ⟨Or.inr rfl, ⟨Or.inr rfl, ⟨Or.inr rfl, ⟨Or.inl rfl, ⟨Or.inr rfl, trivial⟩⟩⟩⟩⟩⟩⟩ ?_
      show (fun (s : Int32 × AW) => E PC RX2 cX2_walk 7 (4 + n9) 52 [some (.ref 52), some (.ref o0), some (.int a1), some (.int a2), some (.int a3), none, some (.int s.1)] [] s.2 Q) (0, w)
      refine wh_E (K := (fun (s : Int32 × AW) => E PC RX2 cX2_walk 7 (4 + n9) 52 [some (.ref 52), some (.ref o0), some (.int a1), some (.int a2), some (.int a3), none, some (.int s.1)] [] s.2 Q)) (X := (fun (s : AW) => E PC RX2 cX2_walk 7 (4 + n9) 119 [none, none, none, none, none, none, none] [] s Q)) ?_ hw14 ?_
      · intro s9 z9 hf k9
        obtain ⟨x6_52_1, w_52_1⟩ := s9
        dsimp only [lbX2_walk_52_1] at hf
        show E PC RX2 cX2_walk 7 (4 + n9) 52 [some (.ref 52), some (.ref o0), some (.int a1), some (.int a2), some (.int a3), none, some (.int x6_52_1)] [] w_52_1 Q
        refine E_iload (v := x6_52_1) dX2_walk_52 rfl ?_
        refine E_aload_n (v := o0) dX2_walk_54 rfl ?_
        refine E_getI fg_RX2_46 dX2_walk_55 (J_s0 ho0) rfl ?_
        refine E_icmp_ge 119 dX2_walk_58 (by decide) (fun hc3 => ?_) (fun hc3 => ?_)
        · rw [if_pos hc3] at hf
          obtain rfl := Option.some.inj hf
          refine E.fewer (ls' := [none, none, none, none, none, none, none]) ⟨Or.inl rfl, ⟨Or.inl rfl, ⟨Or.inl rfl, ⟨Or.inl rfl, ⟨Or.inl rfl, ⟨Or.inl rfl, ⟨Or.inl rfl, trivial⟩⟩⟩⟩⟩⟩⟩ ?_
          exact k9
        · rw [if_neg hc3] at hf
          refine E_iload (v := a3) dX2_walk_61 rfl ?_
          refine E_iload (v := x6_52_1) dX2_walk_63 rfl ?_
          refine E_ishr dX2_walk_65 ?_
          refine E_iconst 1 dX2_walk_66 ic_1 ?_
          refine E_iand dX2_walk_67 ?_
          refine E_if_eq 74 dX2_walk_68 (by decide) (fun hc4 => ?_) (fun hc4 => ?_)
          · rw [if_pos hc4] at hf
            refine E_aload_n (v := 52) dX2_walk_74 rfl ?_
            refine E_getR fg_RX2_21 dX2_walk_75 sC_52 rfl rC_52_4 (Nat.succ_ne_zero _) ?_
            refine E_iload_n (v := a1) dX2_walk_78 rfl ?_
            refine E_iload (v := x6_52_1) dX2_walk_79 rfl ?_
            obtain ⟨hi5, hf⟩ := gd_some hf
            obtain ⟨w6, ew6, hf⟩ := lw_some hf
            try dsimp only at hf
            refine E_iast (n := 6) dX2_walk_81 sC_56 (by decide) (inb_in hi5) ?_
            rw [← ew6]
            refine E_aload_n (v := 52) dX2_walk_82 rfl ?_
            refine E_aload_n (v := o0) dX2_walk_83 rfl ?_
            refine E_iload_n (v := a1) dX2_walk_84 rfl ?_
            refine E_iconst 1 dX2_walk_85 ic_1 ?_
            refine E_iadd dX2_walk_86 ?_
            refine E_aload_n (v := o0) dX2_walk_87 rfl ?_
            refine E_getR fg_RX2_51 dX2_walk_88 (J_s0 ho0) rfl (J_r0_3 ho0) (Nat.succ_ne_zero _) ?_
            refine E_iload (v := x6_52_1) dX2_walk_91 rfl ?_
            obtain ⟨hi7, hf⟩ := gd_some hf
            refine E_iald (n := 6) dX2_walk_93 (J_s3 ho0) (by decide) (inb_in hi7) ?_
            refine E_iload (v := a3) dX2_walk_94 rfl ?_
            refine E_iconst 1 dX2_walk_96 ic_1 ?_
            refine E_iload (v := x6_52_1) dX2_walk_97 rfl ?_
            refine E_ishl dX2_walk_99 ?_
            refine E_ior dX2_walk_100 ?_
            refine E_aload_n (v := 52) dX2_walk_101 rfl ?_
            refine E_aload_n (v := o0) dX2_walk_102 rfl ?_
            refine E_iload_n (v := a1) dX2_walk_103 rfl ?_
            refine E_iload_n (v := a2) dX2_walk_104 rfl ?_
            refine E_iload (v := x6_52_1) dX2_walk_105 rfl ?_
            obtain ⟨r9, w10, hc8, hf⟩ := bd2_some hf
            try dsimp only at hf
            refine E_callVi (rest := [.int (a3 ||| (1 <<< (x6_52_1 &&& 31))), .int (w6.1 (o0 + 3) x6_52_1.toNatClampNeg), .int (a1 + 1), .ref o0, .ref 52]) (ci := 2) cv_RX2_54 dX2_walk_107 (MX2_spread ho0 hc8) (Nat.ble_eq_true_of_le (by omega)) sC_52 rfl (by decide) rfl rfl (fun _ => Nat.le_of_ble_eq_true rfl) ?_
            obtain ⟨w13, hc12, hf⟩ := bd_some hf
            try dsimp only at hf
            refine E_callVv (rest := []) (ci := 2) cv_RX2_58 dX2_walk_110 (hrec _ _ _ _ _ _ _ ho0 hc12) (Nat.ble_eq_true_of_le (by omega)) sC_52 rfl (by decide) rfl rfl (fun _ => Nat.le_of_ble_eq_true rfl) ?_
            refine E_iinc (ls' := [some (.ref 52), some (.ref o0), some (.int a1), some (.int a2), some (.int a3), none, some (.int (x6_52_1 + 1))]) 1 dX2_walk_113 rfl ic_1 rfl rfl rfl ?_
            refine E_goto 52 dX2_walk_116 (by decide) ?_
            obtain rfl := Option.some.inj hf
            exact k9
          · rw [if_neg hc4] at hf
            refine E_goto 113 dX2_walk_71 (by decide) ?_
            refine E_iinc (ls' := [some (.ref 52), some (.ref o0), some (.int a1), some (.int a2), some (.int a3), none, some (.int (x6_52_1 + 1))]) 1 dX2_walk_113 rfl ic_1 rfl rfl rfl ?_
            refine E_goto 52 dX2_walk_116 (by decide) ?_
            obtain rfl := Option.some.inj hf
            exact k9
      · skip
        obtain ⟨w15, hq9⟩ : ∃ a, a = q := ⟨_, rfl⟩
        subst hq9
        try dsimp only at hf
        show E PC RX2 cX2_walk 7 (4 + n9) 119 [none, none, none, none, none, none, none] [] w15 Q
        obtain rfl := Option.some.inj hf
        exact E.done (by rw [eQ]; exact ⟨rfl, Or.inr ⟨rfl, rfl, dX2_walk_119, rfl⟩⟩)
    · rw [if_neg hc2] at hf
      refine E_aload_n (v := 52) dX2_walk_27 rfl ?_
      refine E_iload (v := a4) dX2_walk_28 rfl ?_
      obtain ⟨w16, ew16, hf⟩ := lw_some hf
      try dsimp only at hf
      refine E_putI fp_RX2_35 dX2_walk_30 sC_52 rfl rfl rfl ?_
      rw [← ew16]
      refine E_aload_n (v := 52) dX2_walk_33 rfl ?_
      refine E_getR fg_RX2_21 dX2_walk_34 sC_52 rfl rC_52_4 (Nat.succ_ne_zero _) ?_
      refine E_iconst 0 dX2_walk_37 ic_0 ?_
      refine E_aload_n (v := 52) dX2_walk_38 rfl ?_
      refine E_getR fg_RX2_24 dX2_walk_39 sC_52 rfl rC_52_5 (Nat.succ_ne_zero _) ?_
      refine E_iconst 0 dX2_walk_42 ic_0 ?_
      refine E_bipush 6 dX2_walk_43 bp_6 ?_
      obtain ⟨w17, ew17, hf⟩ := lw_some hf
      try dsimp only at hf
      refine E_copyI (n0 := 6) (n1 := 6) wl_RX2_62 wna_copy wst_copy win_sys dX2_walk_45 (by omega) rfl sC_56 (by decide) sC_57 (by decide) (by decide) (by decide) (by decide) (by decide) (by decide) ?_
      rw [← ew17]
      obtain rfl := Option.some.inj hf
      exact E.done (by rw [eQ]; exact ⟨rfl, Or.inr ⟨rfl, rfl, dX2_walk_48, rfl⟩⟩)
  · rw [if_neg hc1] at hf
    obtain rfl := Option.some.inj hf
    exact E.done (by rw [eQ]; exact ⟨rfl, Or.inr ⟨rfl, rfl, dX2_walk_18, rfl⟩⟩)
theorem MX2_walk {N : Nat} : ∀ (n : Nat) (o0 : Nat) (a1 : Int32) (a2 : Int32) (a3 : Int32) (a4 : Int32) (w : AW) (wZ : AW) (ho0 : isJ o0) , fX2_walk N n o0 a1 a2 a3 a4 w = some wZ → CallOK PC yX2_walk cX2_walk 7 none (4 + n) [.ref 52, .ref o0, .int a1, .int a2, .int a3, .int a4] w none wZ := by
  intro n
  induction n with
  | zero => intro o0 a1 a2 a3 a4 w wZ ho0 hf; simp [fX2_walk] at hf
  | succ n ih => intro o0 a1 a2 a3 a4 w wZ ho0 hf; exact MX2_walk_b (n9 := n + 1) (fun o0 a1 a2 a3 a4 w z ho0 h => ih o0 a1 a2 a3 a4 w z ho0 h) ho0 (by simpa [fX2_walk] using hf)
set_option maxRecDepth 10000 in
set_option maxHeartbeats 2000000 in
theorem MX2_surest {N : Nat} {o0 : Nat} {w : AW} {rZ : Int32} {wZ : AW} (ho0 : isJ o0) (hf : fX2_surest N o0 w = some (rZ, wZ)) : CallOK PC yX2_surest cX2_surest 2 (some .int) 13 [.ref 52, .ref o0] w (some (.int rZ)) wZ := by
  refine CallOK.of (ls := [some (.ref 52), some (.ref o0)]) (by decide) (by simp) rfl rfl ?_
  obtain ⟨Q, eQ⟩ : ∃ Q, Q = Qret cX2_surest (some .int) (some (.int rZ)) wZ := ⟨_, rfl⟩
  rw [← eQ]
  unfold fX2_surest at hf
  refine E_aload_n (v := 52) dX2_surest_0 rfl ?_
  refine E_iconst 0 dX2_surest_1 ic_0 ?_
  obtain ⟨w2, hc1, hf⟩ := bd_some hf
  try dsimp only at hf
  refine E_callVv (rest := []) (ci := 2) cv_RX2_42 dX2_surest_2 (MX2_begin hc1) rfl sC_52 rfl (by decide) rfl rfl (fun _ => Nat.le_of_ble_eq_true rfl) ?_
  refine E_aload_n (v := 52) dX2_surest_5 rfl ?_
  refine E_iconst (-1) dX2_surest_6 ic_m1 ?_
  obtain ⟨w3, ew3, hf⟩ := lw_some hf
  try dsimp only at hf
  refine E_putI fp_RX2_35 dX2_surest_7 sC_52 rfl rfl rfl ?_
  rw [← ew3]
  refine E_aload_n (v := 52) dX2_surest_10 rfl ?_
  refine E_aload_n (v := o0) dX2_surest_11 rfl ?_
  refine E_iconst 0 dX2_surest_12 ic_0 ?_
  refine E_iconst 0 dX2_surest_13 ic_0 ?_
  refine E_iconst 0 dX2_surest_14 ic_0 ?_
  refine E_iconst 1 dX2_surest_15 ic_1 ?_
  obtain ⟨w5, hc4, hf⟩ := bd_some hf
  try dsimp only at hf
  refine E_callVv (rest := []) (ci := 2) cv_RX2_58 dX2_surest_16 (MX2_walk 8 _ _ _ _ _ _ _ ho0 hc4) rfl sC_52 rfl (by decide) rfl rfl (fun _ => Nat.le_of_ble_eq_true rfl) ?_
  refine E_aload_n (v := 52) dX2_surest_19 rfl ?_
  refine E_getI fg_RX2_35 dX2_surest_20 sC_52 rfl ?_
  obtain ⟨rfl, rfl⟩ := ret2 hf
  exact E.done (by rw [eQ]; exact ⟨rfl, Or.inl ⟨_, _, rfl, rfl, dX2_surest_23, rfl, rfl⟩⟩)
set_option maxRecDepth 10000 in
set_option maxHeartbeats 2000000 in
theorem MX11_safest {N : Nat} {a0 : Int32} {w : AW} {rZ : Int32} {wZ : AW} (hf : fX11_safest N a0 w = some (rZ, wZ)) : CallOK PC yX11_safest cX11_safest 3 (some .int) 14 [.ref 0, .int a0] w (some (.int rZ)) wZ := by
  refine CallOK.of (ls := [some (.ref 0), some (.int a0), none]) (by decide) (by simp) rfl rfl ?_
  obtain ⟨Q, eQ⟩ : ∃ Q, Q = Qret cX11_safest (some .int) (some (.int rZ)) wZ := ⟨_, rfl⟩
  rw [← eQ]
  unfold fX11_safest at hf
  refine E_iload_n (v := a0) dX11_safest_0 rfl ?_
  refine E_iconst 0 dX11_safest_1 ic_0 ?_
  refine E_iconst 2 dX11_safest_2 ic_2 ?_
  obtain ⟨r2, hc1, hf⟩ := bd_some hf
  try dsimp only at hf
  refine E_callSi (rest := []) cs_RX11_100 dX11_safest_3 (MX11_within hc1) rfl rfl rfl (fun _ => Nat.le_of_ble_eq_true rfl) ?_
  refine E_if_ne 11 dX11_safest_6 (by decide) (fun hc3 => ?_) (fun hc3 => ?_)
  · rw [if_pos hc3] at hf
    refine E_iconst (-1) dX11_safest_9 ic_m1 ?_
    obtain ⟨rfl, rfl⟩ := ret2 hf
    exact E.done (by rw [eQ]; exact ⟨rfl, Or.inl ⟨_, _, rfl, rfl, dX11_safest_10, rfl, rfl⟩⟩)
  · rw [if_neg hc3] at hf
    refine E_aload_n (v := 0) dX11_safest_11 rfl ?_
    refine E_getR fg_RX11_43 dX11_safest_12 sC_0 rfl rC_0_6 (Nat.succ_ne_zero _) ?_
    refine E_aload_n (v := 0) dX11_safest_15 rfl ?_
    refine E_getR fg_RX11_10 dX11_safest_16 sC_0 rfl rC_0_0 (Nat.succ_ne_zero _) ?_
    refine E_iconst 0 dX11_safest_19 ic_0 ?_
    obtain ⟨w5, hc4, hf⟩ := bd_some hf
    try dsimp only at hf
    refine E_callVv (rest := []) (ci := 3) cv_RX11_208 dX11_safest_20 (MX3_measure B_is1 hc4) rfl sC_46 rfl (by decide) rfl rfl (fun _ => Nat.le_of_ble_eq_true rfl) ?_
    refine E_aload_n (v := 0) dX11_safest_23 rfl ?_
    refine E_getR fg_RX11_59 dX11_safest_24 sC_0 rfl rC_0_8 (Nat.succ_ne_zero _) ?_
    refine E_aload_n (v := 0) dX11_safest_27 rfl ?_
    refine E_getR fg_RX11_10 dX11_safest_28 sC_0 rfl rC_0_0 (Nat.succ_ne_zero _) ?_
    refine E_getR fg_RX11_130 dX11_safest_31 sC_1 rfl rC_1_0 (Nat.succ_ne_zero _) ?_
    obtain ⟨r7, w8, hc6, hf⟩ := bd2_some hf
    try dsimp only at hf
    refine E_callVi (rest := []) (ci := 2) cv_RX11_245 dX11_safest_34 (MX2_surest J_is2 hc6) rfl sC_52 rfl (by decide) rfl rfl (fun _ => Nat.le_of_ble_eq_true rfl) ?_
    refine E_istore_n (ls' := [some (.ref 0), some (.int a0), some (.int r7)]) dX11_safest_37 rfl rfl rfl ?_
    refine E_iload_n (v := a0) dX11_safest_38 rfl ?_
    refine E_if_ne 63 dX11_safest_39 (by decide) (fun hc10 => ?_) (fun hc10 => ?_)
    · rw [if_pos hc10] at hf
      refine E_aload_n (v := 0) dX11_safest_42 rfl ?_
      refine E_getR fg_RX11_59 dX11_safest_43 sC_0 rfl rC_0_8 (Nat.succ_ne_zero _) ?_
      refine E_getR fg_RX11_248 dX11_safest_46 sC_52 rfl rC_52_5 (Nat.succ_ne_zero _) ?_
      refine E_aload_n (v := 0) dX11_safest_49 rfl ?_
      refine E_getR fg_RX11_10 dX11_safest_50 sC_0 rfl rC_0_0 (Nat.succ_ne_zero _) ?_
      refine E_getR fg_RX11_130 dX11_safest_53 sC_1 rfl rC_1_0 (Nat.succ_ne_zero _) ?_
      refine E_getI fg_RX11_131 dX11_safest_56 sC_2 rfl ?_
      obtain ⟨r12, hc11, hf⟩ := bd_some hf
      try dsimp only at hf
      refine E_callSi (rest := []) cs_RX11_219 dX11_safest_59 (MX11_digitsOf sC_57 hc11) rfl rfl rfl (fun _ => Nat.le_of_ble_eq_true rfl) ?_
      obtain ⟨rfl, rfl⟩ := ret2 hf
      exact E.done (by rw [eQ]; exact ⟨rfl, Or.inl ⟨_, _, rfl, rfl, dX11_safest_62, rfl, rfl⟩⟩)
    · rw [if_neg hc10] at hf
      refine E_iload_n (v := r7) dX11_safest_63 rfl ?_
      refine E_iconst 2 dX11_safest_64 ic_2 ?_
      refine E_aload_n (v := 0) dX11_safest_65 rfl ?_
      refine E_getR fg_RX11_10 dX11_safest_66 sC_0 rfl rC_0_0 (Nat.succ_ne_zero _) ?_
      refine E_getR fg_RX11_130 dX11_safest_69 sC_1 rfl rC_1_0 (Nat.succ_ne_zero _) ?_
      refine E_getI fg_RX11_131 dX11_safest_72 sC_2 rfl ?_
      refine E_imul dX11_safest_75 ?_
      refine E_iload_n (v := a0) dX11_safest_76 rfl ?_
      refine E_iconst 1 dX11_safest_77 ic_1 ?_
      refine E_isub dX11_safest_78 ?_
      obtain ⟨r14, hc13, hf⟩ := bd_some hf
      try dsimp only at hf
      refine E_callSi (rest := []) cs_RX11_242 dX11_safest_79 (MX11_partOf hc13) rfl rfl rfl (fun _ => Nat.le_of_ble_eq_true rfl) ?_
      obtain ⟨rfl, rfl⟩ := ret2 hf
      exact E.done (by rw [eQ]; exact ⟨rfl, Or.inl ⟨_, _, rfl, rfl, dX11_safest_82, rfl, rfl⟩⟩)
set_option maxRecDepth 10000 in
set_option maxHeartbeats 2000000 in
theorem MX11_seed {a0 : Int32} {w : AW} {rZ : Int32} {wZ : AW} (hf : fX11_seed a0 w = some (rZ, wZ)) : CallOK PC yX11_seed cX11_seed 3 (some .int) 1 [.ref 0, .int a0] w (some (.int rZ)) wZ := by
  refine CallOK.of (ls := [some (.ref 0), some (.int a0), none]) (by decide) (by simp) rfl rfl ?_
  obtain ⟨Q, eQ⟩ : ∃ Q, Q = Qret cX11_seed (some .int) (some (.int rZ)) wZ := ⟨_, rfl⟩
  rw [← eQ]
  unfold fX11_seed at hf
  refine E_aload_n (v := 0) dX11_seed_0 rfl ?_
  refine E_getR fg_RX11_22 dX11_seed_1 sC_0 rfl rC_0_2 (Nat.succ_ne_zero _) ?_
  refine E_getI fg_RX11_278 dX11_seed_4 sC_23 rfl ?_
  refine E_istore_n (ls' := [some (.ref 0), some (.int a0), some (.int (w.1 23 1))]) dX11_seed_7 rfl rfl rfl ?_
  refine E_aload_n (v := 0) dX11_seed_8 rfl ?_
  refine E_getR fg_RX11_22 dX11_seed_9 sC_0 rfl rC_0_2 (Nat.succ_ne_zero _) ?_
  refine E_iload_n (v := a0) dX11_seed_12 rfl ?_
  obtain ⟨w1, ew1, hf⟩ := lw_some hf
  try dsimp only at hf
  refine E_putI fp_RX11_278 dX11_seed_13 sC_23 rfl rfl rfl ?_
  rw [← ew1]
  refine E_iload_n (v := (w.1 23 1)) dX11_seed_16 rfl ?_
  obtain ⟨rfl, rfl⟩ := ret2 hf
  exact E.done (by rw [eQ]; exact ⟨rfl, Or.inl ⟨_, _, rfl, rfl, dX11_seed_17, rfl, rfl⟩⟩)
set_option maxRecDepth 10000 in
set_option maxHeartbeats 2000000 in
theorem MX11_set {a0 : Int32} {a1 : Int32} {w : AW} {rZ : Int32} {wZ : AW} (hf : fX11_set a0 a1 w = some (rZ, wZ)) : CallOK PC yX11_set cX11_set 4 (some .int) 2 [.ref 0, .int a0, .int a1] w (some (.int rZ)) wZ := by
  refine CallOK.of (ls := [some (.ref 0), some (.int a0), some (.int a1), none]) (by decide) (by simp) rfl rfl ?_
  obtain ⟨Q, eQ⟩ : ∃ Q, Q = Qret cX11_set (some .int) (some (.int rZ)) wZ := ⟨_, rfl⟩
  rw [← eQ]
  unfold fX11_set at hf
  refine E_iload_n (v := a0) dX11_set_0 rfl ?_
  refine E_iconst 0 dX11_set_1 ic_0 ?_
  refine E_iconst 3 dX11_set_2 ic_3 ?_
  obtain ⟨r2, hc1, hf⟩ := bd_some hf
  try dsimp only at hf
  refine E_callSi (rest := []) cs_RX11_100 dX11_set_3 (MX11_within hc1) rfl rfl rfl (fun _ => Nat.le_of_ble_eq_true rfl) ?_
  refine E_if_eq 26 dX11_set_6 (by decide) (fun hc3 => ?_) (fun hc3 => ?_)
  · rw [if_pos hc3] at hf
    refine E_iconst (-1) dX11_set_26 ic_m1 ?_
    obtain ⟨rfl, rfl⟩ := ret2 hf
    exact E.done (by rw [eQ]; exact ⟨rfl, Or.inl ⟨_, _, rfl, rfl, dX11_set_27, rfl, rfl⟩⟩)
  · rw [if_neg hc3] at hf
    refine E_iload_n (v := a1) dX11_set_9 rfl ?_
    refine E_getsZ (v := .retAddr 1) (fun _ _ _ _ h => st_least h) wf_RX11_163 dX11_set_10 ?_
    refine E_iload_n (v := a0) dX11_set_13 rfl ?_
    obtain ⟨hi4, hf⟩ := gd_some hf
    refine E_least dX11_set_14 (inb_in hi4) ?_
    refine E_getsZ (v := .retAddr 2) (fun _ _ _ _ h => st_most h) wf_RX11_166 dX11_set_15 ?_
    refine E_iload_n (v := a0) dX11_set_18 rfl ?_
    obtain ⟨hi5, hf⟩ := gd_some hf
    refine E_most dX11_set_19 (inb_in hi5) ?_
    obtain ⟨r7, hc6, hf⟩ := bd_some hf
    try dsimp only at hf
    refine E_callSi (rest := []) cs_RX11_100 dX11_set_20 (MX11_within hc6) rfl rfl rfl (fun _ => Nat.le_of_ble_eq_true rfl) ?_
    refine E_if_ne 28 dX11_set_23 (by decide) (fun hc8 => ?_) (fun hc8 => ?_)
    · rw [if_pos hc8] at hf
      refine E_iconst (-1) dX11_set_26 ic_m1 ?_
      obtain ⟨rfl, rfl⟩ := ret2 hf
      exact E.done (by rw [eQ]; exact ⟨rfl, Or.inl ⟨_, _, rfl, rfl, dX11_set_27, rfl, rfl⟩⟩)
    · rw [if_neg hc8] at hf
      refine E_aload_n (v := 0) dX11_set_28 rfl ?_
      refine E_getR fg_RX11_10 dX11_set_29 sC_0 rfl rC_0_0 (Nat.succ_ne_zero _) ?_
      refine E_getR fg_RX11_169 dX11_set_32 sC_1 rfl rC_1_1 (Nat.succ_ne_zero _) ?_
      refine E_iload_n (v := a0) dX11_set_35 rfl ?_
      obtain ⟨hi9, hf⟩ := gd_some hf
      refine E_iald (n := 4) dX11_set_36 sC_8 (by decide) (inb_in hi9) ?_
      refine E_istore_n (ls' := [some (.ref 0), some (.int a0), some (.int a1), some (.int (w.1 8 a0.toNatClampNeg))]) dX11_set_37 rfl rfl rfl ?_
      refine E_aload_n (v := 0) dX11_set_38 rfl ?_
      refine E_getR fg_RX11_10 dX11_set_39 sC_0 rfl rC_0_0 (Nat.succ_ne_zero _) ?_
      refine E_getR fg_RX11_169 dX11_set_42 sC_1 rfl rC_1_1 (Nat.succ_ne_zero _) ?_
      refine E_iload_n (v := a0) dX11_set_45 rfl ?_
      refine E_iload_n (v := a1) dX11_set_46 rfl ?_
      obtain ⟨w10, ew10, hf⟩ := lw_some hf
      try dsimp only at hf
      refine E_iast (n := 4) dX11_set_47 sC_8 (by decide) (inb_in hi9) ?_
      rw [← ew10]
      refine E_iload_n (v := (w.1 8 a0.toNatClampNeg)) dX11_set_48 rfl ?_
      obtain ⟨rfl, rfl⟩ := ret2 hf
      exact E.done (by rw [eQ]; exact ⟨rfl, Or.inl ⟨_, _, rfl, rfl, dX11_set_49, rfl, rfl⟩⟩)
set_option maxRecDepth 10000 in
set_option maxHeartbeats 2000000 in
theorem MX7_lay {N : Nat} {a0 : Int32} {a1 : Int32} {a2 : Int32} {w : AW} {wZ : AW} (hf : fX7_lay N a0 a1 a2 w = some wZ) : CallOK PC yX7_lay cX7_lay 5 none 1 [.ref 67, .int a0, .int a1, .int a2] w none wZ := by
  refine CallOK.of (ls := [some (.ref 67), some (.int a0), some (.int a1), some (.int a2), none]) (by decide) (by simp) rfl rfl ?_
  obtain ⟨Q, eQ⟩ : ∃ Q, Q = Qret cX7_lay none none wZ := ⟨_, rfl⟩
  rw [← eQ]
  unfold fX7_lay at hf
  refine E_aload_n (v := 67) dX7_lay_0 rfl ?_
  refine E_getR fg_RX7_11 dX7_lay_1 sC_67 rfl rC_67_0 (Nat.succ_ne_zero _) ?_
  refine E_iload_n (v := a0) dX7_lay_4 rfl ?_
  refine E_iload_n (v := a1) dX7_lay_5 rfl ?_
  obtain ⟨hi1, hf⟩ := gd_some hf
  obtain ⟨w2, ew2, hf⟩ := lw_some hf
  try dsimp only at hf
  refine E_iast (n := 4) dX7_lay_6 sC_68 (by decide) (inb_in hi1) ?_
  rw [← ew2]
  refine E_aload_n (v := 67) dX7_lay_7 rfl ?_
  refine E_getR fg_RX7_15 dX7_lay_8 sC_67 rfl rC_67_1 (Nat.succ_ne_zero _) ?_
  refine E_iload_n (v := a0) dX7_lay_11 rfl ?_
  refine E_iload_n (v := a1) dX7_lay_12 rfl ?_
  refine E_iconst (-1) dX7_lay_13 ic_m1 ?_
  refine E_icmp_ne 21 dX7_lay_14 (by decide) (fun hc3 => ?_) (fun hc3 => ?_)
  · rw [if_pos hc3] at hf
    refine E_iconst 0 dX7_lay_17 ic_0 ?_
    refine E_goto 22 dX7_lay_18 (by decide) ?_
    obtain ⟨w4, ew4, hf⟩ := lw_some hf
    try dsimp only at hf
    refine E_iast (n := 4) dX7_lay_22 sC_69 (by decide) (inb_in hi1) ?_
    rw [← ew4]
    refine E_iconst 0 dX7_lay_23 ic_0 ?_
    refine E_istore (ls' := [some (.ref 67), some (.int a0), some (.int a1), some (.int a2), some (.int 0)]) dX7_lay_24 rfl rfl rfl ?_
    obtain ⟨q, hw8, hf⟩ := bd_some hf
    try dsimp only at hf
    refine E.fewer (ls' := [some (.ref 67), some (.int a0), none, none, some (.int 0)]) ⟨Or.inr rfl, ⟨Or.inr rfl, ⟨Or.inl rfl, ⟨Or.inl rfl, ⟨Or.inr rfl, trivial⟩⟩⟩⟩⟩ ?_
    show (fun (s : Int32 × AW) => E PC RX7 cX7_lay 5 1 26 [some (.ref 67), some (.int a0), none, none, some (.int s.1)] [] s.2 Q) (0, w4)
    refine wh_E (K := (fun (s : Int32 × AW) => E PC RX7 cX7_lay 5 1 26 [some (.ref 67), some (.int a0), none, none, some (.int s.1)] [] s.2 Q)) (X := (fun (s : AW) => E PC RX7 cX7_lay 5 1 52 [none, none, none, none, none] [] s Q)) ?_ hw8 ?_
    · intro s9 z9 hf k9
      obtain ⟨x4_26_1, w_26_1⟩ := s9
      dsimp only [lbX7_lay_26_1] at hf
      show E PC RX7 cX7_lay 5 1 26 [some (.ref 67), some (.int a0), none, none, some (.int x4_26_1)] [] w_26_1 Q
      refine E_iload (v := x4_26_1) dX7_lay_26 rfl ?_
      refine E_bipush 40 dX7_lay_28 bp_40 ?_
      refine E_icmp_ge 52 dX7_lay_30 (by decide) (fun hc5 => ?_) (fun hc5 => ?_)
      · rw [if_pos hc5] at hf
        obtain rfl := Option.some.inj hf
        refine E.fewer (ls' := [none, none, none, none, none]) ⟨Or.inl rfl, ⟨Or.inl rfl, ⟨Or.inl rfl, ⟨Or.inl rfl, ⟨Or.inl rfl, trivial⟩⟩⟩⟩⟩ ?_
        exact k9
      · rw [if_neg hc5] at hf
        refine E_aload_n (v := 67) dX7_lay_33 rfl ?_
        refine E_getR fg_RX7_18 dX7_lay_34 sC_67 rfl rC_67_2 (Nat.succ_ne_zero _) ?_
        refine E_iload_n (v := a0) dX7_lay_37 rfl ?_
        refine E_bipush 40 dX7_lay_38 bp_40 ?_
        refine E_imul dX7_lay_40 ?_
        refine E_iload (v := x4_26_1) dX7_lay_41 rfl ?_
        refine E_iadd dX7_lay_43 ?_
        refine E_iconst 0 dX7_lay_44 ic_0 ?_
        obtain ⟨hi6, hf⟩ := gd_some hf
        obtain ⟨w7, ew7, hf⟩ := lw_some hf
        try dsimp only at hf
        refine E_iast (n := 160) dX7_lay_45 sC_70 (by decide) (inb_in hi6) ?_
        rw [← ew7]
        refine E_iinc (ls' := [some (.ref 67), some (.int a0), none, none, some (.int (x4_26_1 + 1))]) 1 dX7_lay_46 rfl ic_1 rfl rfl rfl ?_
        refine E_goto 26 dX7_lay_49 (by decide) ?_
        obtain rfl := Option.some.inj hf
        exact k9
    · skip
      obtain ⟨w9, hq9⟩ : ∃ a, a = q := ⟨_, rfl⟩
      subst hq9
      try dsimp only at hf
      show E PC RX7 cX7_lay 5 1 52 [none, none, none, none, none] [] w9 Q
      obtain rfl := Option.some.inj hf
      exact E.done (by rw [eQ]; exact ⟨rfl, Or.inr ⟨rfl, rfl, dX7_lay_52, rfl⟩⟩)
  · rw [if_neg hc3] at hf
    refine E_iload_n (v := a2) dX7_lay_21 rfl ?_
    obtain ⟨w10, ew10, hf⟩ := lw_some hf
    try dsimp only at hf
    refine E_iast (n := 4) dX7_lay_22 sC_69 (by decide) (inb_in hi1) ?_
    rw [← ew10]
    refine E_iconst 0 dX7_lay_23 ic_0 ?_
    refine E_istore (ls' := [some (.ref 67), some (.int a0), some (.int a1), some (.int a2), some (.int 0)]) dX7_lay_24 rfl rfl rfl ?_
    obtain ⟨q, hw14, hf⟩ := bd_some hf
    try dsimp only at hf
    refine E.fewer (ls' := [some (.ref 67), some (.int a0), none, none, some (.int 0)]) ⟨Or.inr rfl, ⟨Or.inr rfl, ⟨Or.inl rfl, ⟨Or.inl rfl, ⟨Or.inr rfl, trivial⟩⟩⟩⟩⟩ ?_
    show (fun (s : Int32 × AW) => E PC RX7 cX7_lay 5 1 26 [some (.ref 67), some (.int a0), none, none, some (.int s.1)] [] s.2 Q) (0, w10)
    refine wh_E (K := (fun (s : Int32 × AW) => E PC RX7 cX7_lay 5 1 26 [some (.ref 67), some (.int a0), none, none, some (.int s.1)] [] s.2 Q)) (X := (fun (s : AW) => E PC RX7 cX7_lay 5 1 52 [none, none, none, none, none] [] s Q)) ?_ hw14 ?_
    · intro s9 z9 hf k9
      obtain ⟨x4_26_2, w_26_2⟩ := s9
      dsimp only [lbX7_lay_26_2] at hf
      show E PC RX7 cX7_lay 5 1 26 [some (.ref 67), some (.int a0), none, none, some (.int x4_26_2)] [] w_26_2 Q
      refine E_iload (v := x4_26_2) dX7_lay_26 rfl ?_
      refine E_bipush 40 dX7_lay_28 bp_40 ?_
      refine E_icmp_ge 52 dX7_lay_30 (by decide) (fun hc11 => ?_) (fun hc11 => ?_)
      · rw [if_pos hc11] at hf
        obtain rfl := Option.some.inj hf
        refine E.fewer (ls' := [none, none, none, none, none]) ⟨Or.inl rfl, ⟨Or.inl rfl, ⟨Or.inl rfl, ⟨Or.inl rfl, ⟨Or.inl rfl, trivial⟩⟩⟩⟩⟩ ?_
        exact k9
      · rw [if_neg hc11] at hf
        refine E_aload_n (v := 67) dX7_lay_33 rfl ?_
        refine E_getR fg_RX7_18 dX7_lay_34 sC_67 rfl rC_67_2 (Nat.succ_ne_zero _) ?_
        refine E_iload_n (v := a0) dX7_lay_37 rfl ?_
        refine E_bipush 40 dX7_lay_38 bp_40 ?_
        refine E_imul dX7_lay_40 ?_
        refine E_iload (v := x4_26_2) dX7_lay_41 rfl ?_
        refine E_iadd dX7_lay_43 ?_
        refine E_iconst 0 dX7_lay_44 ic_0 ?_
        obtain ⟨hi12, hf⟩ := gd_some hf
        obtain ⟨w13, ew13, hf⟩ := lw_some hf
        try dsimp only at hf
        refine E_iast (n := 160) dX7_lay_45 sC_70 (by decide) (inb_in hi12) ?_
        rw [← ew13]
        refine E_iinc (ls' := [some (.ref 67), some (.int a0), none, none, some (.int (x4_26_2 + 1))]) 1 dX7_lay_46 rfl ic_1 rfl rfl rfl ?_
        refine E_goto 26 dX7_lay_49 (by decide) ?_
        obtain rfl := Option.some.inj hf
        exact k9
    · skip
      obtain ⟨w15, hq9⟩ : ∃ a, a = q := ⟨_, rfl⟩
      subst hq9
      try dsimp only at hf
      show E PC RX7 cX7_lay 5 1 52 [none, none, none, none, none] [] w15 Q
      obtain rfl := Option.some.inj hf
      exact E.done (by rw [eQ]; exact ⟨rfl, Or.inr ⟨rfl, rfl, dX7_lay_52, rfl⟩⟩)
set_option maxRecDepth 10000 in
set_option maxHeartbeats 2000000 in
theorem MX11_sheet {N : Nat} {a0 : Int32} {a1 : Int32} {a2 : Int32} {w : AW} {rZ : Int32} {wZ : AW} (hf : fX11_sheet N a0 a1 a2 w = some (rZ, wZ)) : CallOK PC yX11_sheet cX11_sheet 4 (some .int) 3 [.ref 0, .int a0, .int a1, .int a2] w (some (.int rZ)) wZ := by
  refine CallOK.of (ls := [some (.ref 0), some (.int a0), some (.int a1), some (.int a2)]) (by decide) (by simp) rfl rfl ?_
  obtain ⟨Q, eQ⟩ : ∃ Q, Q = Qret cX11_sheet (some .int) (some (.int rZ)) wZ := ⟨_, rfl⟩
  rw [← eQ]
  unfold fX11_sheet at hf
  refine E_iload_n (v := a0) dX11_sheet_0 rfl ?_
  obtain ⟨r2, hc1, hf⟩ := bd_some hf
  try dsimp only at hf
  refine E_callSi (rest := []) cs_RX11_299 dX11_sheet_1 (MX7_isPlace hc1) rfl rfl rfl (fun _ => Nat.le_of_ble_eq_true rfl) ?_
  refine E_if_eq 16 dX11_sheet_4 (by decide) (fun hc3 => ?_) (fun hc3 => ?_)
  · rw [if_pos hc3] at hf
    refine E_iconst (-1) dX11_sheet_16 ic_m1 ?_
    obtain ⟨rfl, rfl⟩ := ret2 hf
    exact E.done (by rw [eQ]; exact ⟨rfl, Or.inl ⟨_, _, rfl, rfl, dX11_sheet_17, rfl, rfl⟩⟩)
  · rw [if_neg hc3] at hf
    refine E_iload_n (v := a1) dX11_sheet_7 rfl ?_
    refine E_iconst (-1) dX11_sheet_8 ic_m1 ?_
    refine E_iconst 3 dX11_sheet_9 ic_3 ?_
    obtain ⟨r5, hc4, hf⟩ := bd_some hf
    try dsimp only at hf
    refine E_callSi (rest := []) cs_RX11_100 dX11_sheet_10 (MX11_within hc4) rfl rfl rfl (fun _ => Nat.le_of_ble_eq_true rfl) ?_
    refine E_if_ne 18 dX11_sheet_13 (by decide) (fun hc6 => ?_) (fun hc6 => ?_)
    · rw [if_pos hc6] at hf
      refine E_iconst (-1) dX11_sheet_16 ic_m1 ?_
      obtain ⟨rfl, rfl⟩ := ret2 hf
      exact E.done (by rw [eQ]; exact ⟨rfl, Or.inl ⟨_, _, rfl, rfl, dX11_sheet_17, rfl, rfl⟩⟩)
    · rw [if_neg hc6] at hf
      refine E_iload_n (v := a1) dX11_sheet_18 rfl ?_
      refine E_iconst (-1) dX11_sheet_19 ic_m1 ?_
      refine E_icmp_eq 31 dX11_sheet_20 (by decide) (fun hc7 => ?_) (fun hc7 => ?_)
      · rw [if_pos hc7] at hf
        refine E_iload_n (v := a1) dX11_sheet_31 rfl ?_
        refine E_iconst (-1) dX11_sheet_32 ic_m1 ?_
        refine E_icmp_eq 43 dX11_sheet_33 (by decide) (fun hc8 => ?_) (fun hc8 => ?_)
        · rw [if_pos hc8] at hf
          refine E_aload_n (v := 0) dX11_sheet_43 rfl ?_
          refine E_getR fg_RX11_89 dX11_sheet_44 sC_0 rfl rC_0_12 (Nat.succ_ne_zero _) ?_
          refine E_iload_n (v := a0) dX11_sheet_47 rfl ?_
          refine E_iload_n (v := a1) dX11_sheet_48 rfl ?_
          refine E_iload_n (v := a2) dX11_sheet_49 rfl ?_
          obtain ⟨w10, hc9, hf⟩ := bd_some hf
          try dsimp only at hf
          refine E_callVv (rest := []) (ci := 7) cv_RX11_302 dX11_sheet_50 (MX7_lay hc9) rfl sC_67 rfl (by decide) rfl rfl (fun _ => Nat.le_of_ble_eq_true rfl) ?_
          refine E_iconst 1 dX11_sheet_53 ic_1 ?_
          obtain ⟨rfl, rfl⟩ := ret2 hf
          exact E.done (by rw [eQ]; exact ⟨rfl, Or.inl ⟨_, _, rfl, rfl, dX11_sheet_54, rfl, rfl⟩⟩)
        · rw [if_neg hc8] at hf
          refine E_iload_n (v := a2) dX11_sheet_36 rfl ?_
          refine E_if_ge 43 dX11_sheet_37 (by decide) (fun hc11 => ?_) (fun hc11 => ?_)
          · rw [if_pos hc11] at hf
            refine E_aload_n (v := 0) dX11_sheet_43 rfl ?_
            refine E_getR fg_RX11_89 dX11_sheet_44 sC_0 rfl rC_0_12 (Nat.succ_ne_zero _) ?_
            refine E_iload_n (v := a0) dX11_sheet_47 rfl ?_
            refine E_iload_n (v := a1) dX11_sheet_48 rfl ?_
            refine E_iload_n (v := a2) dX11_sheet_49 rfl ?_
            obtain ⟨w13, hc12, hf⟩ := bd_some hf
            try dsimp only at hf
            refine E_callVv (rest := []) (ci := 7) cv_RX11_302 dX11_sheet_50 (MX7_lay hc12) rfl sC_67 rfl (by decide) rfl rfl (fun _ => Nat.le_of_ble_eq_true rfl) ?_
            refine E_iconst 1 dX11_sheet_53 ic_1 ?_
            obtain ⟨rfl, rfl⟩ := ret2 hf
            exact E.done (by rw [eQ]; exact ⟨rfl, Or.inl ⟨_, _, rfl, rfl, dX11_sheet_54, rfl, rfl⟩⟩)
          · rw [if_neg hc11] at hf
            refine E_bipush (-14) dX11_sheet_40 bp_m14 ?_
            obtain ⟨rfl, rfl⟩ := ret2 hf
            exact E.done (by rw [eQ]; exact ⟨rfl, Or.inl ⟨_, _, rfl, rfl, dX11_sheet_42, rfl, rfl⟩⟩)
      · rw [if_neg hc7] at hf
        refine E_iload_n (v := a2) dX11_sheet_23 rfl ?_
        refine E_bipush 40 dX11_sheet_24 bp_40 ?_
        refine E_icmp_le 31 dX11_sheet_26 (by decide) (fun hc14 => ?_) (fun hc14 => ?_)
        · rw [if_pos hc14] at hf
          refine E_iload_n (v := a1) dX11_sheet_31 rfl ?_
          refine E_iconst (-1) dX11_sheet_32 ic_m1 ?_
          refine E_icmp_eq 43 dX11_sheet_33 (by decide) (fun hc15 => ?_) (fun hc15 => ?_)
          · rw [if_pos hc15] at hf
            refine E_aload_n (v := 0) dX11_sheet_43 rfl ?_
            refine E_getR fg_RX11_89 dX11_sheet_44 sC_0 rfl rC_0_12 (Nat.succ_ne_zero _) ?_
            refine E_iload_n (v := a0) dX11_sheet_47 rfl ?_
            refine E_iload_n (v := a1) dX11_sheet_48 rfl ?_
            refine E_iload_n (v := a2) dX11_sheet_49 rfl ?_
            obtain ⟨w17, hc16, hf⟩ := bd_some hf
            try dsimp only at hf
            refine E_callVv (rest := []) (ci := 7) cv_RX11_302 dX11_sheet_50 (MX7_lay hc16) rfl sC_67 rfl (by decide) rfl rfl (fun _ => Nat.le_of_ble_eq_true rfl) ?_
            refine E_iconst 1 dX11_sheet_53 ic_1 ?_
            obtain ⟨rfl, rfl⟩ := ret2 hf
            exact E.done (by rw [eQ]; exact ⟨rfl, Or.inl ⟨_, _, rfl, rfl, dX11_sheet_54, rfl, rfl⟩⟩)
          · rw [if_neg hc15] at hf
            refine E_iload_n (v := a2) dX11_sheet_36 rfl ?_
            refine E_if_ge 43 dX11_sheet_37 (by decide) (fun hc18 => ?_) (fun hc18 => ?_)
            · rw [if_pos hc18] at hf
              refine E_aload_n (v := 0) dX11_sheet_43 rfl ?_
              refine E_getR fg_RX11_89 dX11_sheet_44 sC_0 rfl rC_0_12 (Nat.succ_ne_zero _) ?_
              refine E_iload_n (v := a0) dX11_sheet_47 rfl ?_
              refine E_iload_n (v := a1) dX11_sheet_48 rfl ?_
              refine E_iload_n (v := a2) dX11_sheet_49 rfl ?_
              obtain ⟨w20, hc19, hf⟩ := bd_some hf
              try dsimp only at hf
              refine E_callVv (rest := []) (ci := 7) cv_RX11_302 dX11_sheet_50 (MX7_lay hc19) rfl sC_67 rfl (by decide) rfl rfl (fun _ => Nat.le_of_ble_eq_true rfl) ?_
              refine E_iconst 1 dX11_sheet_53 ic_1 ?_
              obtain ⟨rfl, rfl⟩ := ret2 hf
              exact E.done (by rw [eQ]; exact ⟨rfl, Or.inl ⟨_, _, rfl, rfl, dX11_sheet_54, rfl, rfl⟩⟩)
            · rw [if_neg hc18] at hf
              refine E_bipush (-14) dX11_sheet_40 bp_m14 ?_
              obtain ⟨rfl, rfl⟩ := ret2 hf
              exact E.done (by rw [eQ]; exact ⟨rfl, Or.inl ⟨_, _, rfl, rfl, dX11_sheet_42, rfl, rfl⟩⟩)
        · rw [if_neg hc14] at hf
          refine E_iconst (-1) dX11_sheet_29 ic_m1 ?_
          obtain ⟨rfl, rfl⟩ := ret2 hf
          exact E.done (by rw [eQ]; exact ⟨rfl, Or.inl ⟨_, _, rfl, rfl, dX11_sheet_30, rfl, rfl⟩⟩)
set_option maxRecDepth 10000 in
set_option maxHeartbeats 2000000 in
theorem MX7_holdJob {a0 : Int32} {a1 : Int32} {w : AW} {wZ : AW} (hf : fX7_holdJob a0 a1 w = some wZ) : CallOK PC yX7_holdJob cX7_holdJob 3 none 1 [.ref 67, .int a0, .int a1] w none wZ := by
  refine CallOK.of (ls := [some (.ref 67), some (.int a0), some (.int a1)]) (by decide) (by simp) rfl rfl ?_
  obtain ⟨Q, eQ⟩ : ∃ Q, Q = Qret cX7_holdJob none none wZ := ⟨_, rfl⟩
  rw [← eQ]
  unfold fX7_holdJob at hf
  refine E_aload_n (v := 67) dX7_holdJob_0 rfl ?_
  refine E_getR fg_RX7_21 dX7_holdJob_1 sC_67 rfl rC_67_3 (Nat.succ_ne_zero _) ?_
  refine E_iload_n (v := a0) dX7_holdJob_4 rfl ?_
  refine E_iconst 1 dX7_holdJob_5 ic_1 ?_
  obtain ⟨hi1, hf⟩ := gd_some hf
  obtain ⟨w2, ew2, hf⟩ := lw_some hf
  try dsimp only at hf
  refine E_iast (n := 4) dX7_holdJob_6 sC_71 (by decide) (inb_in hi1) ?_
  rw [← ew2]
  refine E_aload_n (v := 67) dX7_holdJob_7 rfl ?_
  refine E_getR fg_RX7_27 dX7_holdJob_8 sC_67 rfl rC_67_5 (Nat.succ_ne_zero _) ?_
  refine E_iload_n (v := a0) dX7_holdJob_11 rfl ?_
  refine E_iload_n (v := a1) dX7_holdJob_12 rfl ?_
  obtain ⟨w3, ew3, hf⟩ := lw_some hf
  try dsimp only at hf
  refine E_iast (n := 4) dX7_holdJob_13 sC_73 (by decide) (inb_in hi1) ?_
  rw [← ew3]
  obtain rfl := Option.some.inj hf
  exact E.done (by rw [eQ]; exact ⟨rfl, Or.inr ⟨rfl, rfl, dX7_holdJob_14, rfl⟩⟩)
set_option maxRecDepth 10000 in
set_option maxHeartbeats 2000000 in
theorem MX7_holdNothing {a0 : Int32} {w : AW} {wZ : AW} (hf : fX7_holdNothing a0 w = some wZ) : CallOK PC yX7_holdNothing cX7_holdNothing 2 none 1 [.ref 67, .int a0] w none wZ := by
  refine CallOK.of (ls := [some (.ref 67), some (.int a0)]) (by decide) (by simp) rfl rfl ?_
  obtain ⟨Q, eQ⟩ : ∃ Q, Q = Qret cX7_holdNothing none none wZ := ⟨_, rfl⟩
  rw [← eQ]
  unfold fX7_holdNothing at hf
  refine E_aload_n (v := 67) dX7_holdNothing_0 rfl ?_
  refine E_getR fg_RX7_21 dX7_holdNothing_1 sC_67 rfl rC_67_3 (Nat.succ_ne_zero _) ?_
  refine E_iload_n (v := a0) dX7_holdNothing_4 rfl ?_
  refine E_iconst 0 dX7_holdNothing_5 ic_0 ?_
  obtain ⟨hi1, hf⟩ := gd_some hf
  obtain ⟨w2, ew2, hf⟩ := lw_some hf
  try dsimp only at hf
  refine E_iast (n := 4) dX7_holdNothing_6 sC_71 (by decide) (inb_in hi1) ?_
  rw [← ew2]
  obtain rfl := Option.some.inj hf
  exact E.done (by rw [eQ]; exact ⟨rfl, Or.inr ⟨rfl, rfl, dX7_holdNothing_7, rfl⟩⟩)
set_option maxRecDepth 10000 in
set_option maxHeartbeats 2000000 in
theorem MX7_holdRow {a0 : Int32} {a1 : Int32} {w : AW} {wZ : AW} (hf : fX7_holdRow a0 a1 w = some wZ) : CallOK PC yX7_holdRow cX7_holdRow 3 none 1 [.ref 67, .int a0, .int a1] w none wZ := by
  refine CallOK.of (ls := [some (.ref 67), some (.int a0), some (.int a1)]) (by decide) (by simp) rfl rfl ?_
  obtain ⟨Q, eQ⟩ : ∃ Q, Q = Qret cX7_holdRow none none wZ := ⟨_, rfl⟩
  rw [← eQ]
  unfold fX7_holdRow at hf
  refine E_aload_n (v := 67) dX7_holdRow_0 rfl ?_
  refine E_getR fg_RX7_21 dX7_holdRow_1 sC_67 rfl rC_67_3 (Nat.succ_ne_zero _) ?_
  refine E_iload_n (v := a0) dX7_holdRow_4 rfl ?_
  refine E_aload_n (v := 67) dX7_holdRow_5 rfl ?_
  refine E_getR fg_RX7_11 dX7_holdRow_6 sC_67 rfl rC_67_0 (Nat.succ_ne_zero _) ?_
  refine E_iload_n (v := a1) dX7_holdRow_9 rfl ?_
  obtain ⟨hi1, hf⟩ := gd_some hf
  refine E_iald (n := 4) dX7_holdRow_10 sC_68 (by decide) (inb_in hi1) ?_
  refine E_iconst (-1) dX7_holdRow_11 ic_m1 ?_
  refine E_icmp_ne 19 dX7_holdRow_12 (by decide) (fun hc2 => ?_) (fun hc2 => ?_)
  · rw [if_pos hc2] at hf
    refine E_iconst 0 dX7_holdRow_15 ic_0 ?_
    refine E_goto 20 dX7_holdRow_16 (by decide) ?_
    obtain ⟨hi3, hf⟩ := gd_some hf
    obtain ⟨w4, ew4, hf⟩ := lw_some hf
    try dsimp only at hf
    refine E_iast (n := 4) dX7_holdRow_20 sC_71 (by decide) (inb_in hi3) ?_
    rw [← ew4]
    refine E_aload_n (v := 67) dX7_holdRow_21 rfl ?_
    refine E_getR fg_RX7_24 dX7_holdRow_22 sC_67 rfl rC_67_4 (Nat.succ_ne_zero _) ?_
    refine E_iload_n (v := a0) dX7_holdRow_25 rfl ?_
    refine E_aload_n (v := 67) dX7_holdRow_26 rfl ?_
    refine E_getR fg_RX7_11 dX7_holdRow_27 sC_67 rfl rC_67_0 (Nat.succ_ne_zero _) ?_
    refine E_iload_n (v := a1) dX7_holdRow_30 rfl ?_
    refine E_iald (n := 4) dX7_holdRow_31 sC_68 (by decide) (inb_in hi1) ?_
    obtain ⟨w5, ew5, hf⟩ := lw_some hf
    try dsimp only at hf
    refine E_iast (n := 4) dX7_holdRow_32 sC_72 (by decide) (inb_in hi3) ?_
    rw [← ew5]
    refine E_aload_n (v := 67) dX7_holdRow_33 rfl ?_
    refine E_getR fg_RX7_27 dX7_holdRow_34 sC_67 rfl rC_67_5 (Nat.succ_ne_zero _) ?_
    refine E_iload_n (v := a0) dX7_holdRow_37 rfl ?_
    refine E_aload_n (v := 67) dX7_holdRow_38 rfl ?_
    refine E_getR fg_RX7_15 dX7_holdRow_39 sC_67 rfl rC_67_1 (Nat.succ_ne_zero _) ?_
    refine E_iload_n (v := a1) dX7_holdRow_42 rfl ?_
    refine E_iald (n := 4) dX7_holdRow_43 sC_69 (by decide) (inb_in hi1) ?_
    obtain ⟨w6, ew6, hf⟩ := lw_some hf
    try dsimp only at hf
    refine E_iast (n := 4) dX7_holdRow_44 sC_73 (by decide) (inb_in hi3) ?_
    rw [← ew6]
    obtain rfl := Option.some.inj hf
    exact E.done (by rw [eQ]; exact ⟨rfl, Or.inr ⟨rfl, rfl, dX7_holdRow_45, rfl⟩⟩)
  · rw [if_neg hc2] at hf
    refine E_iconst 2 dX7_holdRow_19 ic_2 ?_
    obtain ⟨hi7, hf⟩ := gd_some hf
    obtain ⟨w8, ew8, hf⟩ := lw_some hf
    try dsimp only at hf
    refine E_iast (n := 4) dX7_holdRow_20 sC_71 (by decide) (inb_in hi7) ?_
    rw [← ew8]
    refine E_aload_n (v := 67) dX7_holdRow_21 rfl ?_
    refine E_getR fg_RX7_24 dX7_holdRow_22 sC_67 rfl rC_67_4 (Nat.succ_ne_zero _) ?_
    refine E_iload_n (v := a0) dX7_holdRow_25 rfl ?_
    refine E_aload_n (v := 67) dX7_holdRow_26 rfl ?_
    refine E_getR fg_RX7_11 dX7_holdRow_27 sC_67 rfl rC_67_0 (Nat.succ_ne_zero _) ?_
    refine E_iload_n (v := a1) dX7_holdRow_30 rfl ?_
    refine E_iald (n := 4) dX7_holdRow_31 sC_68 (by decide) (inb_in hi1) ?_
    obtain ⟨w9, ew9, hf⟩ := lw_some hf
    try dsimp only at hf
    refine E_iast (n := 4) dX7_holdRow_32 sC_72 (by decide) (inb_in hi7) ?_
    rw [← ew9]
    refine E_aload_n (v := 67) dX7_holdRow_33 rfl ?_
    refine E_getR fg_RX7_27 dX7_holdRow_34 sC_67 rfl rC_67_5 (Nat.succ_ne_zero _) ?_
    refine E_iload_n (v := a0) dX7_holdRow_37 rfl ?_
    refine E_aload_n (v := 67) dX7_holdRow_38 rfl ?_
    refine E_getR fg_RX7_15 dX7_holdRow_39 sC_67 rfl rC_67_1 (Nat.succ_ne_zero _) ?_
    refine E_iload_n (v := a1) dX7_holdRow_42 rfl ?_
    refine E_iald (n := 4) dX7_holdRow_43 sC_69 (by decide) (inb_in hi1) ?_
    obtain ⟨w10, ew10, hf⟩ := lw_some hf
    try dsimp only at hf
    refine E_iast (n := 4) dX7_holdRow_44 sC_73 (by decide) (inb_in hi7) ?_
    rw [← ew10]
    obtain rfl := Option.some.inj hf
    exact E.done (by rw [eQ]; exact ⟨rfl, Or.inr ⟨rfl, rfl, dX7_holdRow_45, rfl⟩⟩)
set_option maxRecDepth 10000 in
set_option maxHeartbeats 2000000 in
theorem MX11_shelf {a0 : Int32} {a1 : Int32} {a2 : Int32} {w : AW} {rZ : Int32} {wZ : AW} (hf : fX11_shelf a0 a1 a2 w = some (rZ, wZ)) : CallOK PC yX11_shelf cX11_shelf 4 (some .int) 3 [.ref 0, .int a0, .int a1, .int a2] w (some (.int rZ)) wZ := by
  refine CallOK.of (ls := [some (.ref 0), some (.int a0), some (.int a1), some (.int a2)]) (by decide) (by simp) rfl rfl ?_
  obtain ⟨Q, eQ⟩ : ∃ Q, Q = Qret cX11_shelf (some .int) (some (.int rZ)) wZ := ⟨_, rfl⟩
  rw [← eQ]
  unfold fX11_shelf at hf
  refine E_iload_n (v := a0) dX11_shelf_0 rfl ?_
  obtain ⟨r2, hc1, hf⟩ := bd_some hf
  try dsimp only at hf
  refine E_callSi (rest := []) cs_RX11_299 dX11_shelf_1 (MX7_isPlace hc1) rfl rfl rfl (fun _ => Nat.le_of_ble_eq_true rfl) ?_
  refine E_if_ne 9 dX11_shelf_4 (by decide) (fun hc3 => ?_) (fun hc3 => ?_)
  · rw [if_pos hc3] at hf
    refine E_iconst (-1) dX11_shelf_7 ic_m1 ?_
    obtain ⟨rfl, rfl⟩ := ret2 hf
    exact E.done (by rw [eQ]; exact ⟨rfl, Or.inl ⟨_, _, rfl, rfl, dX11_shelf_8, rfl, rfl⟩⟩)
  · rw [if_neg hc3] at hf
    refine E_iload_n (v := a1) dX11_shelf_9 rfl ?_
    by_cases hc4 : a1 = 0
    · rw [if_pos hc4] at hf
      refine E_tableIn 36 dX11_shelf_10 (by rw [hc4]; decide) (by rw [hc4]; decide) (by rw [hc4]; rfl) (by decide) ?_
      refine E_aload_n (v := 0) dX11_shelf_36 rfl ?_
      refine E_getR fg_RX11_10 dX11_shelf_37 sC_0 rfl rC_0_0 (Nat.succ_ne_zero _) ?_
      refine E_getR fg_RX11_130 dX11_shelf_40 sC_1 rfl rC_1_0 (Nat.succ_ne_zero _) ?_
      refine E_iload_n (v := a2) dX11_shelf_43 rfl ?_
      obtain ⟨r6, hc5, hf⟩ := bd_some hf
      try dsimp only at hf
      refine E_callVi (rest := []) (ci := 4) cv_RX11_140 dX11_shelf_44 (MX4_has J_is2 hc5) rfl sC_2 rfl (by decide) rfl rfl (fun _ => Nat.le_of_ble_eq_true rfl) ?_
      refine E_if_ne 52 dX11_shelf_47 (by decide) (fun hc7 => ?_) (fun hc7 => ?_)
      · rw [if_pos hc7] at hf
        refine E_iconst (-1) dX11_shelf_50 ic_m1 ?_
        obtain ⟨rfl, rfl⟩ := ret2 hf
        exact E.done (by rw [eQ]; exact ⟨rfl, Or.inl ⟨_, _, rfl, rfl, dX11_shelf_51, rfl, rfl⟩⟩)
      · rw [if_neg hc7] at hf
        refine E_aload_n (v := 0) dX11_shelf_52 rfl ?_
        refine E_getR fg_RX11_89 dX11_shelf_53 sC_0 rfl rC_0_12 (Nat.succ_ne_zero _) ?_
        refine E_iload_n (v := a0) dX11_shelf_56 rfl ?_
        refine E_iload_n (v := a2) dX11_shelf_57 rfl ?_
        obtain ⟨w9, hc8, hf⟩ := bd_some hf
        try dsimp only at hf
        refine E_callVv (rest := []) (ci := 7) cv_RX11_319 dX11_shelf_58 (MX7_holdJob hc8) rfl sC_67 rfl (by decide) rfl rfl (fun _ => Nat.le_of_ble_eq_true rfl) ?_
        refine E_iconst 1 dX11_shelf_61 ic_1 ?_
        obtain ⟨rfl, rfl⟩ := ret2 hf
        exact E.done (by rw [eQ]; exact ⟨rfl, Or.inl ⟨_, _, rfl, rfl, dX11_shelf_62, rfl, rfl⟩⟩)
    · rw [if_neg hc4] at hf
      by_cases hc10 : a1 = 1
      · rw [if_pos hc10] at hf
        refine E_tableIn 63 dX11_shelf_10 (by rw [hc10]; decide) (by rw [hc10]; decide) (by rw [hc10]; rfl) (by decide) ?_
        refine E_iload_n (v := a2) dX11_shelf_63 rfl ?_
        obtain ⟨r12, hc11, hf⟩ := bd_some hf
        try dsimp only at hf
        refine E_callSi (rest := []) cs_RX11_299 dX11_shelf_64 (MX7_isPlace hc11) rfl rfl rfl (fun _ => Nat.le_of_ble_eq_true rfl) ?_
        refine E_if_ne 72 dX11_shelf_67 (by decide) (fun hc13 => ?_) (fun hc13 => ?_)
        · rw [if_pos hc13] at hf
          refine E_iconst (-1) dX11_shelf_70 ic_m1 ?_
          obtain ⟨rfl, rfl⟩ := ret2 hf
          exact E.done (by rw [eQ]; exact ⟨rfl, Or.inl ⟨_, _, rfl, rfl, dX11_shelf_71, rfl, rfl⟩⟩)
        · rw [if_neg hc13] at hf
          refine E_aload_n (v := 0) dX11_shelf_72 rfl ?_
          refine E_getR fg_RX11_89 dX11_shelf_73 sC_0 rfl rC_0_12 (Nat.succ_ne_zero _) ?_
          refine E_iload_n (v := a0) dX11_shelf_76 rfl ?_
          refine E_iload_n (v := a2) dX11_shelf_77 rfl ?_
          obtain ⟨w15, hc14, hf⟩ := bd_some hf
          try dsimp only at hf
          refine E_callVv (rest := []) (ci := 7) cv_RX11_323 dX11_shelf_78 (MX7_holdRow hc14) rfl sC_67 rfl (by decide) rfl rfl (fun _ => Nat.le_of_ble_eq_true rfl) ?_
          refine E_iconst 1 dX11_shelf_81 ic_1 ?_
          obtain ⟨rfl, rfl⟩ := ret2 hf
          exact E.done (by rw [eQ]; exact ⟨rfl, Or.inl ⟨_, _, rfl, rfl, dX11_shelf_82, rfl, rfl⟩⟩)
      · rw [if_neg hc10] at hf
        by_cases hc16 : a1 = 2
        · rw [if_pos hc16] at hf
          refine E_tableIn 83 dX11_shelf_10 (by rw [hc16]; decide) (by rw [hc16]; decide) (by rw [hc16]; rfl) (by decide) ?_
          refine E_aload_n (v := 0) dX11_shelf_83 rfl ?_
          refine E_getR fg_RX11_89 dX11_shelf_84 sC_0 rfl rC_0_12 (Nat.succ_ne_zero _) ?_
          refine E_iload_n (v := a0) dX11_shelf_87 rfl ?_
          obtain ⟨w18, hc17, hf⟩ := bd_some hf
          try dsimp only at hf
          refine E_callVv (rest := []) (ci := 7) cv_RX11_326 dX11_shelf_88 (MX7_holdNothing hc17) rfl sC_67 rfl (by decide) rfl rfl (fun _ => Nat.le_of_ble_eq_true rfl) ?_
          refine E_iconst 1 dX11_shelf_91 ic_1 ?_
          obtain ⟨rfl, rfl⟩ := ret2 hf
          exact E.done (by rw [eQ]; exact ⟨rfl, Or.inl ⟨_, _, rfl, rfl, dX11_shelf_92, rfl, rfl⟩⟩)
        · rw [if_neg hc16] at hf
          refine E_tableOut 93 dX11_shelf_10 (tb_0_2 hc4 hc10 hc16) (by decide) ?_
          refine E_iconst (-1) dX11_shelf_93 ic_m1 ?_
          obtain ⟨rfl, rfl⟩ := ret2 hf
          exact E.done (by rw [eQ]; exact ⟨rfl, Or.inl ⟨_, _, rfl, rfl, dX11_shelf_94, rfl, rfl⟩⟩)
set_option maxRecDepth 10000 in
set_option maxHeartbeats 2000000 in
theorem MX11_slots {a0 : Int32} {w : AW} {rZ : Int32} (hf : fX11_slots a0 w = some rZ) : CallOK PC yX11_slots cX11_slots 2 (some .int) 3 [.ref 0, .int a0] w (some (.int rZ)) w := by
  refine CallOK.of (ls := [some (.ref 0), some (.int a0)]) (by decide) (by simp) rfl rfl ?_
  obtain ⟨Q, eQ⟩ : ∃ Q, Q = Qret cX11_slots (some .int) (some (.int rZ)) w := ⟨_, rfl⟩
  rw [← eQ]
  unfold fX11_slots at hf
  refine E_iload_n (v := a0) dX11_slots_0 rfl ?_
  refine E_iconst 0 dX11_slots_1 ic_0 ?_
  refine E_bipush 99 dX11_slots_2 bp_99 ?_
  obtain ⟨r2, hc1, hf⟩ := bd_some hf
  try dsimp only at hf
  refine E_callSi (rest := []) cs_RX11_100 dX11_slots_4 (MX11_within hc1) rfl rfl rfl (fun _ => Nat.le_of_ble_eq_true rfl) ?_
  refine E_if_ne 12 dX11_slots_7 (by decide) (fun hc3 => ?_) (fun hc3 => ?_)
  · rw [if_pos hc3] at hf
    refine E_iconst (-1) dX11_slots_10 ic_m1 ?_
    obtain rfl := Option.some.inj hf
    exact E.done (by rw [eQ]; exact ⟨rfl, Or.inl ⟨_, _, rfl, rfl, dX11_slots_11, rfl, rfl⟩⟩)
  · rw [if_neg hc3] at hf
    refine E_aload_n (v := 0) dX11_slots_12 rfl ?_
    refine E_getR fg_RX11_10 dX11_slots_13 sC_0 rfl rC_0_0 (Nat.succ_ne_zero _) ?_
    refine E_iload_n (v := a0) dX11_slots_16 rfl ?_
    obtain ⟨r5, hc4, hf⟩ := bd_some hf
    try dsimp only at hf
    refine E_callVi (rest := []) (ci := 1) cv_RX11_176 dX11_slots_17 (MX1_slotsOn B_is1 hc4) rfl sC_1 rfl (by decide) rfl rfl (fun _ => Nat.le_of_ble_eq_true rfl) ?_
    obtain rfl := Option.some.inj hf
    exact E.done (by rw [eQ]; exact ⟨rfl, Or.inl ⟨_, _, rfl, rfl, dX11_slots_20, rfl, rfl⟩⟩)
set_option maxRecDepth 10000 in
set_option maxHeartbeats 2000000 in
theorem MX5_soonestEnd {N : Nat} {o0 : Nat} {w : AW} {rZ : Int32} {wZ : AW} (ho0 : isJ o0) (hf : fX5_soonestEnd N o0 w = some (rZ, wZ)) : CallOK PC yX5_soonestEnd cX5_soonestEnd 2 (some .int) 13 [.ref 49, .ref o0] w (some (.int rZ)) wZ := by
  refine CallOK.of (ls := [some (.ref 49), some (.ref o0)]) (by decide) (by simp) rfl rfl ?_
  obtain ⟨Q, eQ⟩ : ∃ Q, Q = Qret cX5_soonestEnd (some .int) (some (.int rZ)) wZ := ⟨_, rfl⟩
  rw [← eQ]
  unfold fX5_soonestEnd at hf
  refine E_aload_n (v := 49) dX5_soonestEnd_0 rfl ?_
  refine E_iconst 2 dX5_soonestEnd_1 ic_2 ?_
  refine E_aload_n (v := o0) dX5_soonestEnd_2 rfl ?_
  refine E_bipush (-9) dX5_soonestEnd_3 bp_m9 ?_
  obtain ⟨r2, w3, hc1, hf⟩ := bd2_some hf
  try dsimp only at hf
  refine E_callVi (rest := []) (ci := 5) cv_RX5_41 dX5_soonestEnd_5 (MX5_leastLost ho0 hc1) rfl sC_49 rfl (by decide) rfl rfl (fun _ => Nat.le_of_ble_eq_true rfl) ?_
  obtain ⟨rfl, rfl⟩ := ret2 hf
  exact E.done (by rw [eQ]; exact ⟨rfl, Or.inl ⟨_, _, rfl, rfl, dX5_soonestEnd_8, rfl, rfl⟩⟩)
set_option maxRecDepth 10000 in
set_option maxHeartbeats 2000000 in
theorem MX11_soonest {N : Nat} {a0 : Int32} {a1 : Int32} {a2 : Int32} {w : AW} {rZ : Int32} {wZ : AW} (hf : fX11_soonest N a0 a1 a2 w = some (rZ, wZ)) : CallOK PC yX11_soonest cX11_soonest 5 (some .int) 14 [.ref 0, .int a0, .int a1, .int a2] w (some (.int rZ)) wZ := by
  refine CallOK.of (ls := [some (.ref 0), some (.int a0), some (.int a1), some (.int a2), none]) (by decide) (by simp) rfl rfl ?_
  obtain ⟨Q, eQ⟩ : ∃ Q, Q = Qret cX11_soonest (some .int) (some (.int rZ)) wZ := ⟨_, rfl⟩
  rw [← eQ]
  unfold fX11_soonest at hf
  refine E_iload_n (v := a0) dX11_soonest_0 rfl ?_
  refine E_iload_n (v := a1) dX11_soonest_1 rfl ?_
  refine E_iload_n (v := a2) dX11_soonest_2 rfl ?_
  refine E_iconst 0 dX11_soonest_3 ic_0 ?_
  refine E_iconst 0 dX11_soonest_4 ic_0 ?_
  obtain ⟨r2, hc1, hf⟩ := bd_some hf
  try dsimp only at hf
  refine E_callSi (rest := []) cs_RX11_132 dX11_soonest_5 (MX11_isJob hc1) rfl rfl rfl (fun _ => Nat.le_of_ble_eq_true rfl) ?_
  refine E_if_ne 13 dX11_soonest_8 (by decide) (fun hc3 => ?_) (fun hc3 => ?_)
  · rw [if_pos hc3] at hf
    refine E_iconst (-1) dX11_soonest_11 ic_m1 ?_
    obtain ⟨rfl, rfl⟩ := ret2 hf
    exact E.done (by rw [eQ]; exact ⟨rfl, Or.inl ⟨_, _, rfl, rfl, dX11_soonest_12, rfl, rfl⟩⟩)
  · rw [if_neg hc3] at hf
    refine E_aload_n (v := 0) dX11_soonest_13 rfl ?_
    refine E_getR fg_RX11_10 dX11_soonest_14 sC_0 rfl rC_0_0 (Nat.succ_ne_zero _) ?_
    refine E_getR fg_RX11_130 dX11_soonest_17 sC_1 rfl rC_1_0 (Nat.succ_ne_zero _) ?_
    refine E_getI fg_RX11_131 dX11_soonest_20 sC_2 rfl ?_
    refine E_bipush 6 dX11_soonest_23 bp_6 ?_
    refine E_icmp_lt 31 dX11_soonest_25 (by decide) (fun hc4 => ?_) (fun hc4 => ?_)
    · rw [if_pos hc4] at hf
      refine E_aload_n (v := 0) dX11_soonest_31 rfl ?_
      refine E_getR fg_RX11_43 dX11_soonest_32 sC_0 rfl rC_0_6 (Nat.succ_ne_zero _) ?_
      refine E_aload_n (v := 0) dX11_soonest_35 rfl ?_
      refine E_getR fg_RX11_10 dX11_soonest_36 sC_0 rfl rC_0_0 (Nat.succ_ne_zero _) ?_
      refine E_iconst 0 dX11_soonest_39 ic_0 ?_
      obtain ⟨w6, hc5, hf⟩ := bd_some hf
      try dsimp only at hf
      refine E_callVv (rest := []) (ci := 3) cv_RX11_208 dX11_soonest_40 (MX3_measure B_is1 hc5) rfl sC_46 rfl (by decide) rfl rfl (fun _ => Nat.le_of_ble_eq_true rfl) ?_
      refine E_aload_n (v := 0) dX11_soonest_43 rfl ?_
      refine E_getR fg_RX11_82 dX11_soonest_44 sC_0 rfl rC_0_11 (Nat.succ_ne_zero _) ?_
      refine E_aload_n (v := 0) dX11_soonest_47 rfl ?_
      refine E_getR fg_RX11_10 dX11_soonest_48 sC_0 rfl rC_0_0 (Nat.succ_ne_zero _) ?_
      refine E_getR fg_RX11_130 dX11_soonest_51 sC_1 rfl rC_1_0 (Nat.succ_ne_zero _) ?_
      obtain ⟨w8, hc7, hf⟩ := bd_some hf
      try dsimp only at hf
      refine E_callVv (rest := []) (ci := 4) cv_RX11_227 dX11_soonest_54 (MX4_copy J_is61 J_is2 hc7) rfl sC_61 rfl (by decide) rfl rfl (fun _ => Nat.le_of_ble_eq_true rfl) ?_
      refine E_aload_n (v := 0) dX11_soonest_57 rfl ?_
      refine E_getR fg_RX11_82 dX11_soonest_58 sC_0 rfl rC_0_11 (Nat.succ_ne_zero _) ?_
      refine E_iload_n (v := a0) dX11_soonest_61 rfl ?_
      refine E_iload_n (v := a1) dX11_soonest_62 rfl ?_
      refine E_iload_n (v := a2) dX11_soonest_63 rfl ?_
      refine E_bipush 60 dX11_soonest_64 bp_60 ?_
      refine E_iconst 0 dX11_soonest_66 ic_0 ?_
      obtain ⟨w10, hc9, hf⟩ := bd_some hf
      try dsimp only at hf
      refine E_callVv (rest := []) (ci := 4) cv_RX11_231 dX11_soonest_67 (MX4_add J_is61 hc9) rfl sC_61 rfl (by decide) rfl rfl (fun _ => Nat.le_of_ble_eq_true rfl) ?_
      refine E_aload_n (v := 0) dX11_soonest_70 rfl ?_
      refine E_getR fg_RX11_52 dX11_soonest_71 sC_0 rfl rC_0_7 (Nat.succ_ne_zero _) ?_
      refine E_aload_n (v := 0) dX11_soonest_74 rfl ?_
      refine E_getR fg_RX11_82 dX11_soonest_75 sC_0 rfl rC_0_11 (Nat.succ_ne_zero _) ?_
      obtain ⟨r12, w13, hc11, hf⟩ := bd2_some hf
      try dsimp only at hf
      refine E_callVi (rest := []) (ci := 5) cv_RX11_235 dX11_soonest_78 (MX5_soonestEnd J_is61 hc11) rfl sC_49 rfl (by decide) rfl rfl (fun _ => Nat.le_of_ble_eq_true rfl) ?_
      refine E_istore (ls' := [some (.ref 0), some (.int a0), some (.int a1), some (.int a2), some (.int r12)]) dX11_soonest_81 rfl rfl rfl ?_
      refine E_iload (v := r12) dX11_soonest_83 rfl ?_
      refine E_bipush 60 dX11_soonest_85 bp_60 ?_
      refine E_icmp_gt 95 dX11_soonest_87 (by decide) (fun hc15 => ?_) (fun hc15 => ?_)
      · rw [if_pos hc15] at hf
        refine E_bipush (-3) dX11_soonest_95 bp_m3 ?_
        obtain ⟨rfl, rfl⟩ := ret2 hf
        exact E.done (by rw [eQ]; exact ⟨rfl, Or.inl ⟨_, _, rfl, rfl, dX11_soonest_97, rfl, rfl⟩⟩)
      · rw [if_neg hc15] at hf
        refine E_iload (v := r12) dX11_soonest_90 rfl ?_
        refine E_goto 97 dX11_soonest_92 (by decide) ?_
        obtain ⟨rfl, rfl⟩ := ret2 hf
        exact E.done (by rw [eQ]; exact ⟨rfl, Or.inl ⟨_, _, rfl, rfl, dX11_soonest_97, rfl, rfl⟩⟩)
    · rw [if_neg hc4] at hf
      refine E_bipush (-2) dX11_soonest_28 bp_m2 ?_
      obtain ⟨rfl, rfl⟩ := ret2 hf
      exact E.done (by rw [eQ]; exact ⟨rfl, Or.inl ⟨_, _, rfl, rfl, dX11_soonest_30, rfl, rfl⟩⟩)
set_option maxRecDepth 10000 in
set_option maxHeartbeats 2000000 in
theorem MX2_sureOf {N : Nat} {o0 : Nat} {r1 : Nat} {w : AW} {rZ : Int32} {wZ : AW} (ho0 : isJ o0) (hr1 : PC.1[r1]? = some 106) (hf : fX2_sureOf N o0 r1 w = some (rZ, wZ)) : CallOK PC yX2_sureOf cX2_sureOf 5 (some .int) 4 [.ref 52, .ref o0, .ref r1] w (some (.int rZ)) wZ := by
  refine CallOK.of (ls := [some (.ref 52), some (.ref o0), some (.ref r1), none, none]) (by decide) (by simp) rfl rfl ?_
  obtain ⟨Q, eQ⟩ : ∃ Q, Q = Qret cX2_sureOf (some .int) (some (.int rZ)) wZ := ⟨_, rfl⟩
  rw [← eQ]
  unfold fX2_sureOf at hf
  refine E_aload_n (v := 52) dX2_sureOf_0 rfl ?_
  refine E_iconst 0 dX2_sureOf_1 ic_0 ?_
  obtain ⟨w2, hc1, hf⟩ := bd_some hf
  try dsimp only at hf
  refine E_callVv (rest := []) (ci := 2) cv_RX2_42 dX2_sureOf_2 (MX2_begin hc1) rfl sC_52 rfl (by decide) rfl rfl (fun _ => Nat.le_of_ble_eq_true rfl) ?_
  refine E_iconst 1 dX2_sureOf_5 ic_1 ?_
  refine E_istore_n (ls' := [some (.ref 52), some (.ref o0), some (.ref r1), some (.int 1), none]) dX2_sureOf_6 rfl rfl rfl ?_
  refine E_iconst 0 dX2_sureOf_7 ic_0 ?_
  refine E_istore (ls' := [some (.ref 52), some (.ref o0), some (.ref r1), some (.int 1), some (.int 0)]) dX2_sureOf_8 rfl rfl rfl ?_
  obtain ⟨q, hw17, hf⟩ := bd_some hf
  try dsimp only at hf
  show (fun (s : Int32 × Int32 × AW) => E PC RX2 cX2_sureOf 5 4 10 [some (.ref 52), some (.ref o0), some (.ref r1), some (.int s.1), some (.int s.2.1)] [] s.2.2 Q) (1, 0, w2)
  refine wh_E (K := (fun (s : Int32 × Int32 × AW) => E PC RX2 cX2_sureOf 5 4 10 [some (.ref 52), some (.ref o0), some (.ref r1), some (.int s.1), some (.int s.2.1)] [] s.2.2 Q)) (X := (fun (s : Int32 × AW) => E PC RX2 cX2_sureOf 5 4 57 [none, none, none, some (.int s.1), none] [] s.2 Q)) ?_ hw17 ?_
  · intro s9 z9 hf k9
    obtain ⟨x3_10_1, x4_10_1, w_10_1⟩ := s9
    dsimp only [lbX2_sureOf_10_1] at hf
    show E PC RX2 cX2_sureOf 5 4 10 [some (.ref 52), some (.ref o0), some (.ref r1), some (.int x3_10_1), some (.int x4_10_1)] [] w_10_1 Q
    refine E_iload (v := x4_10_1) dX2_sureOf_10 rfl ?_
    refine E_aload_n (v := o0) dX2_sureOf_12 rfl ?_
    refine E_getI fg_RX2_46 dX2_sureOf_13 (J_s0 ho0) rfl ?_
    refine E_icmp_ge 57 dX2_sureOf_16 (by decide) (fun hc3 => ?_) (fun hc3 => ?_)
    · rw [if_pos hc3] at hf
      obtain rfl := Option.some.inj hf
      refine E.fewer (ls' := [none, none, none, some (.int x3_10_1), none]) ⟨Or.inl rfl, ⟨Or.inl rfl, ⟨Or.inl rfl, ⟨Or.inr rfl, ⟨Or.inl rfl, trivial⟩⟩⟩⟩⟩ ?_
      exact k9
    · rw [if_neg hc3] at hf
      refine E_aload_n (v := 52) dX2_sureOf_19 rfl ?_
      refine E_aload_n (v := o0) dX2_sureOf_20 rfl ?_
      refine E_iload (v := x4_10_1) dX2_sureOf_21 rfl ?_
      refine E_iload (v := x4_10_1) dX2_sureOf_23 rfl ?_
      refine E_if_ne 32 dX2_sureOf_25 (by decide) (fun hc4 => ?_) (fun hc4 => ?_)
      · rw [if_pos hc4] at hf
        refine E_iconst 0 dX2_sureOf_28 ic_0 ?_
        refine E_goto 43 dX2_sureOf_29 (by decide) ?_
        refine E_aload_n (v := r1) dX2_sureOf_43 rfl ?_
        refine E_iload (v := x4_10_1) dX2_sureOf_44 rfl ?_
        obtain ⟨hi5, hf⟩ := gd_some hf
        refine E_iald (n := 6) dX2_sureOf_46 hr1 (by decide) (inb_in hi5) ?_
        obtain ⟨r7, w8, hc6, hf⟩ := bd2_some hf
        try dsimp only at hf
        refine E_callVi (rest := []) (ci := 2) cv_RX2_54 dX2_sureOf_47 (MX2_spread ho0 hc6) rfl sC_52 rfl (by decide) rfl rfl (fun _ => Nat.le_of_ble_eq_true rfl) ?_
        refine E_istore_n (ls' := [some (.ref 52), some (.ref o0), some (.ref r1), some (.int r7), some (.int x4_10_1)]) dX2_sureOf_50 rfl rfl rfl ?_
        refine E_iinc (ls' := [some (.ref 52), some (.ref o0), some (.ref r1), some (.int r7), some (.int (x4_10_1 + 1))]) 1 dX2_sureOf_51 rfl ic_1 rfl rfl rfl ?_
        refine E_goto 10 dX2_sureOf_54 (by decide) ?_
        obtain rfl := Option.some.inj hf
        exact k9
      · rw [if_neg hc4] at hf
        refine E_aload_n (v := o0) dX2_sureOf_32 rfl ?_
        refine E_getR fg_RX2_51 dX2_sureOf_33 (J_s0 ho0) rfl (J_r0_3 ho0) (Nat.succ_ne_zero _) ?_
        refine E_aload_n (v := r1) dX2_sureOf_36 rfl ?_
        refine E_iload (v := x4_10_1) dX2_sureOf_37 rfl ?_
        refine E_iconst 1 dX2_sureOf_39 ic_1 ?_
        refine E_isub dX2_sureOf_40 ?_
        obtain ⟨hi10, hf⟩ := gd_some hf
        refine E_iald (n := 6) dX2_sureOf_41 hr1 (by decide) (inb_in hi10) ?_
        obtain ⟨hi11, hf⟩ := gd_some hf
        refine E_iald (n := 6) dX2_sureOf_42 (J_s3 ho0) (by decide) (inb_in hi11) ?_
        refine E_aload_n (v := r1) dX2_sureOf_43 rfl ?_
        refine E_iload (v := x4_10_1) dX2_sureOf_44 rfl ?_
        obtain ⟨hi12, hf⟩ := gd_some hf
        refine E_iald (n := 6) dX2_sureOf_46 hr1 (by decide) (inb_in hi12) ?_
        obtain ⟨r14, w15, hc13, hf⟩ := bd2_some hf
        try dsimp only at hf
        refine E_callVi (rest := []) (ci := 2) cv_RX2_54 dX2_sureOf_47 (MX2_spread ho0 hc13) rfl sC_52 rfl (by decide) rfl rfl (fun _ => Nat.le_of_ble_eq_true rfl) ?_
        refine E_istore_n (ls' := [some (.ref 52), some (.ref o0), some (.ref r1), some (.int r14), some (.int x4_10_1)]) dX2_sureOf_50 rfl rfl rfl ?_
        refine E_iinc (ls' := [some (.ref 52), some (.ref o0), some (.ref r1), some (.int r14), some (.int (x4_10_1 + 1))]) 1 dX2_sureOf_51 rfl ic_1 rfl rfl rfl ?_
        refine E_goto 10 dX2_sureOf_54 (by decide) ?_
        obtain rfl := Option.some.inj hf
        exact k9
  · skip
    obtain ⟨y18, w19⟩ := q
    try dsimp only at hf
    show E PC RX2 cX2_sureOf 5 4 57 [none, none, none, some (.int y18), none] [] w19 Q
    refine E_iload_n (v := y18) dX2_sureOf_57 rfl ?_
    obtain ⟨rfl, rfl⟩ := ret2 hf
    exact E.done (by rw [eQ]; exact ⟨rfl, Or.inl ⟨_, _, rfl, rfl, dX2_sureOf_58, rfl, rfl⟩⟩)
