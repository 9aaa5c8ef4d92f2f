variable {S : SC}
set_option maxRecDepth 10000 in
set_option maxHeartbeats 2000000 in
theorem MX2_meanOf {N : Nat} {o0 : Nat} {r1 : Nat} {w : AW} {rZ : Int32} {wZ : AW} (ho0 : isJ o0) (hr1 : (PC S).1[r1]? = some 106) (hf : fX2_meanOf N o0 r1 w = some (rZ, wZ)) : CallOK (PC S) yX2_meanOf cX2_meanOf 5 (some .int) 4 [.ref 52, .ref o0, .ref r1] w (some (.int rZ)) wZ := by
  refine CallOK.of (ls := [some (.ref 52), some (.ref o0), some (.ref r1), none, none]) (by decide) (by simp) rfl rfl ?_
  obtain ⟨Q, eQ⟩ : ∃ Q, Q = Qret cX2_meanOf (some .int) (some (.int rZ)) wZ := ⟨_, rfl⟩
  rw [← eQ]
  unfold fX2_meanOf at hf
  refine E_aload_n (v := 52) dX2_meanOf_0 rfl ?_
  refine E_iconst 1 dX2_meanOf_1 ic_1 ?_
  obtain ⟨w2, hc1, hf⟩ := bd_some hf
  try dsimp only at hf
  refine E_callVv (rest := []) (ci := 2) cv_RX2_42 dX2_meanOf_2 (MX2_begin hc1) rfl sC_52 rfl (by decide) rfl rfl (fun _ => Nat.le_of_ble_eq_true rfl) ?_
  refine E_iconst 0 dX2_meanOf_5 ic_0 ?_
  refine E_istore_n (ls' := [some (.ref 52), some (.ref o0), some (.ref r1), some (.int 0), none]) dX2_meanOf_6 rfl rfl rfl ?_
  refine E_iconst 0 dX2_meanOf_7 ic_0 ?_
  refine E_istore (ls' := [some (.ref 52), some (.ref o0), some (.ref r1), some (.int 0), some (.int 0)]) dX2_meanOf_8 rfl rfl rfl ?_
  obtain ⟨q, hw17, hf⟩ := bd_some hf
  try dsimp only at hf
  show (fun (s : Int32 × Int32 × AW) => E (PC S) RX2 cX2_meanOf 5 4 10 [some (.ref 52), some (.ref o0), some (.ref r1), some (.int s.1), some (.int s.2.1)] [] s.2.2 Q) (0, 0, w2)
  refine wh_E (K := (fun (s : Int32 × Int32 × AW) => E (PC S) RX2 cX2_meanOf 5 4 10 [some (.ref 52), some (.ref o0), some (.ref r1), some (.int s.1), some (.int s.2.1)] [] s.2.2 Q)) (X := (fun (s : Int32 × AW) => E (PC S) RX2 cX2_meanOf 5 4 66 [none, none, none, some (.int s.1), none] [] s.2 Q)) ?_ hw17 ?_
  · intro s9 z9 hf k9
    obtain ⟨x3_10_1, x4_10_1, w_10_1⟩ := s9
    dsimp only [lbX2_meanOf_10_1] at hf
    show E (PC S) RX2 cX2_meanOf 5 4 10 [some (.ref 52), some (.ref o0), some (.ref r1), some (.int x3_10_1), some (.int x4_10_1)] [] w_10_1 Q
    refine E_iload (v := x4_10_1) dX2_meanOf_10 rfl ?_
    refine E_aload_n (v := o0) dX2_meanOf_12 rfl ?_
    refine E_getI fg_RX2_46 dX2_meanOf_13 (J_s0 ho0) rfl ?_
    refine E_icmp_ge 66 dX2_meanOf_16 (by decide) (fun hc3 => ?_) (fun hc3 => ?_)
    · rw [if_pos hc3] at hf
      obtain rfl := Option.some.inj hf
      refine E.fewer (ls' := [none, none, none, some (.int x3_10_1), none]) ⟨Or.inl rfl, ⟨Or.inl rfl, ⟨Or.inl rfl, ⟨Or.inr rfl, ⟨Or.inl rfl, trivial⟩⟩⟩⟩⟩ ?_
      exact k9
    · rw [if_neg hc3] at hf
      refine E_aload_n (v := 52) dX2_meanOf_19 rfl ?_
      refine E_aload_n (v := o0) dX2_meanOf_20 rfl ?_
      refine E_iload (v := x4_10_1) dX2_meanOf_21 rfl ?_
      refine E_iload (v := x4_10_1) dX2_meanOf_23 rfl ?_
      refine E_if_ne 32 dX2_meanOf_25 (by decide) (fun hc4 => ?_) (fun hc4 => ?_)
      · rw [if_pos hc4] at hf
        refine E_iconst 0 dX2_meanOf_28 ic_0 ?_
        refine E_goto 43 dX2_meanOf_29 (by decide) ?_
        refine E_aload_n (v := r1) dX2_meanOf_43 rfl ?_
        refine E_iload (v := x4_10_1) dX2_meanOf_44 rfl ?_
        obtain ⟨hi5, hf⟩ := gd_some hf
        refine E_iald (n := 6) dX2_meanOf_46 hr1 (by decide) (inb_in hi5) ?_
        obtain ⟨r7, w8, hc6, hf⟩ := bd2_some hf
        try dsimp only at hf
        refine E_callVi (rest := []) (ci := 2) cv_RX2_54 dX2_meanOf_47 (MX2_spread ho0 hc6) rfl sC_52 rfl (by decide) rfl rfl (fun _ => Nat.le_of_ble_eq_true rfl) ?_
        refine E_pop_i dX2_meanOf_50 ?_
        refine E_iload_n (v := x3_10_1) dX2_meanOf_51 rfl ?_
        refine E_iconst 4 dX2_meanOf_52 ic_4 ?_
        refine E_imul dX2_meanOf_53 ?_
        refine E_aload_n (v := 52) dX2_meanOf_54 rfl ?_
        refine E_getI fg_RX2_31 dX2_meanOf_55 sC_52 rfl ?_
        refine E_iadd dX2_meanOf_58 ?_
        refine E_istore_n (ls' := [some (.ref 52), some (.ref o0), some (.ref r1), some (.int ((x3_10_1 * 4) + (w8.1 52 7))), some (.int x4_10_1)]) dX2_meanOf_59 rfl rfl rfl ?_
        refine E_iinc (ls' := [some (.ref 52), some (.ref o0), some (.ref r1), some (.int ((x3_10_1 * 4) + (w8.1 52 7))), some (.int (x4_10_1 + 1))]) 1 dX2_meanOf_60 rfl ic_1 rfl rfl rfl ?_
        refine E_goto 10 dX2_meanOf_63 (by decide) ?_
        obtain rfl := Option.some.inj hf
        exact k9
      · rw [if_neg hc4] at hf
        refine E_aload_n (v := o0) dX2_meanOf_32 rfl ?_
        refine E_getR fg_RX2_51 dX2_meanOf_33 (J_s0 ho0) rfl (J_r0_3 ho0) (Nat.succ_ne_zero _) ?_
        refine E_aload_n (v := r1) dX2_meanOf_36 rfl ?_
        refine E_iload (v := x4_10_1) dX2_meanOf_37 rfl ?_
        refine E_iconst 1 dX2_meanOf_39 ic_1 ?_
        refine E_isub dX2_meanOf_40 ?_
        obtain ⟨hi10, hf⟩ := gd_some hf
        refine E_iald (n := 6) dX2_meanOf_41 hr1 (by decide) (inb_in hi10) ?_
        obtain ⟨hi11, hf⟩ := gd_some hf
        refine E_iald (n := 6) dX2_meanOf_42 (J_s3 ho0) (by decide) (inb_in hi11) ?_
        refine E_aload_n (v := r1) dX2_meanOf_43 rfl ?_
        refine E_iload (v := x4_10_1) dX2_meanOf_44 rfl ?_
        obtain ⟨hi12, hf⟩ := gd_some hf
        refine E_iald (n := 6) dX2_meanOf_46 hr1 (by decide) (inb_in hi12) ?_
        obtain ⟨r14, w15, hc13, hf⟩ := bd2_some hf
        try dsimp only at hf
        refine E_callVi (rest := []) (ci := 2) cv_RX2_54 dX2_meanOf_47 (MX2_spread ho0 hc13) rfl sC_52 rfl (by decide) rfl rfl (fun _ => Nat.le_of_ble_eq_true rfl) ?_
        refine E_pop_i dX2_meanOf_50 ?_
        refine E_iload_n (v := x3_10_1) dX2_meanOf_51 rfl ?_
        refine E_iconst 4 dX2_meanOf_52 ic_4 ?_
        refine E_imul dX2_meanOf_53 ?_
        refine E_aload_n (v := 52) dX2_meanOf_54 rfl ?_
        refine E_getI fg_RX2_31 dX2_meanOf_55 sC_52 rfl ?_
        refine E_iadd dX2_meanOf_58 ?_
        refine E_istore_n (ls' := [some (.ref 52), some (.ref o0), some (.ref r1), some (.int ((x3_10_1 * 4) + (w15.1 52 7))), some (.int x4_10_1)]) dX2_meanOf_59 rfl rfl rfl ?_
        refine E_iinc (ls' := [some (.ref 52), some (.ref o0), some (.ref r1), some (.int ((x3_10_1 * 4) + (w15.1 52 7))), some (.int (x4_10_1 + 1))]) 1 dX2_meanOf_60 rfl ic_1 rfl rfl rfl ?_
        refine E_goto 10 dX2_meanOf_63 (by decide) ?_
        obtain rfl := Option.some.inj hf
        exact k9
  · skip
    obtain ⟨y18, w19⟩ := q
    try dsimp only at hf
    show E (PC S) RX2 cX2_meanOf 5 4 66 [none, none, none, some (.int y18), none] [] w19 Q
    refine E_iload_n (v := y18) dX2_meanOf_66 rfl ?_
    obtain ⟨rfl, rfl⟩ := ret2 hf
    exact E.done (by rw [eQ]; exact ⟨rfl, Or.inl ⟨_, _, rfl, rfl, dX2_meanOf_67, rfl, rfl⟩⟩)
set_option maxRecDepth 10000 in
set_option maxHeartbeats 2000000 in
theorem MX11_mean {N : Nat} {a0 : Int32} {w : AW} {rZ : Int32} {wZ : AW} (hf : fX11_mean N a0 w = some (rZ, wZ)) : CallOK (PC S) yX11_mean cX11_mean 2 (some .int) 5 [.ref 0, .int a0] w (some (.int rZ)) wZ := by
  refine CallOK.of (ls := [some (.ref 0), some (.int a0)]) (by decide) (by simp) rfl rfl ?_
  obtain ⟨Q, eQ⟩ : ∃ Q, Q = Qret cX11_mean (some .int) (some (.int rZ)) wZ := ⟨_, rfl⟩
  rw [← eQ]
  unfold fX11_mean at hf
  refine E_iload_n (v := a0) dX11_mean_0 rfl ?_
  refine E_iconst 0 dX11_mean_1 ic_0 ?_
  refine E_iconst 1 dX11_mean_2 ic_1 ?_
  obtain ⟨r2, hc1, hf⟩ := bd_some hf
  try dsimp only at hf
  refine E_callSi (rest := []) cs_RX11_100 dX11_mean_3 (MX11_within hc1) rfl rfl rfl (fun _ => Nat.le_of_ble_eq_true rfl) ?_
  refine E_if_ne 12 dX11_mean_6 (by decide) (fun hc3 => ?_) (fun hc3 => ?_)
  · rw [if_pos hc3] at hf
    refine E_ldc (-2147483648) dX11_mean_9 wk_RX11_207 ?_
    obtain ⟨rfl, rfl⟩ := ret2 hf
    exact E.done (by rw [eQ]; exact ⟨rfl, Or.inl ⟨_, _, rfl, rfl, dX11_mean_11, rfl, rfl⟩⟩)
  · rw [if_neg hc3] at hf
    refine E_aload_n (v := 0) dX11_mean_12 rfl ?_
    refine E_getR fg_RX11_43 dX11_mean_13 sC_0 rfl rC_0_6 (Nat.succ_ne_zero _) ?_
    refine E_aload_n (v := 0) dX11_mean_16 rfl ?_
    refine E_getR fg_RX11_10 dX11_mean_17 sC_0 rfl rC_0_0 (Nat.succ_ne_zero _) ?_
    refine E_iconst 0 dX11_mean_20 ic_0 ?_
    obtain ⟨w5, hc4, hf⟩ := bd_some hf
    try dsimp only at hf
    refine E_callVv (rest := []) (ci := 3) cv_RX11_208 dX11_mean_21 (MX3_measure B_is1 hc4) rfl sC_46 rfl (by decide) rfl rfl (fun _ => Nat.le_of_ble_eq_true rfl) ?_
    refine E_aload_n (v := 0) dX11_mean_24 rfl ?_
    refine E_getR fg_RX11_59 dX11_mean_25 sC_0 rfl rC_0_8 (Nat.succ_ne_zero _) ?_
    refine E_aload_n (v := 0) dX11_mean_28 rfl ?_
    refine E_getR fg_RX11_10 dX11_mean_29 sC_0 rfl rC_0_0 (Nat.succ_ne_zero _) ?_
    refine E_getR fg_RX11_130 dX11_mean_32 sC_1 rfl rC_1_0 (Nat.succ_ne_zero _) ?_
    refine E_aload_n (v := 0) dX11_mean_35 rfl ?_
    refine E_getR fg_RX11_10 dX11_mean_36 sC_0 rfl rC_0_0 (Nat.succ_ne_zero _) ?_
    refine E_getR fg_RX11_183 dX11_mean_39 sC_1 rfl rC_1_4 (Nat.succ_ne_zero _) ?_
    obtain ⟨r7, w8, hc6, hf⟩ := bd2_some hf
    try dsimp only at hf
    refine E_callVi (rest := []) (ci := 2) cv_RX11_249 dX11_mean_42 (MX2_meanOf J_is2 sC_11 hc6) rfl sC_52 rfl (by decide) rfl rfl (fun _ => Nat.le_of_ble_eq_true rfl) ?_
    refine E_iconst 2 dX11_mean_45 ic_2 ?_
    refine E_aload_n (v := 0) dX11_mean_46 rfl ?_
    refine E_getR fg_RX11_10 dX11_mean_47 sC_0 rfl rC_0_0 (Nat.succ_ne_zero _) ?_
    refine E_getR fg_RX11_130 dX11_mean_50 sC_1 rfl rC_1_0 (Nat.succ_ne_zero _) ?_
    refine E_getI fg_RX11_131 dX11_mean_53 sC_2 rfl ?_
    refine E_imul dX11_mean_56 ?_
    refine E_iload_n (v := a0) dX11_mean_57 rfl ?_
    obtain ⟨r11, hc10, hf⟩ := bd_some hf
    try dsimp only at hf
    refine E_callSi (rest := []) cs_RX11_242 dX11_mean_58 (MX11_partOf hc10) rfl rfl rfl (fun _ => Nat.le_of_ble_eq_true rfl) ?_
    obtain ⟨rfl, rfl⟩ := ret2 hf
    exact E.done (by rw [eQ]; exact ⟨rfl, Or.inl ⟨_, _, rfl, rfl, dX11_mean_61, rfl, rfl⟩⟩)
set_option maxRecDepth 10000 in
set_option maxHeartbeats 2000000 in
theorem MX11_night {a0 : Int32} {a1 : Int32} {w : AW} {rZ : Int32} {wZ : AW} (hf : fX11_night a0 a1 w = some (rZ, wZ)) : CallOK (PC S) yX11_night cX11_night 4 (some .int) 2 [.ref 0, .int a0, .int a1] w (some (.int rZ)) wZ := by
  refine CallOK.of (ls := [some (.ref 0), some (.int a0), some (.int a1), none]) (by decide) (by simp) rfl rfl ?_
  obtain ⟨Q, eQ⟩ : ∃ Q, Q = Qret cX11_night (some .int) (some (.int rZ)) wZ := ⟨_, rfl⟩
  rw [← eQ]
  unfold fX11_night at hf
  refine E_iload_n (v := a0) dX11_night_0 rfl ?_
  refine E_iconst 0 dX11_night_1 ic_0 ?_
  refine E_bipush 60 dX11_night_2 bp_60 ?_
  obtain ⟨r2, hc1, hf⟩ := bd_some hf
  try dsimp only at hf
  refine E_callSi (rest := []) cs_RX11_100 dX11_night_4 (MX11_within hc1) rfl rfl rfl (fun _ => Nat.le_of_ble_eq_true rfl) ?_
  refine E_if_eq 20 dX11_night_7 (by decide) (fun hc3 => ?_) (fun hc3 => ?_)
  · rw [if_pos hc3] at hf
    refine E_iconst (-1) dX11_night_20 ic_m1 ?_
    obtain ⟨rfl, rfl⟩ := ret2 hf
    exact E.done (by rw [eQ]; exact ⟨rfl, Or.inl ⟨_, _, rfl, rfl, dX11_night_21, rfl, rfl⟩⟩)
  · rw [if_neg hc3] at hf
    refine E_iload_n (v := a1) dX11_night_10 rfl ?_
    refine E_iconst 0 dX11_night_11 ic_0 ?_
    refine E_bipush 9 dX11_night_12 bp_9 ?_
    obtain ⟨r5, hc4, hf⟩ := bd_some hf
    try dsimp only at hf
    refine E_callSi (rest := []) cs_RX11_100 dX11_night_14 (MX11_within hc4) rfl rfl rfl (fun _ => Nat.le_of_ble_eq_true rfl) ?_
    refine E_if_ne 22 dX11_night_17 (by decide) (fun hc6 => ?_) (fun hc6 => ?_)
    · rw [if_pos hc6] at hf
      refine E_iconst (-1) dX11_night_20 ic_m1 ?_
      obtain ⟨rfl, rfl⟩ := ret2 hf
      exact E.done (by rw [eQ]; exact ⟨rfl, Or.inl ⟨_, _, rfl, rfl, dX11_night_21, rfl, rfl⟩⟩)
    · rw [if_neg hc6] at hf
      refine E_aload_n (v := 0) dX11_night_22 rfl ?_
      refine E_getR fg_RX11_10 dX11_night_23 sC_0 rfl rC_0_0 (Nat.succ_ne_zero _) ?_
      refine E_getR fg_RX11_173 dX11_night_26 sC_1 rfl rC_1_3 (Nat.succ_ne_zero _) ?_
      refine E_iload_n (v := a0) dX11_night_29 rfl ?_
      obtain ⟨hi7, hf⟩ := gd_some hf
      refine E_iald (n := 61) dX11_night_30 sC_10 (by decide) (inb_in hi7) ?_
      refine E_istore_n (ls' := [some (.ref 0), some (.int a0), some (.int a1), some (.int (w.1 10 a0.toNatClampNeg))]) dX11_night_31 rfl rfl rfl ?_
      refine E_aload_n (v := 0) dX11_night_32 rfl ?_
      refine E_getR fg_RX11_10 dX11_night_33 sC_0 rfl rC_0_0 (Nat.succ_ne_zero _) ?_
      refine E_getR fg_RX11_173 dX11_night_36 sC_1 rfl rC_1_3 (Nat.succ_ne_zero _) ?_
      refine E_iload_n (v := a0) dX11_night_39 rfl ?_
      refine E_iload_n (v := a1) dX11_night_40 rfl ?_
      obtain ⟨w8, ew8, hf⟩ := lw_some hf
      try dsimp only at hf
      refine E_iast (n := 61) dX11_night_41 sC_10 (by decide) (inb_in hi7) ?_
      rw [← ew8]
      refine E_iload_n (v := (w.1 10 a0.toNatClampNeg)) dX11_night_42 rfl ?_
      obtain ⟨rfl, rfl⟩ := ret2 hf
      exact E.done (by rw [eQ]; exact ⟨rfl, Or.inl ⟨_, _, rfl, rfl, dX11_night_43, rfl, rfl⟩⟩)
set_option maxRecDepth 10000 in
set_option maxHeartbeats 2000000 in
theorem MX11_nights {N : Nat} {w : AW} {rZ : Int32} {wZ : AW} (hf : fX11_nights N w = some (rZ, wZ)) : CallOK (PC S) yX11_nights cX11_nights 2 (some .int) 14 [.ref 0] w (some (.int rZ)) wZ := by
  refine CallOK.of (ls := [some (.ref 0), none]) (by decide) (by simp) rfl rfl ?_
  obtain ⟨Q, eQ⟩ : ∃ Q, Q = Qret cX11_nights (some .int) (some (.int rZ)) wZ := ⟨_, rfl⟩
  rw [← eQ]
  unfold fX11_nights at hf
  refine E_iconst 0 dX11_nights_0 ic_0 ?_
  refine E_istore_n (ls' := [some (.ref 0), some (.int 0)]) dX11_nights_1 rfl rfl rfl ?_
  obtain ⟨q, hw9, hf⟩ := bd_some hf
  try dsimp only at hf
  show (fun (s : Int32 × AW) => E (PC S) RX11 cX11_nights 2 14 2 [some (.ref 0), some (.int s.1)] [] s.2 Q) (0, w)
  refine wh_E (K := (fun (s : Int32 × AW) => E (PC S) RX11 cX11_nights 2 14 2 [some (.ref 0), some (.int s.1)] [] s.2 Q)) (X := (se (fun (s : AW) => E (PC S) RX11 cX11_nights 2 14 45 [none, none] [] s Q) (fun (s : Int32 × AW) => E (PC S) RX11 cX11_nights 2 14 37 [none, some (.int s.1)] [] s.2 Q))) ?_ hw9 ?_
  · intro s9 z9 hf k9
    obtain ⟨x1_2_1, w_2_1⟩ := s9
    dsimp only [lbX11_nights_2_1] at hf
    show E (PC S) RX11 cX11_nights 2 14 2 [some (.ref 0), some (.int x1_2_1)] [] w_2_1 Q
    refine E_iload_n (v := x1_2_1) dX11_nights_2 rfl ?_
    refine E_bipush 9 dX11_nights_3 bp_9 ?_
    refine E_icmp_gt 45 dX11_nights_5 (by decide) (fun hc1 => ?_) (fun hc1 => ?_)
    · rw [if_pos hc1] at hf
      obtain rfl := Option.some.inj hf
      refine E.fewer (ls' := [none, none]) ⟨Or.inl rfl, ⟨Or.inl rfl, trivial⟩⟩ ?_
      exact k9
    · rw [if_neg hc1] at hf
      refine E_aload_n (v := 0) dX11_nights_8 rfl ?_
      refine E_getR fg_RX11_43 dX11_nights_9 sC_0 rfl rC_0_6 (Nat.succ_ne_zero _) ?_
      refine E_aload_n (v := 0) dX11_nights_12 rfl ?_
      refine E_getR fg_RX11_10 dX11_nights_13 sC_0 rfl rC_0_0 (Nat.succ_ne_zero _) ?_
      refine E_iload_n (v := x1_2_1) dX11_nights_16 rfl ?_
      obtain ⟨w3, hc2, hf⟩ := bd_some hf
      try dsimp only at hf
      refine E_callVv (rest := []) (ci := 3) cv_RX11_208 dX11_nights_17 (MX3_measure B_is1 hc2) rfl sC_46 rfl (by decide) rfl rfl (fun _ => Nat.le_of_ble_eq_true rfl) ?_
      refine E_aload_n (v := 0) dX11_nights_20 rfl ?_
      refine E_getR fg_RX11_52 dX11_nights_21 sC_0 rfl rC_0_7 (Nat.succ_ne_zero _) ?_
      refine E_aload_n (v := 0) dX11_nights_24 rfl ?_
      refine E_getR fg_RX11_10 dX11_nights_25 sC_0 rfl rC_0_0 (Nat.succ_ne_zero _) ?_
      refine E_getR fg_RX11_130 dX11_nights_28 sC_1 rfl rC_1_0 (Nat.succ_ne_zero _) ?_
      obtain ⟨r5, w6, hc4, hf⟩ := bd2_some hf
      try dsimp only at hf
      refine E_callVi (rest := []) (ci := 5) cv_RX11_223 dX11_nights_31 (MX5_fewestLate J_is2 hc4) rfl sC_49 rfl (by decide) rfl rfl (fun _ => Nat.le_of_ble_eq_true rfl) ?_
      refine E_if_ne 39 dX11_nights_34 (by decide) (fun hc8 => ?_) (fun hc8 => ?_)
      · rw [if_pos hc8] at hf
        obtain rfl := Option.some.inj hf
        refine E.fewer (ls' := [none, some (.int x1_2_1)]) ⟨Or.inl rfl, ⟨Or.inr rfl, trivial⟩⟩ ?_
        exact k9
      · rw [if_neg hc8] at hf
        refine E_iinc (ls' := [some (.ref 0), some (.int (x1_2_1 + 1))]) 1 dX11_nights_39 rfl ic_1 rfl rfl rfl ?_
        refine E_goto 2 dX11_nights_42 (by decide) ?_
        obtain rfl := Option.some.inj hf
        exact k9
  · skip
    rcases q with q | q
    · dsimp only [se] at hf
      obtain ⟨w10, hq9⟩ : ∃ a, a = q := ⟨_, rfl⟩
      subst hq9
      try dsimp only at hf
      show E (PC S) RX11 cX11_nights 2 14 45 [none, none] [] w10 Q
      refine E_bipush (-3) dX11_nights_45 bp_m3 ?_
      obtain ⟨rfl, rfl⟩ := ret2 hf
      exact E.done (by rw [eQ]; exact ⟨rfl, Or.inl ⟨_, _, rfl, rfl, dX11_nights_47, rfl, rfl⟩⟩)
    · dsimp only [se] at hf
      obtain ⟨y11, w12⟩ := q
      try dsimp only at hf
      show E (PC S) RX11 cX11_nights 2 14 37 [none, some (.int y11)] [] w12 Q
      refine E_iload_n (v := y11) dX11_nights_37 rfl ?_
      obtain ⟨rfl, rfl⟩ := ret2 hf
      exact E.done (by rw [eQ]; exact ⟨rfl, Or.inl ⟨_, _, rfl, rfl, dX11_nights_38, rfl, rfl⟩⟩)
set_option maxRecDepth 10000 in
set_option maxHeartbeats 2000000 in
theorem MX1_arrange {N : Nat} {b : Nat} {a0 : Int32} {w : AW} {rZ : Int32} {wZ : AW} (hb : isB b) (hf : fX1_arrange N b a0 w = some (rZ, wZ)) : CallOK (PC S) yX1_arrange cX1_arrange 4 (some .boolean) 1 [.ref b, .int a0] w (some (.int rZ)) wZ := by
  refine CallOK.of (ls := [some (.ref b), some (.int a0), none, none]) (by decide) (by simp) rfl rfl ?_
  obtain ⟨Q, eQ⟩ : ∃ Q, Q = Qret cX1_arrange (some .boolean) (some (.int rZ)) wZ := ⟨_, rfl⟩
  rw [← eQ]
  unfold fX1_arrange at hf
  refine E_iload_n (v := a0) dX1_arrange_0 rfl ?_
  refine E_if_lt 18 dX1_arrange_1 (by decide) (fun hc1 => ?_) (fun hc1 => ?_)
  · rw [if_pos hc1] at hf
    refine E_iconst 0 dX1_arrange_18 ic_0 ?_
    obtain ⟨rfl, rfl⟩ := ret2 hf
    exact E.done (by rw [eQ]; exact ⟨rfl, Or.inl ⟨_, _, rfl, rfl, dX1_arrange_19, rfl, rfl⟩⟩)
  · rw [if_neg hc1] at hf
    refine E_iload_n (v := a0) dX1_arrange_4 rfl ?_
    refine E_iconst 3 dX1_arrange_5 ic_3 ?_
    refine E_aload_n (v := b) dX1_arrange_6 rfl ?_
    refine E_getR fg_RX1_12 dX1_arrange_7 (B_s0 hb) rfl (B_r0_0 hb) (Nat.succ_ne_zero _) ?_
    refine E_getI fg_RX1_54 dX1_arrange_10 (B_s1 hb) rfl ?_
    refine E_imul dX1_arrange_13 ?_
    refine E_ishr dX1_arrange_14 ?_
    refine E_if_eq 20 dX1_arrange_15 (by decide) (fun hc2 => ?_) (fun hc2 => ?_)
    · rw [if_pos hc2] at hf
      refine E_iconst 0 dX1_arrange_20 ic_0 ?_
      refine E_istore_n (ls' := [some (.ref b), some (.int a0), some (.int 0), none]) dX1_arrange_21 rfl rfl rfl ?_
      refine E_iconst 0 dX1_arrange_22 ic_0 ?_
      refine E_istore_n (ls' := [some (.ref b), some (.int a0), some (.int 0), some (.int 0)]) dX1_arrange_23 rfl rfl rfl ?_
      obtain ⟨q, hw5, hf⟩ := bd_some hf
      try dsimp only at hf
      show (fun (s : Int32 × Int32) => E (PC S) RX1 cX1_arrange 4 1 24 [some (.ref b), some (.int a0), some (.int s.1), some (.int s.2)] [] w Q) (0, 0)
      refine wh_E (K := (fun (s : Int32 × Int32) => E (PC S) RX1 cX1_arrange 4 1 24 [some (.ref b), some (.int a0), some (.int s.1), some (.int s.2)] [] w Q)) (X := (fun (s : Int32) => E (PC S) RX1 cX1_arrange 4 1 54 [some (.ref b), some (.int a0), some (.int s), none] [] w Q)) ?_ hw5 ?_
      · intro s9 z9 hf k9
        obtain ⟨x2_24_1, x3_24_1⟩ := s9
        dsimp only [lbX1_arrange_24_1] at hf
        show E (PC S) RX1 cX1_arrange 4 1 24 [some (.ref b), some (.int a0), some (.int x2_24_1), some (.int x3_24_1)] [] w Q
        refine E_iload_n (v := x3_24_1) dX1_arrange_24 rfl ?_
        refine E_aload_n (v := b) dX1_arrange_25 rfl ?_
        refine E_getR fg_RX1_12 dX1_arrange_26 (B_s0 hb) rfl (B_r0_0 hb) (Nat.succ_ne_zero _) ?_
        refine E_getI fg_RX1_54 dX1_arrange_29 (B_s1 hb) rfl ?_
        refine E_icmp_ge 54 dX1_arrange_32 (by decide) (fun hc3 => ?_) (fun hc3 => ?_)
        · rw [if_pos hc3] at hf
          obtain rfl := Option.some.inj hf
          refine E.fewer (ls' := [some (.ref b), some (.int a0), some (.int x2_24_1), none]) ⟨Or.inr rfl, ⟨Or.inr rfl, ⟨Or.inr rfl, ⟨Or.inl rfl, trivial⟩⟩⟩⟩ ?_
          exact k9
        · rw [if_neg hc3] at hf
          refine E_iload_n (v := x2_24_1) dX1_arrange_35 rfl ?_
          refine E_iconst 1 dX1_arrange_36 ic_1 ?_
          refine E_iload_n (v := a0) dX1_arrange_37 rfl ?_
          refine E_iconst 3 dX1_arrange_38 ic_3 ?_
          refine E_iload_n (v := x3_24_1) dX1_arrange_39 rfl ?_
          refine E_imul dX1_arrange_40 ?_
          refine E_ishr dX1_arrange_41 ?_
          refine E_bipush 7 dX1_arrange_42 bp_7 ?_
          refine E_iand dX1_arrange_44 ?_
          refine E_ishl dX1_arrange_45 ?_
          refine E_ior dX1_arrange_46 ?_
          obtain ⟨v4, ev4, hf⟩ := lw_some hf
          try dsimp only at hf
          rw [← ev4]
          refine E_istore_n (ls' := [some (.ref b), some (.int a0), some (.int v4), some (.int x3_24_1)]) dX1_arrange_47 rfl rfl rfl ?_
          refine E_iinc (ls' := [some (.ref b), some (.int a0), some (.int v4), some (.int (x3_24_1 + 1))]) 1 dX1_arrange_48 rfl ic_1 rfl rfl rfl ?_
          refine E_goto 24 dX1_arrange_51 (by decide) ?_
          obtain rfl := Option.some.inj hf
          exact k9
      · skip
        obtain ⟨y6, hq9⟩ : ∃ a, a = q := ⟨_, rfl⟩
        subst hq9
        try dsimp only at hf
        show E (PC S) RX1 cX1_arrange 4 1 54 [some (.ref b), some (.int a0), some (.int y6), none] [] w Q
        refine E_iload_n (v := y6) dX1_arrange_54 rfl ?_
        refine E_iconst 1 dX1_arrange_55 ic_1 ?_
        refine E_aload_n (v := b) dX1_arrange_56 rfl ?_
        refine E_getR fg_RX1_12 dX1_arrange_57 (B_s0 hb) rfl (B_r0_0 hb) (Nat.succ_ne_zero _) ?_
        refine E_getI fg_RX1_54 dX1_arrange_60 (B_s1 hb) rfl ?_
        refine E_ishl dX1_arrange_63 ?_
        refine E_iconst 1 dX1_arrange_64 ic_1 ?_
        refine E_isub dX1_arrange_65 ?_
        refine E_icmp_eq 71 dX1_arrange_66 (by decide) (fun hc7 => ?_) (fun hc7 => ?_)
        · rw [if_pos hc7] at hf
          refine E_iconst 0 dX1_arrange_71 ic_0 ?_
          refine E_istore_n (ls' := [some (.ref b), some (.int a0), some (.int y6), some (.int 0)]) dX1_arrange_72 rfl rfl rfl ?_
          obtain ⟨q, hw11, hf⟩ := bd_some hf
          try dsimp only at hf
          refine E.fewer (ls' := [some (.ref b), some (.int a0), none, some (.int 0)]) ⟨Or.inr rfl, ⟨Or.inr rfl, ⟨Or.inl rfl, ⟨Or.inr rfl, trivial⟩⟩⟩⟩ ?_
          show (fun (s : Int32 × AW) => E (PC S) RX1 cX1_arrange 4 1 73 [some (.ref b), some (.int a0), none, some (.int s.1)] [] s.2 Q) (0, w)
          refine wh_E (K := (fun (s : Int32 × AW) => E (PC S) RX1 cX1_arrange 4 1 73 [some (.ref b), some (.int a0), none, some (.int s.1)] [] s.2 Q)) (X := (fun (s : AW) => E (PC S) RX1 cX1_arrange 4 1 104 [none, none, none, none] [] s Q)) ?_ hw11 ?_
          · intro s9 z9 hf k9
            obtain ⟨x3_73_2, w_73_2⟩ := s9
            dsimp only [lbX1_arrange_73_2] at hf
            show E (PC S) RX1 cX1_arrange 4 1 73 [some (.ref b), some (.int a0), none, some (.int x3_73_2)] [] w_73_2 Q
            refine E_iload_n (v := x3_73_2) dX1_arrange_73 rfl ?_
            refine E_aload_n (v := b) dX1_arrange_74 rfl ?_
            refine E_getR fg_RX1_12 dX1_arrange_75 (B_s0 hb) rfl (B_r0_0 hb) (Nat.succ_ne_zero _) ?_
            refine E_getI fg_RX1_54 dX1_arrange_78 (B_s1 hb) rfl ?_
            refine E_icmp_ge 104 dX1_arrange_81 (by decide) (fun hc8 => ?_) (fun hc8 => ?_)
            · rw [if_pos hc8] at hf
              obtain rfl := Option.some.inj hf
              refine E.fewer (ls' := [none, none, none, none]) ⟨Or.inl rfl, ⟨Or.inl rfl, ⟨Or.inl rfl, ⟨Or.inl rfl, trivial⟩⟩⟩⟩ ?_
              exact k9
            · rw [if_neg hc8] at hf
              refine E_aload_n (v := b) dX1_arrange_84 rfl ?_
              refine E_getR fg_RX1_28 dX1_arrange_85 (B_s0 hb) rfl (B_r0_4 hb) (Nat.succ_ne_zero _) ?_
              refine E_iload_n (v := x3_73_2) dX1_arrange_88 rfl ?_
              refine E_iload_n (v := a0) dX1_arrange_89 rfl ?_
              refine E_iconst 3 dX1_arrange_90 ic_3 ?_
              refine E_iload_n (v := x3_73_2) dX1_arrange_91 rfl ?_
              refine E_imul dX1_arrange_92 ?_
              refine E_ishr dX1_arrange_93 ?_
              refine E_bipush 7 dX1_arrange_94 bp_7 ?_
              refine E_iand dX1_arrange_96 ?_
              obtain ⟨hi9, hf⟩ := gd_some hf
              obtain ⟨w10, ew10, hf⟩ := lw_some hf
              try dsimp only at hf
              refine E_iast (n := 6) dX1_arrange_97 (B_s10 hb) (by decide) (inb_in hi9) ?_
              rw [← ew10]
              refine E_iinc (ls' := [some (.ref b), some (.int a0), none, some (.int (x3_73_2 + 1))]) 1 dX1_arrange_98 rfl ic_1 rfl rfl rfl ?_
              refine E_goto 73 dX1_arrange_101 (by decide) ?_
              obtain rfl := Option.some.inj hf
              exact k9
          · skip
            obtain ⟨w12, hq9⟩ : ∃ a, a = q := ⟨_, rfl⟩
            subst hq9
            try dsimp only at hf
            show E (PC S) RX1 cX1_arrange 4 1 104 [none, none, none, none] [] w12 Q
            refine E_iconst 1 dX1_arrange_104 ic_1 ?_
            obtain ⟨rfl, rfl⟩ := ret2 hf
            exact E.done (by rw [eQ]; exact ⟨rfl, Or.inl ⟨_, _, rfl, rfl, dX1_arrange_105, rfl, rfl⟩⟩)
        · rw [if_neg hc7] at hf
          refine E_iconst 0 dX1_arrange_69 ic_0 ?_
          obtain ⟨rfl, rfl⟩ := ret2 hf
          exact E.done (by rw [eQ]; exact ⟨rfl, Or.inl ⟨_, _, rfl, rfl, dX1_arrange_70, rfl, rfl⟩⟩)
    · rw [if_neg hc2] at hf
      refine E_iconst 0 dX1_arrange_18 ic_0 ?_
      obtain ⟨rfl, rfl⟩ := ret2 hf
      exact E.done (by rw [eQ]; exact ⟨rfl, Or.inl ⟨_, _, rfl, rfl, dX1_arrange_19, rfl, rfl⟩⟩)
set_option maxRecDepth 10000 in
set_option maxHeartbeats 2000000 in
theorem MX11_plan {N : Nat} {a0 : Int32} {w : AW} {rZ : Int32} {wZ : AW} (hf : fX11_plan N a0 w = some (rZ, wZ)) : CallOK (PC S) yX11_plan cX11_plan 2 (some .int) 2 [.ref 0, .int a0] w (some (.int rZ)) wZ := by
  refine CallOK.of (ls := [some (.ref 0), some (.int a0)]) (by decide) (by simp) rfl rfl ?_
  obtain ⟨Q, eQ⟩ : ∃ Q, Q = Qret cX11_plan (some .int) (some (.int rZ)) wZ := ⟨_, rfl⟩
  rw [← eQ]
  unfold fX11_plan at hf
  refine E_aload_n (v := 0) dX11_plan_0 rfl ?_
  refine E_getR fg_RX11_10 dX11_plan_1 sC_0 rfl rC_0_0 (Nat.succ_ne_zero _) ?_
  refine E_iload_n (v := a0) dX11_plan_4 rfl ?_
  obtain ⟨r2, w3, hc1, hf⟩ := bd2_some hf
  try dsimp only at hf
  refine E_callVi (rest := []) (ci := 1) cv_RX11_180 dX11_plan_5 (MX1_arrange B_is1 hc1) rfl sC_1 rfl (by decide) rfl rfl (fun _ => Nat.le_of_ble_eq_true rfl) ?_
  refine E_if_eq 15 dX11_plan_8 (by decide) (fun hc5 => ?_) (fun hc5 => ?_)
  · rw [if_pos hc5] at hf
    refine E_iconst (-1) dX11_plan_15 ic_m1 ?_
    obtain ⟨rfl, rfl⟩ := ret2 hf
    exact E.done (by rw [eQ]; exact ⟨rfl, Or.inl ⟨_, _, rfl, rfl, dX11_plan_16, rfl, rfl⟩⟩)
  · rw [if_neg hc5] at hf
    refine E_iconst 1 dX11_plan_11 ic_1 ?_
    refine E_goto 16 dX11_plan_12 (by decide) ?_
    obtain ⟨rfl, rfl⟩ := ret2 hf
    exact E.done (by rw [eQ]; exact ⟨rfl, Or.inl ⟨_, _, rfl, rfl, dX11_plan_16, rfl, rfl⟩⟩)
set_option maxRecDepth 10000 in
set_option maxHeartbeats 2000000 in
theorem MX11_press {a0 : Int32} {w : AW} {rZ : Int32} (hf : fX11_press a0 w = some rZ) : CallOK (PC S) yX11_press cX11_press 2 (some .int) 1 [.ref 0, .int a0] w (some (.int rZ)) w := by
  refine CallOK.of (ls := [some (.ref 0), some (.int a0)]) (by decide) (by simp) rfl rfl ?_
  obtain ⟨Q, eQ⟩ : ∃ Q, Q = Qret cX11_press (some .int) (some (.int rZ)) w := ⟨_, rfl⟩
  rw [← eQ]
  unfold fX11_press at hf
  refine E_iload_n (v := a0) dX11_press_0 rfl ?_
  by_cases hc1 : a0 = 0
  · rw [if_pos hc1] at hf
    refine E_tableIn 28 dX11_press_1 (by rw [hc1]; decide) (by rw [hc1]; decide) (by rw [hc1]; rfl) (by decide) ?_
    refine E_aload_n (v := 0) dX11_press_28 rfl ?_
    refine E_getR fg_RX11_10 dX11_press_29 sC_0 rfl rC_0_0 (Nat.succ_ne_zero _) ?_
    refine E_getI fg_RX11_186 dX11_press_32 sC_1 rfl ?_
    obtain rfl := Option.some.inj hf
    exact E.done (by rw [eQ]; exact ⟨rfl, Or.inl ⟨_, _, rfl, rfl, dX11_press_35, rfl, rfl⟩⟩)
  · rw [if_neg hc1] at hf
    by_cases hc2 : a0 = 1
    · rw [if_pos hc2] at hf
      refine E_tableIn 36 dX11_press_1 (by rw [hc2]; decide) (by rw [hc2]; decide) (by rw [hc2]; rfl) (by decide) ?_
      refine E_aload_n (v := 0) dX11_press_36 rfl ?_
      refine E_getR fg_RX11_10 dX11_press_37 sC_0 rfl rC_0_0 (Nat.succ_ne_zero _) ?_
      refine E_getI fg_RX11_189 dX11_press_40 sC_1 rfl ?_
      obtain rfl := Option.some.inj hf
      exact E.done (by rw [eQ]; exact ⟨rfl, Or.inl ⟨_, _, rfl, rfl, dX11_press_43, rfl, rfl⟩⟩)
    · rw [if_neg hc2] at hf
      by_cases hc3 : a0 = 2
      · rw [if_pos hc3] at hf
        refine E_tableIn 44 dX11_press_1 (by rw [hc3]; decide) (by rw [hc3]; decide) (by rw [hc3]; rfl) (by decide) ?_
        refine E_aload_n (v := 0) dX11_press_44 rfl ?_
        refine E_getR fg_RX11_10 dX11_press_45 sC_0 rfl rC_0_0 (Nat.succ_ne_zero _) ?_
        refine E_getI fg_RX11_191 dX11_press_48 sC_1 rfl ?_
        obtain rfl := Option.some.inj hf
        exact E.done (by rw [eQ]; exact ⟨rfl, Or.inl ⟨_, _, rfl, rfl, dX11_press_51, rfl, rfl⟩⟩)
      · rw [if_neg hc3] at hf
        refine E_tableOut 52 dX11_press_1 (tb_0_2 hc1 hc2 hc3) (by decide) ?_
        refine E_iconst (-1) dX11_press_52 ic_m1 ?_
        obtain rfl := Option.some.inj hf
        exact E.done (by rw [eQ]; exact ⟨rfl, Or.inl ⟨_, _, rfl, rfl, dX11_press_53, rfl, rfl⟩⟩)
set_option maxRecDepth 10000 in
set_option maxHeartbeats 2000000 in
theorem MX6_fill {N : Nat} {o0 : Nat} {r1 : Nat} {w : AW} {wZ : AW} (ho0 : isJ o0) (hr1 : (PC S).1[r1]? = some 106) (hf : fX6_fill N o0 r1 w = some wZ) : CallOK (PC S) yX6_fill cX6_fill 5 none 4 [.ref 59, .ref o0, .ref r1] w none wZ := by
  refine CallOK.of (ls := [some (.ref 59), some (.ref o0), some (.ref r1), none, none]) (by decide) (by simp) rfl rfl ?_
  obtain ⟨Q, eQ⟩ : ∃ Q, Q = Qret cX6_fill none none wZ := ⟨_, rfl⟩
  rw [← eQ]
  unfold fX6_fill at hf
  refine E_aload_n (v := 59) dX6_fill_0 rfl ?_
  refine E_getR fg_RX6_19 dX6_fill_1 sC_59 rfl rC_59_0 (Nat.succ_ne_zero _) ?_
  refine E_aload_n (v := o0) dX6_fill_4 rfl ?_
  refine E_aload_n (v := r1) dX6_fill_5 rfl ?_
  obtain ⟨w2, hc1, hf⟩ := bd_some hf
  try dsimp only at hf
  refine E_callVv (rest := []) (ci := 3) cv_RX6_27 dX6_fill_6 (MX3_follow ho0 hr1 hc1) rfl sC_46 rfl (by decide) rfl rfl (fun _ => Nat.le_of_ble_eq_true rfl) ?_
  refine E_aload_n (v := 59) dX6_fill_9 rfl ?_
  refine E_aload_n (v := o0) dX6_fill_10 rfl ?_
  refine E_getI fg_RX6_33 dX6_fill_11 (J_s0 ho0) rfl ?_
  obtain ⟨w3, ew3, hf⟩ := lw_some hf
  try dsimp only at hf
  refine E_putI fp_RX6_15 dX6_fill_14 sC_59 rfl rfl rfl ?_
  rw [← ew3]
  refine E_iconst 0 dX6_fill_17 ic_0 ?_
  refine E_istore_n (ls' := [some (.ref 59), some (.ref o0), some (.ref r1), some (.int 0), none]) dX6_fill_18 rfl rfl rfl ?_
  obtain ⟨q, hw15, hf⟩ := bd_some hf
  try dsimp only at hf
  show (fun (s : Int32 × AW) => E (PC S) RX6 cX6_fill 5 4 19 [some (.ref 59), some (.ref o0), some (.ref r1), some (.int s.1), none] [] s.2 Q) (0, w3)
  refine wh_E (K := (fun (s : Int32 × AW) => E (PC S) RX6 cX6_fill 5 4 19 [some (.ref 59), some (.ref o0), some (.ref r1), some (.int s.1), none] [] s.2 Q)) (X := (fun (s : AW) => E (PC S) RX6 cX6_fill 5 4 101 [none, none, none, none, none] [] s Q)) ?_ hw15 ?_
  · intro s9 z9 hf k9
    obtain ⟨x3_19_1, w_19_1⟩ := s9
    dsimp only [lbX6_fill_19_1] at hf
    show E (PC S) RX6 cX6_fill 5 4 19 [some (.ref 59), some (.ref o0), some (.ref r1), some (.int x3_19_1), none] [] w_19_1 Q
    refine E_iload_n (v := x3_19_1) dX6_fill_19 rfl ?_
    refine E_aload_n (v := o0) dX6_fill_20 rfl ?_
    refine E_getI fg_RX6_33 dX6_fill_21 (J_s0 ho0) rfl ?_
    refine E_icmp_ge 101 dX6_fill_24 (by decide) (fun hc4 => ?_) (fun hc4 => ?_)
    · rw [if_pos hc4] at hf
      obtain rfl := Option.some.inj hf
      refine E.fewer (ls' := [none, none, none, none, none]) ⟨Or.inl rfl, ⟨Or.inl rfl, ⟨Or.inl rfl, ⟨Or.inl rfl, ⟨Or.inl rfl, trivial⟩⟩⟩⟩⟩ ?_
      exact k9
    · rw [if_neg hc4] at hf
      refine E_aload_n (v := r1) dX6_fill_27 rfl ?_
      refine E_iload_n (v := x3_19_1) dX6_fill_28 rfl ?_
      obtain ⟨hi5, hf⟩ := gd_some hf
      refine E_iald (n := 6) dX6_fill_29 hr1 (by decide) (inb_in hi5) ?_
      refine E_istore (ls' := [some (.ref 59), some (.ref o0), some (.ref r1), some (.int x3_19_1), some (.int (w_19_1.1 r1 x3_19_1.toNatClampNeg))]) dX6_fill_30 rfl rfl rfl ?_
      refine E_aload_n (v := 59) dX6_fill_32 rfl ?_
      refine E_getR fg_RX6_11 dX6_fill_33 sC_59 rfl rC_59_1 (Nat.succ_ne_zero _) ?_
      refine E_iload_n (v := x3_19_1) dX6_fill_36 rfl ?_
      refine E_iconst 3 dX6_fill_37 ic_3 ?_
      refine E_imul dX6_fill_38 ?_
      refine E_iload (v := (w_19_1.1 r1 x3_19_1.toNatClampNeg)) dX6_fill_39 rfl ?_
      obtain ⟨hi6, hf⟩ := gd_some hf
      obtain ⟨w7, ew7, hf⟩ := lw_some hf
      try dsimp only at hf
      refine E_iast (n := 18) dX6_fill_41 sC_60 (by decide) (inb_in hi6) ?_
      rw [← ew7]
      refine E_aload_n (v := 59) dX6_fill_42 rfl ?_
      refine E_getR fg_RX6_11 dX6_fill_43 sC_59 rfl rC_59_1 (Nat.succ_ne_zero _) ?_
      refine E_iload_n (v := x3_19_1) dX6_fill_46 rfl ?_
      refine E_iconst 3 dX6_fill_47 ic_3 ?_
      refine E_imul dX6_fill_48 ?_
      refine E_iconst 1 dX6_fill_49 ic_1 ?_
      refine E_iadd dX6_fill_50 ?_
      refine E_aload_n (v := 59) dX6_fill_51 rfl ?_
      refine E_getR fg_RX6_19 dX6_fill_52 sC_59 rfl rC_59_0 (Nat.succ_ne_zero _) ?_
      refine E_getR fg_RX6_36 dX6_fill_55 sC_46 rfl rC_46_1 (Nat.succ_ne_zero _) ?_
      refine E_iload (v := (w_19_1.1 r1 x3_19_1.toNatClampNeg)) dX6_fill_58 rfl ?_
      obtain ⟨hi8, hf⟩ := gd_some hf
      refine E_iald (n := 6) dX6_fill_60 sC_48 (by decide) (inb_in hi8) ?_
      obtain ⟨hi9, hf⟩ := gd_some hf
      obtain ⟨w10, ew10, hf⟩ := lw_some hf
      try dsimp only at hf
      refine E_iast (n := 18) dX6_fill_61 sC_60 (by decide) (inb_in hi9) ?_
      rw [← ew10]
      refine E_aload_n (v := 59) dX6_fill_62 rfl ?_
      refine E_getR fg_RX6_11 dX6_fill_63 sC_59 rfl rC_59_1 (Nat.succ_ne_zero _) ?_
      refine E_iload_n (v := x3_19_1) dX6_fill_66 rfl ?_
      refine E_iconst 3 dX6_fill_67 ic_3 ?_
      refine E_imul dX6_fill_68 ?_
      refine E_iconst 2 dX6_fill_69 ic_2 ?_
      refine E_iadd dX6_fill_70 ?_
      refine E_aload_n (v := o0) dX6_fill_71 rfl ?_
      refine E_iload (v := (w_19_1.1 r1 x3_19_1.toNatClampNeg)) dX6_fill_72 rfl ?_
      refine E_aload_n (v := 59) dX6_fill_74 rfl ?_
      refine E_getR fg_RX6_19 dX6_fill_75 sC_59 rfl rC_59_0 (Nat.succ_ne_zero _) ?_
      refine E_getR fg_RX6_36 dX6_fill_78 sC_46 rfl rC_46_1 (Nat.succ_ne_zero _) ?_
      refine E_iload (v := (w_19_1.1 r1 x3_19_1.toNatClampNeg)) dX6_fill_81 rfl ?_
      refine E_iald (n := 6) dX6_fill_83 sC_48 (by decide) (inb_in hi8) ?_
      refine E_aload_n (v := 59) dX6_fill_84 rfl ?_
      refine E_getR fg_RX6_19 dX6_fill_85 sC_59 rfl rC_59_0 (Nat.succ_ne_zero _) ?_
      refine E_getI fg_RX6_39 dX6_fill_88 sC_46 rfl ?_
      obtain ⟨r12, hc11, hf⟩ := bd_some hf
      try dsimp only at hf
      refine E_callVi (rest := [.int ((x3_19_1 * 3) + 2), .ref 60]) (ci := 4) cv_RX6_42 dX6_fill_91 (MX4_valueOf ho0 hc11) rfl (J_s0 ho0) rfl (by decide) rfl rfl (fun _ => Nat.le_of_ble_eq_true rfl) ?_
      obtain ⟨hi13, hf⟩ := gd_some hf
      obtain ⟨w14, ew14, hf⟩ := lw_some hf
      try dsimp only at hf
      refine E_iast (n := 18) dX6_fill_94 sC_60 (by decide) (inb_in hi13) ?_
      rw [← ew14]
      refine E_iinc (ls' := [some (.ref 59), some (.ref o0), some (.ref r1), some (.int (x3_19_1 + 1)), some (.int (w_19_1.1 r1 x3_19_1.toNatClampNeg))]) 1 dX6_fill_95 rfl ic_1 rfl rfl rfl ?_
      refine E_goto 19 dX6_fill_98 (by decide) ?_
      obtain rfl := Option.some.inj hf
      refine E.fewer (ls' := [some (.ref 59), some (.ref o0), some (.ref r1), some (.int (x3_19_1 + 1)), none]) ⟨Or.inr rfl, ⟨Or.inr rfl, ⟨Or.inr rfl, ⟨Or.inr rfl, ⟨Or.inl rfl, trivial⟩⟩⟩⟩⟩ ?_
      exact k9
  · skip
    obtain ⟨w16, hq9⟩ : ∃ a, a = q := ⟨_, rfl⟩
    subst hq9
    try dsimp only at hf
    show E (PC S) RX6 cX6_fill 5 4 101 [none, none, none, none, none] [] w16 Q
    obtain rfl := Option.some.inj hf
    exact E.done (by rw [eQ]; exact ⟨rfl, Or.inr ⟨rfl, rfl, dX6_fill_101, rfl⟩⟩)
set_option maxRecDepth 10000 in
set_option maxHeartbeats 2000000 in
theorem MX11_prove {N : Nat} {w : AW} {rZ : Int32} {wZ : AW} (hf : fX11_prove N w = some (rZ, wZ)) : CallOK (PC S) yX11_prove cX11_prove 1 (some .int) 14 [.ref 0] w (some (.int rZ)) wZ := by
  refine CallOK.of (ls := [some (.ref 0)]) (by decide) (by simp) rfl rfl ?_
  obtain ⟨Q, eQ⟩ : ∃ Q, Q = Qret cX11_prove (some .int) (some (.int rZ)) wZ := ⟨_, rfl⟩
  rw [← eQ]
  unfold fX11_prove at hf
  refine E_aload_n (v := 0) dX11_prove_0 rfl ?_
  refine E_getR fg_RX11_43 dX11_prove_1 sC_0 rfl rC_0_6 (Nat.succ_ne_zero _) ?_
  refine E_aload_n (v := 0) dX11_prove_4 rfl ?_
  refine E_getR fg_RX11_10 dX11_prove_5 sC_0 rfl rC_0_0 (Nat.succ_ne_zero _) ?_
  refine E_iconst 0 dX11_prove_8 ic_0 ?_
  obtain ⟨w2, hc1, hf⟩ := bd_some hf
  try dsimp only at hf
  refine E_callVv (rest := []) (ci := 3) cv_RX11_208 dX11_prove_9 (MX3_measure B_is1 hc1) rfl sC_46 rfl (by decide) rfl rfl (fun _ => Nat.le_of_ble_eq_true rfl) ?_
  refine E_aload_n (v := 0) dX11_prove_12 rfl ?_
  refine E_getR fg_RX11_52 dX11_prove_13 sC_0 rfl rC_0_7 (Nat.succ_ne_zero _) ?_
  refine E_aload_n (v := 0) dX11_prove_16 rfl ?_
  refine E_getR fg_RX11_10 dX11_prove_17 sC_0 rfl rC_0_0 (Nat.succ_ne_zero _) ?_
  refine E_getR fg_RX11_130 dX11_prove_20 sC_1 rfl rC_1_0 (Nat.succ_ne_zero _) ?_
  refine E_bipush (-9) dX11_prove_23 bp_m9 ?_
  obtain ⟨r4, w5, hc3, hf⟩ := bd2_some hf
  try dsimp only at hf
  refine E_callVi (rest := []) (ci := 5) cv_RX11_212 dX11_prove_25 (MX5_mostWorth J_is2 hc3) rfl sC_49 rfl (by decide) rfl rfl (fun _ => Nat.le_of_ble_eq_true rfl) ?_
  refine E_pop_i dX11_prove_28 ?_
  refine E_aload_n (v := 0) dX11_prove_29 rfl ?_
  refine E_getR fg_RX11_75 dX11_prove_30 sC_0 rfl rC_0_10 (Nat.succ_ne_zero _) ?_
  refine E_aload_n (v := 0) dX11_prove_33 rfl ?_
  refine E_getR fg_RX11_10 dX11_prove_34 sC_0 rfl rC_0_0 (Nat.succ_ne_zero _) ?_
  refine E_getR fg_RX11_130 dX11_prove_37 sC_1 rfl rC_1_0 (Nat.succ_ne_zero _) ?_
  refine E_aload_n (v := 0) dX11_prove_40 rfl ?_
  refine E_getR fg_RX11_52 dX11_prove_41 sC_0 rfl rC_0_7 (Nat.succ_ne_zero _) ?_
  refine E_getR fg_RX11_216 dX11_prove_44 sC_49 rfl rC_49_2 (Nat.succ_ne_zero _) ?_
  obtain ⟨w8, hc7, hf⟩ := bd_some hf
  try dsimp only at hf
  refine E_callVv (rest := []) (ci := 6) cv_RX11_287 dX11_prove_47 (MX6_fill J_is2 sC_51 hc7) rfl sC_59 rfl (by decide) rfl rfl (fun _ => Nat.le_of_ble_eq_true rfl) ?_
  refine E_aload_n (v := 0) dX11_prove_50 rfl ?_
  refine E_getR fg_RX11_75 dX11_prove_51 sC_0 rfl rC_0_10 (Nat.succ_ne_zero _) ?_
  refine E_getI fg_RX11_126 dX11_prove_54 sC_59 rfl ?_
  obtain ⟨rfl, rfl⟩ := ret2 hf
  exact E.done (by rw [eQ]; exact ⟨rfl, Or.inl ⟨_, _, rfl, rfl, dX11_prove_57, rfl, rfl⟩⟩)
set_option maxRecDepth 10000 in
set_option maxHeartbeats 2000000 in
theorem MX6_has {a0 : Int32} {a1 : Int32} {w : AW} {rZ : Int32} (hf : fX6_has a0 a1 w = some rZ) : CallOK (PC S) yX6_has cX6_has 3 (some .boolean) 2 [.ref 59, .int a0, .int a1] w (some (.int rZ)) w := by
  refine CallOK.of (ls := [some (.ref 59), some (.int a0), some (.int a1)]) (by decide) (by simp) rfl rfl ?_
  obtain ⟨Q, eQ⟩ : ∃ Q, Q = Qret cX6_has (some .boolean) (some (.int rZ)) w := ⟨_, rfl⟩
  rw [← eQ]
  unfold fX6_has at hf
  refine E_iload_n (v := a0) dX6_has_0 rfl ?_
  refine E_iconst 0 dX6_has_1 ic_0 ?_
  refine E_aload_n (v := 59) dX6_has_2 rfl ?_
  refine E_getI fg_RX6_15 dX6_has_3 sC_59 rfl ?_
  refine E_iconst 1 dX6_has_6 ic_1 ?_
  refine E_isub dX6_has_7 ?_
  obtain ⟨r2, hc1, hf⟩ := bd_some hf
  try dsimp only at hf
  refine E_callNi (rest := []) cn_RX6_23 dX6_has_8 (MX11_within hc1) rfl rfl rfl (fun _ => Nat.le_of_ble_eq_true rfl) ?_
  refine E_if_eq 27 dX6_has_11 (by decide) (fun hc3 => ?_) (fun hc3 => ?_)
  · rw [if_pos hc3] at hf
    refine E_iconst 0 dX6_has_27 ic_0 ?_
    obtain rfl := Option.some.inj hf
    exact E.done (by rw [eQ]; exact ⟨rfl, Or.inl ⟨_, _, rfl, rfl, dX6_has_28, rfl, rfl⟩⟩)
  · rw [if_neg hc3] at hf
    refine E_iload_n (v := a1) dX6_has_14 rfl ?_
    refine E_iconst 0 dX6_has_15 ic_0 ?_
    refine E_iconst 2 dX6_has_16 ic_2 ?_
    obtain ⟨r5, hc4, hf⟩ := bd_some hf
    try dsimp only at hf
    refine E_callNi (rest := []) cn_RX6_23 dX6_has_17 (MX11_within hc4) rfl rfl rfl (fun _ => Nat.le_of_ble_eq_true rfl) ?_
    refine E_if_eq 27 dX6_has_20 (by decide) (fun hc6 => ?_) (fun hc6 => ?_)
    · rw [if_pos hc6] at hf
      refine E_iconst 0 dX6_has_27 ic_0 ?_
      obtain rfl := Option.some.inj hf
      exact E.done (by rw [eQ]; exact ⟨rfl, Or.inl ⟨_, _, rfl, rfl, dX6_has_28, rfl, rfl⟩⟩)
    · rw [if_neg hc6] at hf
      refine E_iconst 1 dX6_has_23 ic_1 ?_
      refine E_goto 28 dX6_has_24 (by decide) ?_
      obtain rfl := Option.some.inj hf
      exact E.done (by rw [eQ]; exact ⟨rfl, Or.inl ⟨_, _, rfl, rfl, dX6_has_28, rfl, rfl⟩⟩)
set_option maxRecDepth 10000 in
set_option maxHeartbeats 2000000 in
theorem MX11_row {a0 : Int32} {a1 : Int32} {w : AW} {rZ : Int32} (hf : fX11_row a0 a1 w = some rZ) : CallOK (PC S) yX11_row cX11_row 3 (some .int) 3 [.ref 0, .int a0, .int a1] w (some (.int rZ)) w := by
  refine CallOK.of (ls := [some (.ref 0), some (.int a0), some (.int a1)]) (by decide) (by simp) rfl rfl ?_
  obtain ⟨Q, eQ⟩ : ∃ Q, Q = Qret cX11_row (some .int) (some (.int rZ)) w := ⟨_, rfl⟩
  rw [← eQ]
  unfold fX11_row at hf
  refine E_aload_n (v := 0) dX11_row_0 rfl ?_
  refine E_getR fg_RX11_75 dX11_row_1 sC_0 rfl rC_0_10 (Nat.succ_ne_zero _) ?_
  refine E_iload_n (v := a0) dX11_row_4 rfl ?_
  refine E_iload_n (v := a1) dX11_row_5 rfl ?_
  obtain ⟨r2, hc1, hf⟩ := bd_some hf
  try dsimp only at hf
  refine E_callVi (rest := []) (ci := 6) cv_RX11_290 dX11_row_6 (MX6_has hc1) rfl sC_59 rfl (by decide) rfl rfl (fun _ => Nat.le_of_ble_eq_true rfl) ?_
  refine E_if_ne 15 dX11_row_9 (by decide) (fun hc3 => ?_) (fun hc3 => ?_)
  · rw [if_pos hc3] at hf
    refine E_ldc (-2147483648) dX11_row_12 wk_RX11_207 ?_
    obtain rfl := Option.some.inj hf
    exact E.done (by rw [eQ]; exact ⟨rfl, Or.inl ⟨_, _, rfl, rfl, dX11_row_14, rfl, rfl⟩⟩)
  · rw [if_neg hc3] at hf
    refine E_aload_n (v := 0) dX11_row_15 rfl ?_
    refine E_getR fg_RX11_75 dX11_row_16 sC_0 rfl rC_0_10 (Nat.succ_ne_zero _) ?_
    refine E_getR fg_RX11_293 dX11_row_19 sC_59 rfl rC_59_1 (Nat.succ_ne_zero _) ?_
    refine E_iload_n (v := a0) dX11_row_22 rfl ?_
    refine E_iconst 3 dX11_row_23 ic_3 ?_
    refine E_imul dX11_row_24 ?_
    refine E_iload_n (v := a1) dX11_row_25 rfl ?_
    refine E_iadd dX11_row_26 ?_
    obtain ⟨hi4, hf⟩ := gd_some hf
    refine E_iald (n := 18) dX11_row_27 sC_60 (by decide) (inb_in hi4) ?_
    obtain rfl := Option.some.inj hf
    exact E.done (by rw [eQ]; exact ⟨rfl, Or.inl ⟨_, _, rfl, rfl, dX11_row_28, rfl, rfl⟩⟩)
set_option maxRecDepth 10000 in
set_option maxHeartbeats 2000000 in
theorem MX2_walk_b {N n9 : Nat} {rec : Nat → Int32 → Int32 → Int32 → Int32 → AW → Option (AW)} (hrec : ∀ (o0 : Nat) (a1 : Int32) (a2 : Int32) (a3 : Int32) (a4 : Int32) (w : AW) (wZ : AW) (ho0 : isJ o0) , rec o0 a1 a2 a3 a4 w = some wZ → CallOK (PC S) yX2_walk cX2_walk 7 none (4 + n9 - 1) [.ref 52, .ref o0, .int a1, .int a2, .int a3, .int a4] w none wZ) {o0 : Nat} {a1 : Int32} {a2 : Int32} {a3 : Int32} {a4 : Int32} {w : AW} {wZ : AW} (ho0 : isJ o0) (hf : fX2_walk_b N rec o0 a1 a2 a3 a4 w = some wZ) : CallOK (PC S) yX2_walk cX2_walk 7 none (4 + n9) [.ref 52, .ref o0, .int a1, .int a2, .int a3, .int a4] w none wZ := by
  refine CallOK.of (ls := [some (.ref 52), some (.ref o0), some (.int a1), some (.int a2), some (.int a3), some (.int a4), none]) (by decide) (by simp) rfl rfl ?_
  obtain ⟨Q, eQ⟩ : ∃ Q, Q = Qret cX2_walk none none wZ := ⟨_, rfl⟩
  rw [← eQ]
  unfold fX2_walk_b at hf
  refine E_iload (v := a4) dX2_walk_0 rfl ?_
  refine E_iconst 2 dX2_walk_2 ic_2 ?_
  refine E_aload_n (v := o0) dX2_walk_3 rfl ?_
  refine E_getI fg_RX2_46 dX2_walk_4 (J_s0 ho0) rfl ?_
  refine E_iload_n (v := a1) dX2_walk_7 rfl ?_
  refine E_isub dX2_walk_8 ?_
  refine E_imul dX2_walk_9 ?_
  refine E_ishl dX2_walk_10 ?_
  refine E_aload_n (v := 52) dX2_walk_11 rfl ?_
  refine E_getI fg_RX2_35 dX2_walk_12 sC_52 rfl ?_
  refine E_icmp_gt 19 dX2_walk_15 (by decide) (fun hc1 => ?_) (fun hc1 => ?_)
  · rw [if_pos hc1] at hf
    refine E_iload_n (v := a1) dX2_walk_19 rfl ?_
    refine E_aload_n (v := o0) dX2_walk_20 rfl ?_
    refine E_getI fg_RX2_46 dX2_walk_21 (J_s0 ho0) rfl ?_
    refine E_icmp_lt 49 dX2_walk_24 (by decide) (fun hc2 => ?_) (fun hc2 => ?_)
    · rw [if_pos hc2] at hf
      refine E_iconst 0 dX2_walk_49 ic_0 ?_
      refine E_istore (ls' := [some (.ref 52), some (.ref o0), some (.int a1), some (.int a2), some (.int a3), some (.int a4), some (.int 0)]) dX2_walk_50 rfl rfl rfl ?_
      obtain ⟨q, hw14, hf⟩ := bd_some hf
      try dsimp only at hf
      refine E.fewer (ls' := [some (.ref 52), some (.ref o0), some (.int a1), some (.int a2), some (.int a3), none, some (.int 0)]) ⟨Or.inr rfl, ⟨Or.inr rfl, ⟨Or.inr rfl, ⟨Or.inr rfl, ⟨Or.inr rfl, ⟨Or.inl rfl, ⟨Or.inr rfl, trivial⟩⟩⟩⟩⟩⟩⟩ ?_
      show (fun (s : Int32 × AW) => E (PC S) RX2 cX2_walk 7 (4 + n9) 52 [some (.ref 52), some (.ref o0), some (.int a1), some (.int a2), some (.int a3), none, some (.int s.1)] [] s.2 Q) (0, w)
      refine wh_E (K := (fun (s : Int32 × AW) => E (PC S) RX2 cX2_walk 7 (4 + n9) 52 [some (.ref 52), some (.ref o0), some (.int a1), some (.int a2), some (.int a3), none, some (.int s.1)] [] s.2 Q)) (X := (fun (s : AW) => E (PC S) RX2 cX2_walk 7 (4 + n9) 119 [none, none, none, none, none, none, none] [] s Q)) ?_ hw14 ?_
      · intro s9 z9 hf k9
        obtain ⟨x6_52_1, w_52_1⟩ := s9
        dsimp only [lbX2_walk_52_1] at hf
        show E (PC S) RX2 cX2_walk 7 (4 + n9) 52 [some (.ref 52), some (.ref o0), some (.int a1), some (.int a2), some (.int a3), none, some (.int x6_52_1)] [] w_52_1 Q
        refine E_iload (v := x6_52_1) dX2_walk_52 rfl ?_
        refine E_aload_n (v := o0) dX2_walk_54 rfl ?_
        refine E_getI fg_RX2_46 dX2_walk_55 (J_s0 ho0) rfl ?_
        refine E_icmp_ge 119 dX2_walk_58 (by decide) (fun hc3 => ?_) (fun hc3 => ?_)
        · rw [if_pos hc3] at hf
          obtain rfl := Option.some.inj hf
          refine E.fewer (ls' := [none, none, none, none, none, none, none]) ⟨Or.inl rfl, ⟨Or.inl rfl, ⟨Or.inl rfl, ⟨Or.inl rfl, ⟨Or.inl rfl, ⟨Or.inl rfl, ⟨Or.inl rfl, trivial⟩⟩⟩⟩⟩⟩⟩ ?_
          exact k9
        · rw [if_neg hc3] at hf
          refine E_iload (v := a3) dX2_walk_61 rfl ?_
          refine E_iload (v := x6_52_1) dX2_walk_63 rfl ?_
          refine E_ishr dX2_walk_65 ?_
          refine E_iconst 1 dX2_walk_66 ic_1 ?_
          refine E_iand dX2_walk_67 ?_
          refine E_if_eq 74 dX2_walk_68 (by decide) (fun hc4 => ?_) (fun hc4 => ?_)
          · rw [if_pos hc4] at hf
            refine E_aload_n (v := 52) dX2_walk_74 rfl ?_
            refine E_getR fg_RX2_21 dX2_walk_75 sC_52 rfl rC_52_4 (Nat.succ_ne_zero _) ?_
            refine E_iload_n (v := a1) dX2_walk_78 rfl ?_
            refine E_iload (v := x6_52_1) dX2_walk_79 rfl ?_
            obtain ⟨hi5, hf⟩ := gd_some hf
            obtain ⟨w6, ew6, hf⟩ := lw_some hf
            try dsimp only at hf
            refine E_iast (n := 6) dX2_walk_81 sC_56 (by decide) (inb_in hi5) ?_
            rw [← ew6]
            refine E_aload_n (v := 52) dX2_walk_82 rfl ?_
            refine E_aload_n (v := o0) dX2_walk_83 rfl ?_
            refine E_iload_n (v := a1) dX2_walk_84 rfl ?_
            refine E_iconst 1 dX2_walk_85 ic_1 ?_
            refine E_iadd dX2_walk_86 ?_
            refine E_aload_n (v := o0) dX2_walk_87 rfl ?_
            refine E_getR fg_RX2_51 dX2_walk_88 (J_s0 ho0) rfl (J_r0_3 ho0) (Nat.succ_ne_zero _) ?_
            refine E_iload (v := x6_52_1) dX2_walk_91 rfl ?_
            obtain ⟨hi7, hf⟩ := gd_some hf
            refine E_iald (n := 6) dX2_walk_93 (J_s3 ho0) (by decide) (inb_in hi7) ?_
            refine E_iload (v := a3) dX2_walk_94 rfl ?_
            refine E_iconst 1 dX2_walk_96 ic_1 ?_
            refine E_iload (v := x6_52_1) dX2_walk_97 rfl ?_
            refine E_ishl dX2_walk_99 ?_
            refine E_ior dX2_walk_100 ?_
            refine E_aload_n (v := 52) dX2_walk_101 rfl ?_
            refine E_aload_n (v := o0) dX2_walk_102 rfl ?_
            refine E_iload_n (v := a1) dX2_walk_103 rfl ?_
            refine E_iload_n (v := a2) dX2_walk_104 rfl ?_
            refine E_iload (v := x6_52_1) dX2_walk_105 rfl ?_
            obtain ⟨r9, w10, hc8, hf⟩ := bd2_some hf
            try dsimp only at hf
            refine E_callVi (rest := [.int (a3 ||| (1 <<< (x6_52_1 &&& 31))), .int (w6.1 (o0 + 3) x6_52_1.toNatClampNeg), .int (a1 + 1), .ref o0, .ref 52]) (ci := 2) cv_RX2_54 dX2_walk_107 (MX2_spread ho0 hc8) (Nat.ble_eq_true_of_le (by omega)) sC_52 rfl (by decide) rfl rfl (fun _ => Nat.le_of_ble_eq_true rfl) ?_
            obtain ⟨w13, hc12, hf⟩ := bd_some hf
            try dsimp only at hf
            refine E_callVv (rest := []) (ci := 2) cv_RX2_58 dX2_walk_110 (hrec _ _ _ _ _ _ _ ho0 hc12) (Nat.ble_eq_true_of_le (by omega)) sC_52 rfl (by decide) rfl rfl (fun _ => Nat.le_of_ble_eq_true rfl) ?_
            refine E_iinc (ls' := [some (.ref 52), some (.ref o0), some (.int a1), some (.int a2), some (.int a3), none, some (.int (x6_52_1 + 1))]) 1 dX2_walk_113 rfl ic_1 rfl rfl rfl ?_
            refine E_goto 52 dX2_walk_116 (by decide) ?_
            obtain rfl := Option.some.inj hf
            exact k9
          · rw [if_neg hc4] at hf
            refine E_goto 113 dX2_walk_71 (by decide) ?_
            refine E_iinc (ls' := [some (.ref 52), some (.ref o0), some (.int a1), some (.int a2), some (.int a3), none, some (.int (x6_52_1 + 1))]) 1 dX2_walk_113 rfl ic_1 rfl rfl rfl ?_
            refine E_goto 52 dX2_walk_116 (by decide) ?_
            obtain rfl := Option.some.inj hf
            exact k9
      · skip
        obtain ⟨w15, hq9⟩ : ∃ a, a = q := ⟨_, rfl⟩
        subst hq9
        try dsimp only at hf
        show E (PC S) RX2 cX2_walk 7 (4 + n9) 119 [none, none, none, none, none, none, none] [] w15 Q
        obtain rfl := Option.some.inj hf
        exact E.done (by rw [eQ]; exact ⟨rfl, Or.inr ⟨rfl, rfl, dX2_walk_119, rfl⟩⟩)
    · rw [if_neg hc2] at hf
      refine E_aload_n (v := 52) dX2_walk_27 rfl ?_
      refine E_iload (v := a4) dX2_walk_28 rfl ?_
      obtain ⟨w16, ew16, hf⟩ := lw_some hf
      try dsimp only at hf
      refine E_putI fp_RX2_35 dX2_walk_30 sC_52 rfl rfl rfl ?_
      rw [← ew16]
      refine E_aload_n (v := 52) dX2_walk_33 rfl ?_
      refine E_getR fg_RX2_21 dX2_walk_34 sC_52 rfl rC_52_4 (Nat.succ_ne_zero _) ?_
      refine E_iconst 0 dX2_walk_37 ic_0 ?_
      refine E_aload_n (v := 52) dX2_walk_38 rfl ?_
      refine E_getR fg_RX2_24 dX2_walk_39 sC_52 rfl rC_52_5 (Nat.succ_ne_zero _) ?_
      refine E_iconst 0 dX2_walk_42 ic_0 ?_
      refine E_bipush 6 dX2_walk_43 bp_6 ?_
      obtain ⟨w17, ew17, hf⟩ := lw_some hf
      try dsimp only at hf
      refine E_copyI (n0 := 6) (n1 := 6) wl_RX2_62 wna_copy wst_copy win_sys dX2_walk_45 (by omega) rfl sC_56 (by decide) sC_57 (by decide) (by decide) (by decide) (by decide) (by decide) (by decide) ?_
      rw [← ew17]
      obtain rfl := Option.some.inj hf
      exact E.done (by rw [eQ]; exact ⟨rfl, Or.inr ⟨rfl, rfl, dX2_walk_48, rfl⟩⟩)
  · rw [if_neg hc1] at hf
    obtain rfl := Option.some.inj hf
    exact E.done (by rw [eQ]; exact ⟨rfl, Or.inr ⟨rfl, rfl, dX2_walk_18, rfl⟩⟩)
theorem MX2_walk {N : Nat} : ∀ (n : Nat) (o0 : Nat) (a1 : Int32) (a2 : Int32) (a3 : Int32) (a4 : Int32) (w : AW) (wZ : AW) (ho0 : isJ o0) , fX2_walk N n o0 a1 a2 a3 a4 w = some wZ → CallOK (PC S) yX2_walk cX2_walk 7 none (4 + n) [.ref 52, .ref o0, .int a1, .int a2, .int a3, .int a4] w none wZ := by
  intro n
  induction n with
  | zero => intro o0 a1 a2 a3 a4 w wZ ho0 hf; simp [fX2_walk] at hf
  | succ n ih => intro o0 a1 a2 a3 a4 w wZ ho0 hf; exact MX2_walk_b (n9 := n + 1) (fun o0 a1 a2 a3 a4 w z ho0 h => ih o0 a1 a2 a3 a4 w z ho0 h) ho0 (by simpa [fX2_walk] using hf)
set_option maxRecDepth 10000 in
set_option maxHeartbeats 2000000 in
theorem MX2_surest {N : Nat} {o0 : Nat} {w : AW} {rZ : Int32} {wZ : AW} (ho0 : isJ o0) (hf : fX2_surest N o0 w = some (rZ, wZ)) : CallOK (PC S) yX2_surest cX2_surest 2 (some .int) 13 [.ref 52, .ref o0] w (some (.int rZ)) wZ := by
  refine CallOK.of (ls := [some (.ref 52), some (.ref o0)]) (by decide) (by simp) rfl rfl ?_
  obtain ⟨Q, eQ⟩ : ∃ Q, Q = Qret cX2_surest (some .int) (some (.int rZ)) wZ := ⟨_, rfl⟩
  rw [← eQ]
  unfold fX2_surest at hf
  refine E_aload_n (v := 52) dX2_surest_0 rfl ?_
  refine E_iconst 0 dX2_surest_1 ic_0 ?_
  obtain ⟨w2, hc1, hf⟩ := bd_some hf
  try dsimp only at hf
  refine E_callVv (rest := []) (ci := 2) cv_RX2_42 dX2_surest_2 (MX2_begin hc1) rfl sC_52 rfl (by decide) rfl rfl (fun _ => Nat.le_of_ble_eq_true rfl) ?_
  refine E_aload_n (v := 52) dX2_surest_5 rfl ?_
  refine E_iconst (-1) dX2_surest_6 ic_m1 ?_
  obtain ⟨w3, ew3, hf⟩ := lw_some hf
  try dsimp only at hf
  refine E_putI fp_RX2_35 dX2_surest_7 sC_52 rfl rfl rfl ?_
  rw [← ew3]
  refine E_aload_n (v := 52) dX2_surest_10 rfl ?_
  refine E_aload_n (v := o0) dX2_surest_11 rfl ?_
  refine E_iconst 0 dX2_surest_12 ic_0 ?_
  refine E_iconst 0 dX2_surest_13 ic_0 ?_
  refine E_iconst 0 dX2_surest_14 ic_0 ?_
  refine E_iconst 1 dX2_surest_15 ic_1 ?_
  obtain ⟨w5, hc4, hf⟩ := bd_some hf
  try dsimp only at hf
  refine E_callVv (rest := []) (ci := 2) cv_RX2_58 dX2_surest_16 (MX2_walk 8 _ _ _ _ _ _ _ ho0 hc4) rfl sC_52 rfl (by decide) rfl rfl (fun _ => Nat.le_of_ble_eq_true rfl) ?_
  refine E_aload_n (v := 52) dX2_surest_19 rfl ?_
  refine E_getI fg_RX2_35 dX2_surest_20 sC_52 rfl ?_
  obtain ⟨rfl, rfl⟩ := ret2 hf
  exact E.done (by rw [eQ]; exact ⟨rfl, Or.inl ⟨_, _, rfl, rfl, dX2_surest_23, rfl, rfl⟩⟩)
set_option maxRecDepth 10000 in
set_option maxHeartbeats 2000000 in
theorem MX11_safest {N : Nat} {a0 : Int32} {w : AW} {rZ : Int32} {wZ : AW} (hf : fX11_safest N a0 w = some (rZ, wZ)) : CallOK (PC S) yX11_safest cX11_safest 3 (some .int) 14 [.ref 0, .int a0] w (some (.int rZ)) wZ := by
  refine CallOK.of (ls := [some (.ref 0), some (.int a0), none]) (by decide) (by simp) rfl rfl ?_
  obtain ⟨Q, eQ⟩ : ∃ Q, Q = Qret cX11_safest (some .int) (some (.int rZ)) wZ := ⟨_, rfl⟩
  rw [← eQ]
  unfold fX11_safest at hf
  refine E_iload_n (v := a0) dX11_safest_0 rfl ?_
  refine E_iconst 0 dX11_safest_1 ic_0 ?_
  refine E_iconst 2 dX11_safest_2 ic_2 ?_
  obtain ⟨r2, hc1, hf⟩ := bd_some hf
  try dsimp only at hf
  refine E_callSi (rest := []) cs_RX11_100 dX11_safest_3 (MX11_within hc1) rfl rfl rfl (fun _ => Nat.le_of_ble_eq_true rfl) ?_
  refine E_if_ne 11 dX11_safest_6 (by decide) (fun hc3 => ?_) (fun hc3 => ?_)
  · rw [if_pos hc3] at hf
    refine E_iconst (-1) dX11_safest_9 ic_m1 ?_
    obtain ⟨rfl, rfl⟩ := ret2 hf
    exact E.done (by rw [eQ]; exact ⟨rfl, Or.inl ⟨_, _, rfl, rfl, dX11_safest_10, rfl, rfl⟩⟩)
  · rw [if_neg hc3] at hf
    refine E_aload_n (v := 0) dX11_safest_11 rfl ?_
    refine E_getR fg_RX11_43 dX11_safest_12 sC_0 rfl rC_0_6 (Nat.succ_ne_zero _) ?_
    refine E_aload_n (v := 0) dX11_safest_15 rfl ?_
    refine E_getR fg_RX11_10 dX11_safest_16 sC_0 rfl rC_0_0 (Nat.succ_ne_zero _) ?_
    refine E_iconst 0 dX11_safest_19 ic_0 ?_
    obtain ⟨w5, hc4, hf⟩ := bd_some hf
    try dsimp only at hf
    refine E_callVv (rest := []) (ci := 3) cv_RX11_208 dX11_safest_20 (MX3_measure B_is1 hc4) rfl sC_46 rfl (by decide) rfl rfl (fun _ => Nat.le_of_ble_eq_true rfl) ?_
    refine E_aload_n (v := 0) dX11_safest_23 rfl ?_
    refine E_getR fg_RX11_59 dX11_safest_24 sC_0 rfl rC_0_8 (Nat.succ_ne_zero _) ?_
    refine E_aload_n (v := 0) dX11_safest_27 rfl ?_
    refine E_getR fg_RX11_10 dX11_safest_28 sC_0 rfl rC_0_0 (Nat.succ_ne_zero _) ?_
    refine E_getR fg_RX11_130 dX11_safest_31 sC_1 rfl rC_1_0 (Nat.succ_ne_zero _) ?_
    obtain ⟨r7, w8, hc6, hf⟩ := bd2_some hf
    try dsimp only at hf
    refine E_callVi (rest := []) (ci := 2) cv_RX11_245 dX11_safest_34 (MX2_surest J_is2 hc6) rfl sC_52 rfl (by decide) rfl rfl (fun _ => Nat.le_of_ble_eq_true rfl) ?_
    refine E_istore_n (ls' := [some (.ref 0), some (.int a0), some (.int r7)]) dX11_safest_37 rfl rfl rfl ?_
    refine E_iload_n (v := a0) dX11_safest_38 rfl ?_
    refine E_if_ne 63 dX11_safest_39 (by decide) (fun hc10 => ?_) (fun hc10 => ?_)
    · rw [if_pos hc10] at hf
      refine E_aload_n (v := 0) dX11_safest_42 rfl ?_
      refine E_getR fg_RX11_59 dX11_safest_43 sC_0 rfl rC_0_8 (Nat.succ_ne_zero _) ?_
      refine E_getR fg_RX11_248 dX11_safest_46 sC_52 rfl rC_52_5 (Nat.succ_ne_zero _) ?_
      refine E_aload_n (v := 0) dX11_safest_49 rfl ?_
      refine E_getR fg_RX11_10 dX11_safest_50 sC_0 rfl rC_0_0 (Nat.succ_ne_zero _) ?_
      refine E_getR fg_RX11_130 dX11_safest_53 sC_1 rfl rC_1_0 (Nat.succ_ne_zero _) ?_
      refine E_getI fg_RX11_131 dX11_safest_56 sC_2 rfl ?_
      obtain ⟨r12, hc11, hf⟩ := bd_some hf
      try dsimp only at hf
      refine E_callSi (rest := []) cs_RX11_219 dX11_safest_59 (MX11_digitsOf sC_57 hc11) rfl rfl rfl (fun _ => Nat.le_of_ble_eq_true rfl) ?_
      obtain ⟨rfl, rfl⟩ := ret2 hf
      exact E.done (by rw [eQ]; exact ⟨rfl, Or.inl ⟨_, _, rfl, rfl, dX11_safest_62, rfl, rfl⟩⟩)
    · rw [if_neg hc10] at hf
      refine E_iload_n (v := r7) dX11_safest_63 rfl ?_
      refine E_iconst 2 dX11_safest_64 ic_2 ?_
      refine E_aload_n (v := 0) dX11_safest_65 rfl ?_
      refine E_getR fg_RX11_10 dX11_safest_66 sC_0 rfl rC_0_0 (Nat.succ_ne_zero _) ?_
      refine E_getR fg_RX11_130 dX11_safest_69 sC_1 rfl rC_1_0 (Nat.succ_ne_zero _) ?_
      refine E_getI fg_RX11_131 dX11_safest_72 sC_2 rfl ?_
      refine E_imul dX11_safest_75 ?_
      refine E_iload_n (v := a0) dX11_safest_76 rfl ?_
      refine E_iconst 1 dX11_safest_77 ic_1 ?_
      refine E_isub dX11_safest_78 ?_
      obtain ⟨r14, hc13, hf⟩ := bd_some hf
      try dsimp only at hf
      refine E_callSi (rest := []) cs_RX11_242 dX11_safest_79 (MX11_partOf hc13) rfl rfl rfl (fun _ => Nat.le_of_ble_eq_true rfl) ?_
      obtain ⟨rfl, rfl⟩ := ret2 hf
      exact E.done (by rw [eQ]; exact ⟨rfl, Or.inl ⟨_, _, rfl, rfl, dX11_safest_82, rfl, rfl⟩⟩)
set_option maxRecDepth 10000 in
set_option maxHeartbeats 2000000 in
theorem MX11_set {a0 : Int32} {a1 : Int32} {w : AW} {rZ : Int32} {wZ : AW} (hf : fX11_set a0 a1 w = some (rZ, wZ)) : CallOK (PC S) yX11_set cX11_set 4 (some .int) 2 [.ref 0, .int a0, .int a1] w (some (.int rZ)) wZ := by
  refine CallOK.of (ls := [some (.ref 0), some (.int a0), some (.int a1), none]) (by decide) (by simp) rfl rfl ?_
  obtain ⟨Q, eQ⟩ : ∃ Q, Q = Qret cX11_set (some .int) (some (.int rZ)) wZ := ⟨_, rfl⟩
  rw [← eQ]
  unfold fX11_set at hf
  refine E_iload_n (v := a0) dX11_set_0 rfl ?_
  refine E_iconst 0 dX11_set_1 ic_0 ?_
  refine E_iconst 3 dX11_set_2 ic_3 ?_
  obtain ⟨r2, hc1, hf⟩ := bd_some hf
  try dsimp only at hf
  refine E_callSi (rest := []) cs_RX11_100 dX11_set_3 (MX11_within hc1) rfl rfl rfl (fun _ => Nat.le_of_ble_eq_true rfl) ?_
  refine E_if_eq 26 dX11_set_6 (by decide) (fun hc3 => ?_) (fun hc3 => ?_)
  · rw [if_pos hc3] at hf
    refine E_iconst (-1) dX11_set_26 ic_m1 ?_
    obtain ⟨rfl, rfl⟩ := ret2 hf
    exact E.done (by rw [eQ]; exact ⟨rfl, Or.inl ⟨_, _, rfl, rfl, dX11_set_27, rfl, rfl⟩⟩)
  · rw [if_neg hc3] at hf
    refine E_iload_n (v := a1) dX11_set_9 rfl ?_
    refine E_getsZ (v := .retAddr 1) (fun _ _ _ _ h => st_least h) wf_RX11_163 dX11_set_10 ?_
    refine E_iload_n (v := a0) dX11_set_13 rfl ?_
    obtain ⟨hi4, hf⟩ := gd_some hf
    refine E_least dX11_set_14 (inb_in hi4) ?_
    refine E_getsZ (v := .retAddr 2) (fun _ _ _ _ h => st_most h) wf_RX11_166 dX11_set_15 ?_
    refine E_iload_n (v := a0) dX11_set_18 rfl ?_
    obtain ⟨hi5, hf⟩ := gd_some hf
    refine E_most dX11_set_19 (inb_in hi5) ?_
    obtain ⟨r7, hc6, hf⟩ := bd_some hf
    try dsimp only at hf
    refine E_callSi (rest := []) cs_RX11_100 dX11_set_20 (MX11_within hc6) rfl rfl rfl (fun _ => Nat.le_of_ble_eq_true rfl) ?_
    refine E_if_ne 28 dX11_set_23 (by decide) (fun hc8 => ?_) (fun hc8 => ?_)
    · rw [if_pos hc8] at hf
      refine E_iconst (-1) dX11_set_26 ic_m1 ?_
      obtain ⟨rfl, rfl⟩ := ret2 hf
      exact E.done (by rw [eQ]; exact ⟨rfl, Or.inl ⟨_, _, rfl, rfl, dX11_set_27, rfl, rfl⟩⟩)
    · rw [if_neg hc8] at hf
      refine E_aload_n (v := 0) dX11_set_28 rfl ?_
      refine E_getR fg_RX11_10 dX11_set_29 sC_0 rfl rC_0_0 (Nat.succ_ne_zero _) ?_
      refine E_getR fg_RX11_169 dX11_set_32 sC_1 rfl rC_1_1 (Nat.succ_ne_zero _) ?_
      refine E_iload_n (v := a0) dX11_set_35 rfl ?_
      obtain ⟨hi9, hf⟩ := gd_some hf
      refine E_iald (n := 4) dX11_set_36 sC_8 (by decide) (inb_in hi9) ?_
      refine E_istore_n (ls' := [some (.ref 0), some (.int a0), some (.int a1), some (.int (w.1 8 a0.toNatClampNeg))]) dX11_set_37 rfl rfl rfl ?_
      refine E_aload_n (v := 0) dX11_set_38 rfl ?_
      refine E_getR fg_RX11_10 dX11_set_39 sC_0 rfl rC_0_0 (Nat.succ_ne_zero _) ?_
      refine E_getR fg_RX11_169 dX11_set_42 sC_1 rfl rC_1_1 (Nat.succ_ne_zero _) ?_
      refine E_iload_n (v := a0) dX11_set_45 rfl ?_
      refine E_iload_n (v := a1) dX11_set_46 rfl ?_
      obtain ⟨w10, ew10, hf⟩ := lw_some hf
      try dsimp only at hf
      refine E_iast (n := 4) dX11_set_47 sC_8 (by decide) (inb_in hi9) ?_
      rw [← ew10]
      refine E_iload_n (v := (w.1 8 a0.toNatClampNeg)) dX11_set_48 rfl ?_
      obtain ⟨rfl, rfl⟩ := ret2 hf
      exact E.done (by rw [eQ]; exact ⟨rfl, Or.inl ⟨_, _, rfl, rfl, dX11_set_49, rfl, rfl⟩⟩)
set_option maxRecDepth 10000 in
set_option maxHeartbeats 2000000 in
theorem MX5_soonestEnd {N : Nat} {o0 : Nat} {w : AW} {rZ : Int32} {wZ : AW} (ho0 : isJ o0) (hf : fX5_soonestEnd N o0 w = some (rZ, wZ)) : CallOK (PC S) yX5_soonestEnd cX5_soonestEnd 2 (some .int) 13 [.ref 49, .ref o0] w (some (.int rZ)) wZ := by
  refine CallOK.of (ls := [some (.ref 49), some (.ref o0)]) (by decide) (by simp) rfl rfl ?_
  obtain ⟨Q, eQ⟩ : ∃ Q, Q = Qret cX5_soonestEnd (some .int) (some (.int rZ)) wZ := ⟨_, rfl⟩
  rw [← eQ]
  unfold fX5_soonestEnd at hf
  refine E_aload_n (v := 49) dX5_soonestEnd_0 rfl ?_
  refine E_iconst 2 dX5_soonestEnd_1 ic_2 ?_
  refine E_aload_n (v := o0) dX5_soonestEnd_2 rfl ?_
  refine E_bipush (-9) dX5_soonestEnd_3 bp_m9 ?_
  obtain ⟨r2, w3, hc1, hf⟩ := bd2_some hf
  try dsimp only at hf
  refine E_callVi (rest := []) (ci := 5) cv_RX5_41 dX5_soonestEnd_5 (MX5_leastLost ho0 hc1) rfl sC_49 rfl (by decide) rfl rfl (fun _ => Nat.le_of_ble_eq_true rfl) ?_
  obtain ⟨rfl, rfl⟩ := ret2 hf
  exact E.done (by rw [eQ]; exact ⟨rfl, Or.inl ⟨_, _, rfl, rfl, dX5_soonestEnd_8, rfl, rfl⟩⟩)
set_option maxRecDepth 10000 in
set_option maxHeartbeats 2000000 in
theorem MX11_soonest {N : Nat} {a0 : Int32} {a1 : Int32} {a2 : Int32} {w : AW} {rZ : Int32} {wZ : AW} (hf : fX11_soonest N a0 a1 a2 w = some (rZ, wZ)) : CallOK (PC S) yX11_soonest cX11_soonest 5 (some .int) 14 [.ref 0, .int a0, .int a1, .int a2] w (some (.int rZ)) wZ := by
  refine CallOK.of (ls := [some (.ref 0), some (.int a0), some (.int a1), some (.int a2), none]) (by decide) (by simp) rfl rfl ?_
  obtain ⟨Q, eQ⟩ : ∃ Q, Q = Qret cX11_soonest (some .int) (some (.int rZ)) wZ := ⟨_, rfl⟩
  rw [← eQ]
  unfold fX11_soonest at hf
  refine E_iload_n (v := a0) dX11_soonest_0 rfl ?_
  refine E_iload_n (v := a1) dX11_soonest_1 rfl ?_
  refine E_iload_n (v := a2) dX11_soonest_2 rfl ?_
  refine E_iconst 0 dX11_soonest_3 ic_0 ?_
  refine E_iconst 0 dX11_soonest_4 ic_0 ?_
  obtain ⟨r2, hc1, hf⟩ := bd_some hf
  try dsimp only at hf
  refine E_callSi (rest := []) cs_RX11_132 dX11_soonest_5 (MX11_isJob hc1) rfl rfl rfl (fun _ => Nat.le_of_ble_eq_true rfl) ?_
  refine E_if_ne 13 dX11_soonest_8 (by decide) (fun hc3 => ?_) (fun hc3 => ?_)
  · rw [if_pos hc3] at hf
    refine E_iconst (-1) dX11_soonest_11 ic_m1 ?_
    obtain ⟨rfl, rfl⟩ := ret2 hf
    exact E.done (by rw [eQ]; exact ⟨rfl, Or.inl ⟨_, _, rfl, rfl, dX11_soonest_12, rfl, rfl⟩⟩)
  · rw [if_neg hc3] at hf
    refine E_aload_n (v := 0) dX11_soonest_13 rfl ?_
    refine E_getR fg_RX11_10 dX11_soonest_14 sC_0 rfl rC_0_0 (Nat.succ_ne_zero _) ?_
    refine E_getR fg_RX11_130 dX11_soonest_17 sC_1 rfl rC_1_0 (Nat.succ_ne_zero _) ?_
    refine E_getI fg_RX11_131 dX11_soonest_20 sC_2 rfl ?_
    refine E_bipush 6 dX11_soonest_23 bp_6 ?_
    refine E_icmp_lt 31 dX11_soonest_25 (by decide) (fun hc4 => ?_) (fun hc4 => ?_)
    · rw [if_pos hc4] at hf
      refine E_aload_n (v := 0) dX11_soonest_31 rfl ?_
      refine E_getR fg_RX11_43 dX11_soonest_32 sC_0 rfl rC_0_6 (Nat.succ_ne_zero _) ?_
      refine E_aload_n (v := 0) dX11_soonest_35 rfl ?_
      refine E_getR fg_RX11_10 dX11_soonest_36 sC_0 rfl rC_0_0 (Nat.succ_ne_zero _) ?_
      refine E_iconst 0 dX11_soonest_39 ic_0 ?_
      obtain ⟨w6, hc5, hf⟩ := bd_some hf
      try dsimp only at hf
      refine E_callVv (rest := []) (ci := 3) cv_RX11_208 dX11_soonest_40 (MX3_measure B_is1 hc5) rfl sC_46 rfl (by decide) rfl rfl (fun _ => Nat.le_of_ble_eq_true rfl) ?_
      refine E_aload_n (v := 0) dX11_soonest_43 rfl ?_
      refine E_getR fg_RX11_82 dX11_soonest_44 sC_0 rfl rC_0_11 (Nat.succ_ne_zero _) ?_
      refine E_aload_n (v := 0) dX11_soonest_47 rfl ?_
      refine E_getR fg_RX11_10 dX11_soonest_48 sC_0 rfl rC_0_0 (Nat.succ_ne_zero _) ?_
      refine E_getR fg_RX11_130 dX11_soonest_51 sC_1 rfl rC_1_0 (Nat.succ_ne_zero _) ?_
      obtain ⟨w8, hc7, hf⟩ := bd_some hf
      try dsimp only at hf
      refine E_callVv (rest := []) (ci := 4) cv_RX11_227 dX11_soonest_54 (MX4_copy J_is61 J_is2 hc7) rfl sC_61 rfl (by decide) rfl rfl (fun _ => Nat.le_of_ble_eq_true rfl) ?_
      refine E_aload_n (v := 0) dX11_soonest_57 rfl ?_
      refine E_getR fg_RX11_82 dX11_soonest_58 sC_0 rfl rC_0_11 (Nat.succ_ne_zero _) ?_
      refine E_iload_n (v := a0) dX11_soonest_61 rfl ?_
      refine E_iload_n (v := a1) dX11_soonest_62 rfl ?_
      refine E_iload_n (v := a2) dX11_soonest_63 rfl ?_
      refine E_bipush 60 dX11_soonest_64 bp_60 ?_
      refine E_iconst 0 dX11_soonest_66 ic_0 ?_
      obtain ⟨w10, hc9, hf⟩ := bd_some hf
      try dsimp only at hf
      refine E_callVv (rest := []) (ci := 4) cv_RX11_231 dX11_soonest_67 (MX4_add J_is61 hc9) rfl sC_61 rfl (by decide) rfl rfl (fun _ => Nat.le_of_ble_eq_true rfl) ?_
      refine E_aload_n (v := 0) dX11_soonest_70 rfl ?_
      refine E_getR fg_RX11_52 dX11_soonest_71 sC_0 rfl rC_0_7 (Nat.succ_ne_zero _) ?_
      refine E_aload_n (v := 0) dX11_soonest_74 rfl ?_
      refine E_getR fg_RX11_82 dX11_soonest_75 sC_0 rfl rC_0_11 (Nat.succ_ne_zero _) ?_
      obtain ⟨r12, w13, hc11, hf⟩ := bd2_some hf
      try dsimp only at hf
      refine E_callVi (rest := []) (ci := 5) cv_RX11_235 dX11_soonest_78 (MX5_soonestEnd J_is61 hc11) rfl sC_49 rfl (by decide) rfl rfl (fun _ => Nat.le_of_ble_eq_true rfl) ?_
      refine E_istore (ls' := [some (.ref 0), some (.int a0), some (.int a1), some (.int a2), some (.int r12)]) dX11_soonest_81 rfl rfl rfl ?_
      refine E_iload (v := r12) dX11_soonest_83 rfl ?_
      refine E_bipush 60 dX11_soonest_85 bp_60 ?_
      refine E_icmp_gt 95 dX11_soonest_87 (by decide) (fun hc15 => ?_) (fun hc15 => ?_)
      · rw [if_pos hc15] at hf
        refine E_bipush (-3) dX11_soonest_95 bp_m3 ?_
        obtain ⟨rfl, rfl⟩ := ret2 hf
        exact E.done (by rw [eQ]; exact ⟨rfl, Or.inl ⟨_, _, rfl, rfl, dX11_soonest_97, rfl, rfl⟩⟩)
      · rw [if_neg hc15] at hf
        refine E_iload (v := r12) dX11_soonest_90 rfl ?_
        refine E_goto 97 dX11_soonest_92 (by decide) ?_
        obtain ⟨rfl, rfl⟩ := ret2 hf
        exact E.done (by rw [eQ]; exact ⟨rfl, Or.inl ⟨_, _, rfl, rfl, dX11_soonest_97, rfl, rfl⟩⟩)
    · rw [if_neg hc4] at hf
      refine E_bipush (-2) dX11_soonest_28 bp_m2 ?_
      obtain ⟨rfl, rfl⟩ := ret2 hf
      exact E.done (by rw [eQ]; exact ⟨rfl, Or.inl ⟨_, _, rfl, rfl, dX11_soonest_30, rfl, rfl⟩⟩)
set_option maxRecDepth 10000 in
set_option maxHeartbeats 2000000 in
theorem MX2_sureOf {N : Nat} {o0 : Nat} {r1 : Nat} {w : AW} {rZ : Int32} {wZ : AW} (ho0 : isJ o0) (hr1 : (PC S).1[r1]? = some 106) (hf : fX2_sureOf N o0 r1 w = some (rZ, wZ)) : CallOK (PC S) yX2_sureOf cX2_sureOf 5 (some .int) 4 [.ref 52, .ref o0, .ref r1] w (some (.int rZ)) wZ := by
  refine CallOK.of (ls := [some (.ref 52), some (.ref o0), some (.ref r1), none, none]) (by decide) (by simp) rfl rfl ?_
  obtain ⟨Q, eQ⟩ : ∃ Q, Q = Qret cX2_sureOf (some .int) (some (.int rZ)) wZ := ⟨_, rfl⟩
  rw [← eQ]
  unfold fX2_sureOf at hf
  refine E_aload_n (v := 52) dX2_sureOf_0 rfl ?_
  refine E_iconst 0 dX2_sureOf_1 ic_0 ?_
  obtain ⟨w2, hc1, hf⟩ := bd_some hf
  try dsimp only at hf
  refine E_callVv (rest := []) (ci := 2) cv_RX2_42 dX2_sureOf_2 (MX2_begin hc1) rfl sC_52 rfl (by decide) rfl rfl (fun _ => Nat.le_of_ble_eq_true rfl) ?_
  refine E_iconst 1 dX2_sureOf_5 ic_1 ?_
  refine E_istore_n (ls' := [some (.ref 52), some (.ref o0), some (.ref r1), some (.int 1), none]) dX2_sureOf_6 rfl rfl rfl ?_
  refine E_iconst 0 dX2_sureOf_7 ic_0 ?_
  refine E_istore (ls' := [some (.ref 52), some (.ref o0), some (.ref r1), some (.int 1), some (.int 0)]) dX2_sureOf_8 rfl rfl rfl ?_
  obtain ⟨q, hw17, hf⟩ := bd_some hf
  try dsimp only at hf
  show (fun (s : Int32 × Int32 × AW) => E (PC S) RX2 cX2_sureOf 5 4 10 [some (.ref 52), some (.ref o0), some (.ref r1), some (.int s.1), some (.int s.2.1)] [] s.2.2 Q) (1, 0, w2)
  refine wh_E (K := (fun (s : Int32 × Int32 × AW) => E (PC S) RX2 cX2_sureOf 5 4 10 [some (.ref 52), some (.ref o0), some (.ref r1), some (.int s.1), some (.int s.2.1)] [] s.2.2 Q)) (X := (fun (s : Int32 × AW) => E (PC S) RX2 cX2_sureOf 5 4 57 [none, none, none, some (.int s.1), none] [] s.2 Q)) ?_ hw17 ?_
  · intro s9 z9 hf k9
    obtain ⟨x3_10_1, x4_10_1, w_10_1⟩ := s9
    dsimp only [lbX2_sureOf_10_1] at hf
    show E (PC S) RX2 cX2_sureOf 5 4 10 [some (.ref 52), some (.ref o0), some (.ref r1), some (.int x3_10_1), some (.int x4_10_1)] [] w_10_1 Q
    refine E_iload (v := x4_10_1) dX2_sureOf_10 rfl ?_
    refine E_aload_n (v := o0) dX2_sureOf_12 rfl ?_
    refine E_getI fg_RX2_46 dX2_sureOf_13 (J_s0 ho0) rfl ?_
    refine E_icmp_ge 57 dX2_sureOf_16 (by decide) (fun hc3 => ?_) (fun hc3 => ?_)
    · rw [if_pos hc3] at hf
      obtain rfl := Option.some.inj hf
      refine E.fewer (ls' := [none, none, none, some (.int x3_10_1), none]) ⟨Or.inl rfl, ⟨Or.inl rfl, ⟨Or.inl rfl, ⟨Or.inr rfl, ⟨Or.inl rfl, trivial⟩⟩⟩⟩⟩ ?_
      exact k9
    · rw [if_neg hc3] at hf
      refine E_aload_n (v := 52) dX2_sureOf_19 rfl ?_
      refine E_aload_n (v := o0) dX2_sureOf_20 rfl ?_
      refine E_iload (v := x4_10_1) dX2_sureOf_21 rfl ?_
      refine E_iload (v := x4_10_1) dX2_sureOf_23 rfl ?_
      refine E_if_ne 32 dX2_sureOf_25 (by decide) (fun hc4 => ?_) (fun hc4 => ?_)
      · rw [if_pos hc4] at hf
        refine E_iconst 0 dX2_sureOf_28 ic_0 ?_
        refine E_goto 43 dX2_sureOf_29 (by decide) ?_
        refine E_aload_n (v := r1) dX2_sureOf_43 rfl ?_
        refine E_iload (v := x4_10_1) dX2_sureOf_44 rfl ?_
        obtain ⟨hi5, hf⟩ := gd_some hf
        refine E_iald (n := 6) dX2_sureOf_46 hr1 (by decide) (inb_in hi5) ?_
        obtain ⟨r7, w8, hc6, hf⟩ := bd2_some hf
        try dsimp only at hf
        refine E_callVi (rest := []) (ci := 2) cv_RX2_54 dX2_sureOf_47 (MX2_spread ho0 hc6) rfl sC_52 rfl (by decide) rfl rfl (fun _ => Nat.le_of_ble_eq_true rfl) ?_
        refine E_istore_n (ls' := [some (.ref 52), some (.ref o0), some (.ref r1), some (.int r7), some (.int x4_10_1)]) dX2_sureOf_50 rfl rfl rfl ?_
        refine E_iinc (ls' := [some (.ref 52), some (.ref o0), some (.ref r1), some (.int r7), some (.int (x4_10_1 + 1))]) 1 dX2_sureOf_51 rfl ic_1 rfl rfl rfl ?_
        refine E_goto 10 dX2_sureOf_54 (by decide) ?_
        obtain rfl := Option.some.inj hf
        exact k9
      · rw [if_neg hc4] at hf
        refine E_aload_n (v := o0) dX2_sureOf_32 rfl ?_
        refine E_getR fg_RX2_51 dX2_sureOf_33 (J_s0 ho0) rfl (J_r0_3 ho0) (Nat.succ_ne_zero _) ?_
        refine E_aload_n (v := r1) dX2_sureOf_36 rfl ?_
        refine E_iload (v := x4_10_1) dX2_sureOf_37 rfl ?_
        refine E_iconst 1 dX2_sureOf_39 ic_1 ?_
        refine E_isub dX2_sureOf_40 ?_
        obtain ⟨hi10, hf⟩ := gd_some hf
        refine E_iald (n := 6) dX2_sureOf_41 hr1 (by decide) (inb_in hi10) ?_
        obtain ⟨hi11, hf⟩ := gd_some hf
        refine E_iald (n := 6) dX2_sureOf_42 (J_s3 ho0) (by decide) (inb_in hi11) ?_
        refine E_aload_n (v := r1) dX2_sureOf_43 rfl ?_
        refine E_iload (v := x4_10_1) dX2_sureOf_44 rfl ?_
        obtain ⟨hi12, hf⟩ := gd_some hf
        refine E_iald (n := 6) dX2_sureOf_46 hr1 (by decide) (inb_in hi12) ?_
        obtain ⟨r14, w15, hc13, hf⟩ := bd2_some hf
        try dsimp only at hf
        refine E_callVi (rest := []) (ci := 2) cv_RX2_54 dX2_sureOf_47 (MX2_spread ho0 hc13) rfl sC_52 rfl (by decide) rfl rfl (fun _ => Nat.le_of_ble_eq_true rfl) ?_
        refine E_istore_n (ls' := [some (.ref 52), some (.ref o0), some (.ref r1), some (.int r14), some (.int x4_10_1)]) dX2_sureOf_50 rfl rfl rfl ?_
        refine E_iinc (ls' := [some (.ref 52), some (.ref o0), some (.ref r1), some (.int r14), some (.int (x4_10_1 + 1))]) 1 dX2_sureOf_51 rfl ic_1 rfl rfl rfl ?_
        refine E_goto 10 dX2_sureOf_54 (by decide) ?_
        obtain rfl := Option.some.inj hf
        exact k9
  · skip
    obtain ⟨y18, w19⟩ := q
    try dsimp only at hf
    show E (PC S) RX2 cX2_sureOf 5 4 57 [none, none, none, some (.int y18), none] [] w19 Q
    refine E_iload_n (v := y18) dX2_sureOf_57 rfl ?_
    obtain ⟨rfl, rfl⟩ := ret2 hf
    exact E.done (by rw [eQ]; exact ⟨rfl, Or.inl ⟨_, _, rfl, rfl, dX2_sureOf_58, rfl, rfl⟩⟩)
set_option maxRecDepth 10000 in
set_option maxHeartbeats 2000000 in
theorem MX11_sure {N : Nat} {a0 : Int32} {w : AW} {rZ : Int32} {wZ : AW} (hf : fX11_sure N a0 w = some (rZ, wZ)) : CallOK (PC S) yX11_sure cX11_sure 2 (some .int) 5 [.ref 0, .int a0] w (some (.int rZ)) wZ := by
  refine CallOK.of (ls := [some (.ref 0), some (.int a0)]) (by decide) (by simp) rfl rfl ?_
  obtain ⟨Q, eQ⟩ : ∃ Q, Q = Qret cX11_sure (some .int) (some (.int rZ)) wZ := ⟨_, rfl⟩
  rw [← eQ]
  unfold fX11_sure at hf
  refine E_iload_n (v := a0) dX11_sure_0 rfl ?_
  refine E_iconst 0 dX11_sure_1 ic_0 ?_
  refine E_iconst 1 dX11_sure_2 ic_1 ?_
  obtain ⟨r2, hc1, hf⟩ := bd_some hf
  try dsimp only at hf
  refine E_callSi (rest := []) cs_RX11_100 dX11_sure_3 (MX11_within hc1) rfl rfl rfl (fun _ => Nat.le_of_ble_eq_true rfl) ?_
  refine E_if_ne 11 dX11_sure_6 (by decide) (fun hc3 => ?_) (fun hc3 => ?_)
  · rw [if_pos hc3] at hf
    refine E_iconst (-1) dX11_sure_9 ic_m1 ?_
    obtain ⟨rfl, rfl⟩ := ret2 hf
    exact E.done (by rw [eQ]; exact ⟨rfl, Or.inl ⟨_, _, rfl, rfl, dX11_sure_10, rfl, rfl⟩⟩)
  · rw [if_neg hc3] at hf
    refine E_aload_n (v := 0) dX11_sure_11 rfl ?_
    refine E_getR fg_RX11_43 dX11_sure_12 sC_0 rfl rC_0_6 (Nat.succ_ne_zero _) ?_
    refine E_aload_n (v := 0) dX11_sure_15 rfl ?_
    refine E_getR fg_RX11_10 dX11_sure_16 sC_0 rfl rC_0_0 (Nat.succ_ne_zero _) ?_
    refine E_iconst 0 dX11_sure_19 ic_0 ?_
    obtain ⟨w5, hc4, hf⟩ := bd_some hf
    try dsimp only at hf
    refine E_callVv (rest := []) (ci := 3) cv_RX11_208 dX11_sure_20 (MX3_measure B_is1 hc4) rfl sC_46 rfl (by decide) rfl rfl (fun _ => Nat.le_of_ble_eq_true rfl) ?_
    refine E_aload_n (v := 0) dX11_sure_23 rfl ?_
    refine E_getR fg_RX11_59 dX11_sure_24 sC_0 rfl rC_0_8 (Nat.succ_ne_zero _) ?_
    refine E_aload_n (v := 0) dX11_sure_27 rfl ?_
    refine E_getR fg_RX11_10 dX11_sure_28 sC_0 rfl rC_0_0 (Nat.succ_ne_zero _) ?_
    refine E_getR fg_RX11_130 dX11_sure_31 sC_1 rfl rC_1_0 (Nat.succ_ne_zero _) ?_
    refine E_aload_n (v := 0) dX11_sure_34 rfl ?_
    refine E_getR fg_RX11_10 dX11_sure_35 sC_0 rfl rC_0_0 (Nat.succ_ne_zero _) ?_
    refine E_getR fg_RX11_183 dX11_sure_38 sC_1 rfl rC_1_4 (Nat.succ_ne_zero _) ?_
    obtain ⟨r7, w8, hc6, hf⟩ := bd2_some hf
    try dsimp only at hf
    refine E_callVi (rest := []) (ci := 2) cv_RX11_238 dX11_sure_41 (MX2_sureOf J_is2 sC_11 hc6) rfl sC_52 rfl (by decide) rfl rfl (fun _ => Nat.le_of_ble_eq_true rfl) ?_
    refine E_iconst 2 dX11_sure_44 ic_2 ?_
    refine E_aload_n (v := 0) dX11_sure_45 rfl ?_
    refine E_getR fg_RX11_10 dX11_sure_46 sC_0 rfl rC_0_0 (Nat.succ_ne_zero _) ?_
    refine E_getR fg_RX11_130 dX11_sure_49 sC_1 rfl rC_1_0 (Nat.succ_ne_zero _) ?_
    refine E_getI fg_RX11_131 dX11_sure_52 sC_2 rfl ?_
    refine E_imul dX11_sure_55 ?_
    refine E_iload_n (v := a0) dX11_sure_56 rfl ?_
    obtain ⟨r11, hc10, hf⟩ := bd_some hf
    try dsimp only at hf
    refine E_callSi (rest := []) cs_RX11_242 dX11_sure_57 (MX11_partOf hc10) rfl rfl rfl (fun _ => Nat.le_of_ble_eq_true rfl) ?_
    obtain ⟨rfl, rfl⟩ := ret2 hf
    exact E.done (by rw [eQ]; exact ⟨rfl, Or.inl ⟨_, _, rfl, rfl, dX11_sure_60, rfl, rfl⟩⟩)
set_option maxRecDepth 10000 in
set_option maxHeartbeats 2000000 in
theorem MX11_till {w : AW} {rZ : Int32} (hf : fX11_till w = some rZ) : CallOK (PC S) yX11_till cX11_till 1 (some .int) 1 [.ref 0] w (some (.int rZ)) w := by
  refine CallOK.of (ls := [some (.ref 0)]) (by decide) (by simp) rfl rfl ?_
  obtain ⟨Q, eQ⟩ : ∃ Q, Q = Qret cX11_till (some .int) (some (.int rZ)) w := ⟨_, rfl⟩
  rw [← eQ]
  unfold fX11_till at hf
  refine E_aload_n (v := 0) dX11_till_0 rfl ?_
  refine E_getR fg_RX11_10 dX11_till_1 sC_0 rfl rC_0_0 (Nat.succ_ne_zero _) ?_
  refine E_getI fg_RX11_284 dX11_till_4 sC_1 rfl ?_
  obtain rfl := Option.some.inj hf
  exact E.done (by rw [eQ]; exact ⟨rfl, Or.inl ⟨_, _, rfl, rfl, dX11_till_7, rfl, rfl⟩⟩)
set_option maxRecDepth 10000 in
set_option maxHeartbeats 2000000 in
theorem MX11_worth {N : Nat} {w : AW} {rZ : Int32} {wZ : AW} (hf : fX11_worth N w = some (rZ, wZ)) : CallOK (PC S) yX11_worth cX11_worth 3 (some .int) 5 [.ref 0] w (some (.int rZ)) wZ := by
  refine CallOK.of (ls := [some (.ref 0), none, none]) (by decide) (by simp) rfl rfl ?_
  obtain ⟨Q, eQ⟩ : ∃ Q, Q = Qret cX11_worth (some .int) (some (.int rZ)) wZ := ⟨_, rfl⟩
  rw [← eQ]
  unfold fX11_worth at hf
  refine E_aload_n (v := 0) dX11_worth_0 rfl ?_
  obtain ⟨w2, hc1, hf⟩ := bd_some hf
  try dsimp only at hf
  refine E_callVv (rest := []) (ci := 11) cv_RX11_194 dX11_worth_1 (MX11_followPlan hc1) rfl sC_0 rfl (by decide) rfl rfl (fun _ => Nat.le_of_ble_eq_true rfl) ?_
  refine E_iconst 0 dX11_worth_4 ic_0 ?_
  refine E_istore_n (ls' := [some (.ref 0), some (.int 0), none]) dX11_worth_5 rfl rfl rfl ?_
  refine E_iconst 0 dX11_worth_6 ic_0 ?_
  refine E_istore_n (ls' := [some (.ref 0), some (.int 0), some (.int 0)]) dX11_worth_7 rfl rfl rfl ?_
  obtain ⟨q, hw7, hf⟩ := bd_some hf
  try dsimp only at hf
  show (fun (s : Int32 × Int32) => E (PC S) RX11 cX11_worth 3 5 8 [some (.ref 0), some (.int s.1), some (.int s.2)] [] w2 Q) (0, 0)
  refine wh_E (K := (fun (s : Int32 × Int32) => E (PC S) RX11 cX11_worth 3 5 8 [some (.ref 0), some (.int s.1), some (.int s.2)] [] w2 Q)) (X := (fun (s : Int32) => E (PC S) RX11 cX11_worth 3 5 58 [none, some (.int s), none] [] w2 Q)) ?_ hw7 ?_
  · intro s9 z9 hf k9
    obtain ⟨x1_8_1, x2_8_1⟩ := s9
    dsimp only [lbX11_worth_8_1] at hf
    show E (PC S) RX11 cX11_worth 3 5 8 [some (.ref 0), some (.int x1_8_1), some (.int x2_8_1)] [] w2 Q
    refine E_iload_n (v := x2_8_1) dX11_worth_8 rfl ?_
    refine E_aload_n (v := 0) dX11_worth_9 rfl ?_
    refine E_getR fg_RX11_10 dX11_worth_10 sC_0 rfl rC_0_0 (Nat.succ_ne_zero _) ?_
    refine E_getR fg_RX11_130 dX11_worth_13 sC_1 rfl rC_1_0 (Nat.succ_ne_zero _) ?_
    refine E_getI fg_RX11_131 dX11_worth_16 sC_2 rfl ?_
    refine E_icmp_ge 58 dX11_worth_19 (by decide) (fun hc3 => ?_) (fun hc3 => ?_)
    · rw [if_pos hc3] at hf
      obtain rfl := Option.some.inj hf
      refine E.fewer (ls' := [none, some (.int x1_8_1), none]) ⟨Or.inl rfl, ⟨Or.inr rfl, ⟨Or.inl rfl, trivial⟩⟩⟩ ?_
      exact k9
    · rw [if_neg hc3] at hf
      refine E_iload_n (v := x1_8_1) dX11_worth_22 rfl ?_
      refine E_aload_n (v := 0) dX11_worth_23 rfl ?_
      refine E_getR fg_RX11_10 dX11_worth_24 sC_0 rfl rC_0_0 (Nat.succ_ne_zero _) ?_
      refine E_getR fg_RX11_130 dX11_worth_27 sC_1 rfl rC_1_0 (Nat.succ_ne_zero _) ?_
      refine E_iload_n (v := x2_8_1) dX11_worth_30 rfl ?_
      refine E_aload_n (v := 0) dX11_worth_31 rfl ?_
      refine E_getR fg_RX11_43 dX11_worth_32 sC_0 rfl rC_0_6 (Nat.succ_ne_zero _) ?_
      refine E_getR fg_RX11_197 dX11_worth_35 sC_46 rfl rC_46_1 (Nat.succ_ne_zero _) ?_
      refine E_iload_n (v := x2_8_1) dX11_worth_38 rfl ?_
      obtain ⟨hi4, hf⟩ := gd_some hf
      refine E_iald (n := 6) dX11_worth_39 sC_48 (by decide) (inb_in hi4) ?_
      refine E_aload_n (v := 0) dX11_worth_40 rfl ?_
      refine E_getR fg_RX11_43 dX11_worth_41 sC_0 rfl rC_0_6 (Nat.succ_ne_zero _) ?_
      refine E_getI fg_RX11_200 dX11_worth_44 sC_46 rfl ?_
      obtain ⟨r6, hc5, hf⟩ := bd_some hf
      try dsimp only at hf
      refine E_callVi (rest := [.int x1_8_1]) (ci := 4) cv_RX11_203 dX11_worth_47 (MX4_valueOf J_is2 hc5) rfl sC_2 rfl (by decide) rfl rfl (fun _ => Nat.le_of_ble_eq_true rfl) ?_
      refine E_iadd dX11_worth_50 ?_
      refine E_istore_n (ls' := [some (.ref 0), some (.int (x1_8_1 + r6)), some (.int x2_8_1)]) dX11_worth_51 rfl rfl rfl ?_
      refine E_iinc (ls' := [some (.ref 0), some (.int (x1_8_1 + r6)), some (.int (x2_8_1 + 1))]) 1 dX11_worth_52 rfl ic_1 rfl rfl rfl ?_
      refine E_goto 8 dX11_worth_55 (by decide) ?_
      obtain rfl := Option.some.inj hf
      exact k9
  · skip
    obtain ⟨y8, hq9⟩ : ∃ a, a = q := ⟨_, rfl⟩
    subst hq9
    try dsimp only at hf
    show E (PC S) RX11 cX11_worth 3 5 58 [none, some (.int y8), none] [] w2 Q
    refine E_iload_n (v := y8) dX11_worth_58 rfl ?_
    obtain ⟨rfl, rfl⟩ := ret2 hf
    exact E.done (by rw [eQ]; exact ⟨rfl, Or.inl ⟨_, _, rfl, rfl, dX11_worth_59, rfl, rfl⟩⟩)
set_option maxRecDepth 10000 in
set_option maxHeartbeats 2000000 in
theorem ML_at {S : SC} {a1 : Int32} {w : AW} {rZ : Int32} (hf : fL_at S a1 w = some rZ) : CallOK (PC S) yL_at cL_at 2 (some .int) 1 [.retAddr 3, .int a1] w (some (.int rZ)) w := by
  refine CallOK.of (ls := [some (.retAddr 3), some (.int a1)]) (by decide) (by simp) rfl rfl ?_
  obtain ⟨Q, eQ⟩ : ∃ Q, Q = Qret cL_at (some .int) (some (.int rZ)) w := ⟨_, rfl⟩
  rw [← eQ]
  unfold fL_at at hf
  refine E_aloadx_n dL_at_0 rfl ?_
  refine E_slen dL_at_1 ?_
  show E (PC S) yL_at.cls cL_at 2 1 2 [some (.retAddr 3), some (.int a1)] [.int (Int32.ofNat S.1)] w Q
  refine E_iload_n (v := a1) dL_at_2 rfl ?_
  refine E_icmp_le 12 dL_at_3 (by decide) (fun hc1 => ?_) (fun hc1 => ?_)
  · rw [if_pos hc1] at hf
    refine E_bipush 37 dL_at_12 bp_37 ?_
    refine E_iload_n (v := a1) dL_at_14 rfl ?_
    refine E_imul dL_at_15 ?_
    refine E_bipush 11 dL_at_16 bp_11 ?_
    refine E_iadd dL_at_18 ?_
    obtain rfl := Option.some.inj hf
    exact E.done (by rw [eQ]; exact ⟨rfl, Or.inl ⟨_, _, rfl, rfl, dL_at_19, rfl, rfl⟩⟩)
  · rw [if_neg hc1] at hf
    refine E_aloadx_n dL_at_6 rfl ?_
    refine E_iload_n (v := a1) dL_at_7 rfl ?_
    obtain ⟨hi2, hf⟩ := gd_some hf
    refine E_script dL_at_8 (inb_in hi2) ?_
    refine E_goto 19 dL_at_9 (by decide) ?_
    obtain rfl := Option.some.inj hf
    exact E.done (by rw [eQ]; exact ⟨rfl, Or.inl ⟨_, _, rfl, rfl, dL_at_19, rfl, rfl⟩⟩)
set_option maxRecDepth 10000 in
set_option maxHeartbeats 2000000 in
theorem ML_isOrder {N : Nat} {a0 : Int32} {a1 : Int32} {w : AW} {rZ : Int32} (hf : fL_isOrder N a0 a1 w = some rZ) : CallOK (PC S) yL_isOrder cL_isOrder 4 (some .boolean) 1 [.int a0, .int a1] w (some (.int rZ)) w := by
  refine CallOK.of (ls := [some (.int a0), some (.int a1), none, none]) (by decide) (by simp) rfl rfl ?_
  obtain ⟨Q, eQ⟩ : ∃ Q, Q = Qret cL_isOrder (some .boolean) (some (.int rZ)) w := ⟨_, rfl⟩
  rw [← eQ]
  unfold fL_isOrder at hf
  refine E_iconst 0 dL_isOrder_0 ic_0 ?_
  refine E_istore_n (ls' := [some (.int a0), some (.int a1), some (.int 0), none]) dL_isOrder_1 rfl rfl rfl ?_
  refine E_iconst 0 dL_isOrder_2 ic_0 ?_
  refine E_istore_n (ls' := [some (.int a0), some (.int a1), some (.int 0), some (.int 0)]) dL_isOrder_3 rfl rfl rfl ?_
  obtain ⟨q, hw3, hf⟩ := bd_some hf
  try dsimp only at hf
  show (fun (s : Int32 × Int32) => E (PC S) RL cL_isOrder 4 1 4 [some (.int a0), some (.int a1), some (.int s.1), some (.int s.2)] [] w Q) (0, 0)
  refine wh_E (K := (fun (s : Int32 × Int32) => E (PC S) RL cL_isOrder 4 1 4 [some (.int a0), some (.int a1), some (.int s.1), some (.int s.2)] [] w Q)) (X := (fun (s : Int32) => E (PC S) RL cL_isOrder 4 1 28 [some (.int a0), some (.int a1), some (.int s), none] [] w Q)) ?_ hw3 ?_
  · intro s9 z9 hf k9
    obtain ⟨x2_4_1, x3_4_1⟩ := s9
    dsimp only [lbL_isOrder_4_1] at hf
    show E (PC S) RL cL_isOrder 4 1 4 [some (.int a0), some (.int a1), some (.int x2_4_1), some (.int x3_4_1)] [] w Q
    refine E_iload_n (v := x3_4_1) dL_isOrder_4 rfl ?_
    refine E_iload_n (v := a1) dL_isOrder_5 rfl ?_
    refine E_icmp_ge 28 dL_isOrder_6 (by decide) (fun hc1 => ?_) (fun hc1 => ?_)
    · rw [if_pos hc1] at hf
      obtain rfl := Option.some.inj hf
      refine E.fewer (ls' := [some (.int a0), some (.int a1), some (.int x2_4_1), none]) ⟨Or.inr rfl, ⟨Or.inr rfl, ⟨Or.inr rfl, ⟨Or.inl rfl, trivial⟩⟩⟩⟩ ?_
      exact k9
    · rw [if_neg hc1] at hf
      refine E_iload_n (v := x2_4_1) dL_isOrder_9 rfl ?_
      refine E_iconst 1 dL_isOrder_10 ic_1 ?_
      refine E_iload_n (v := a0) dL_isOrder_11 rfl ?_
      refine E_iconst 3 dL_isOrder_12 ic_3 ?_
      refine E_iload_n (v := x3_4_1) dL_isOrder_13 rfl ?_
      refine E_imul dL_isOrder_14 ?_
      refine E_ishr dL_isOrder_15 ?_
      refine E_bipush 7 dL_isOrder_16 bp_7 ?_
      refine E_iand dL_isOrder_18 ?_
      refine E_ishl dL_isOrder_19 ?_
      refine E_ior dL_isOrder_20 ?_
      obtain ⟨v2, ev2, hf⟩ := lw_some hf
      try dsimp only at hf
      rw [← ev2]
      refine E_istore_n (ls' := [some (.int a0), some (.int a1), some (.int v2), some (.int x3_4_1)]) dL_isOrder_21 rfl rfl rfl ?_
      refine E_iinc (ls' := [some (.int a0), some (.int a1), some (.int v2), some (.int (x3_4_1 + 1))]) 1 dL_isOrder_22 rfl ic_1 rfl rfl rfl ?_
      refine E_goto 4 dL_isOrder_25 (by decide) ?_
      obtain rfl := Option.some.inj hf
      exact k9
  · skip
    obtain ⟨y4, hq9⟩ : ∃ a, a = q := ⟨_, rfl⟩
    subst hq9
    try dsimp only at hf
    show E (PC S) RL cL_isOrder 4 1 28 [some (.int a0), some (.int a1), some (.int y4), none] [] w Q
    refine E_iload_n (v := y4) dL_isOrder_28 rfl ?_
    refine E_iconst 1 dL_isOrder_29 ic_1 ?_
    refine E_iload_n (v := a1) dL_isOrder_30 rfl ?_
    refine E_ishl dL_isOrder_31 ?_
    refine E_iconst 1 dL_isOrder_32 ic_1 ?_
    refine E_isub dL_isOrder_33 ?_
    refine E_icmp_ne 49 dL_isOrder_34 (by decide) (fun hc5 => ?_) (fun hc5 => ?_)
    · rw [if_pos hc5] at hf
      refine E_iload_n (v := a0) dL_isOrder_37 rfl ?_
      refine E_iconst 3 dL_isOrder_38 ic_3 ?_
      refine E_iload_n (v := a1) dL_isOrder_39 rfl ?_
      refine E_imul dL_isOrder_40 ?_
      refine E_ishr dL_isOrder_41 ?_
      refine E_if_ne 49 dL_isOrder_42 (by decide) (fun hc6 => ?_) (fun hc6 => ?_)
      · rw [if_pos hc6] at hf
        refine E_iconst 1 dL_isOrder_45 ic_1 ?_
        refine E_goto 50 dL_isOrder_46 (by decide) ?_
        obtain rfl := Option.some.inj hf
        exact E.done (by rw [eQ]; exact ⟨rfl, Or.inl ⟨_, _, rfl, rfl, dL_isOrder_50, rfl, rfl⟩⟩)
      · rw [if_neg hc6] at hf
        refine E_iconst 0 dL_isOrder_49 ic_0 ?_
        obtain rfl := Option.some.inj hf
        exact E.done (by rw [eQ]; exact ⟨rfl, Or.inl ⟨_, _, rfl, rfl, dL_isOrder_50, rfl, rfl⟩⟩)
    · rw [if_neg hc5] at hf
      refine E_iconst 0 dL_isOrder_49 ic_0 ?_
      obtain rfl := Option.some.inj hf
      exact E.done (by rw [eQ]; exact ⟨rfl, Or.inl ⟨_, _, rfl, rfl, dL_isOrder_50, rfl, rfl⟩⟩)
set_option maxRecDepth 10000 in
set_option maxHeartbeats 2000000 in
theorem ML_mod {a0 : Int32} {a1 : Int32} {w : AW} {rZ : Int32} (hf : fL_mod a0 a1 w = some rZ) : CallOK (PC S) yL_mod cL_mod 3 (some .int) 1 [.int a0, .int a1] w (some (.int rZ)) w := by
  refine CallOK.of (ls := [some (.int a0), some (.int a1), none]) (by decide) (by simp) rfl rfl ?_
  obtain ⟨Q, eQ⟩ : ∃ Q, Q = Qret cL_mod (some .int) (some (.int rZ)) w := ⟨_, rfl⟩
  rw [← eQ]
  unfold fL_mod at hf
  refine E_iload_n (v := a0) dL_mod_0 rfl ?_
  refine E_iload_n (v := a1) dL_mod_1 rfl ?_
  obtain ⟨hz1, hf⟩ := gd_some hf
  refine E_irem dL_mod_2 (of_decide_eq_true hz1) ?_
  refine E_istore_n (ls' := [some (.int a0), some (.int a1), some (.int (a0 - a0 / a1 * a1))]) dL_mod_3 rfl rfl rfl ?_
  refine E_iload_n (v := (a0 - a0 / a1 * a1)) dL_mod_4 rfl ?_
  refine E_if_ge 14 dL_mod_5 (by decide) (fun hc2 => ?_) (fun hc2 => ?_)
  · rw [if_pos hc2] at hf
    refine E_iload_n (v := (a0 - a0 / a1 * a1)) dL_mod_14 rfl ?_
    obtain rfl := Option.some.inj hf
    exact E.done (by rw [eQ]; exact ⟨rfl, Or.inl ⟨_, _, rfl, rfl, dL_mod_15, rfl, rfl⟩⟩)
  · rw [if_neg hc2] at hf
    refine E_iload_n (v := (a0 - a0 / a1 * a1)) dL_mod_8 rfl ?_
    refine E_iload_n (v := a1) dL_mod_9 rfl ?_
    refine E_iadd dL_mod_10 ?_
    refine E_goto 15 dL_mod_11 (by decide) ?_
    obtain rfl := Option.some.inj hf
    exact E.done (by rw [eQ]; exact ⟨rfl, Or.inl ⟨_, _, rfl, rfl, dL_mod_15, rfl, rfl⟩⟩)
set_option maxRecDepth 10000 in
set_option maxHeartbeats 2000000 in
theorem ML_lay {N : Nat} {S : SC} {a2 : Int32} {w : AW} {rZ : Int32} {wZ : AW} (hf : fL_lay N S a2 w = some (rZ, wZ)) : CallOK (PC S) yL_lay cL_lay 11 (some .int) 4 [.ref 0, .retAddr 3, .int a2, .ref 76, .ref 77, .ref 78, .ref 79] w (some (.int rZ)) wZ := by
  refine CallOK.of (ls := [some (.ref 0), some (.retAddr 3), some (.int a2), some (.ref 76), some (.ref 77), some (.ref 78), some (.ref 79), none, none, none, none]) (by decide) (by simp) rfl rfl ?_
  obtain ⟨Q, eQ⟩ : ∃ Q, Q = Qret cL_lay (some .int) (some (.int rZ)) wZ := ⟨_, rfl⟩
  rw [← eQ]
  unfold fL_lay at hf
  refine E_aloadx_n dL_lay_0 rfl ?_
  refine E_iconst 0 dL_lay_1 ic_0 ?_
  obtain ⟨r2, hc1, hf⟩ := bd_some hf
  try dsimp only at hf
  refine E_callSi (rest := []) cs_RL_17 dL_lay_2 (ML_at hc1) rfl rfl rfl (fun _ => Nat.le_of_ble_eq_true rfl) ?_
  refine E_istore (ls' := [some (.ref 0), some (.retAddr 3), some (.int a2), some (.ref 76), some (.ref 77), some (.ref 78), some (.ref 79), some (.int r2), none, none, none]) dL_lay_5 rfl rfl rfl ?_
  refine E_aload (v := 77) dL_lay_7 rfl ?_
  refine E_iconst 0 dL_lay_9 ic_0 ?_
  refine E_iconst 1 dL_lay_10 ic_1 ?_
  refine E_iload (v := r2) dL_lay_11 rfl ?_
  refine E_iconst 4 dL_lay_13 ic_4 ?_
  obtain ⟨r4, hc3, hf⟩ := bd_some hf
  try dsimp only at hf
  refine E_callSi (rest := [.int 1, .int 0, .ref 77]) cs_RL_21 dL_lay_14 (ML_mod hc3) rfl rfl rfl (fun _ => Nat.le_of_ble_eq_true rfl) ?_
  refine E_iadd dL_lay_17 ?_
  obtain ⟨w5, ew5, hf⟩ := lw_some hf
  try dsimp only at hf
  refine E_iast (n := 4) dL_lay_18 sC_77 (by decide) (inb_in (by decide)) ?_
  rw [← ew5]
  refine E_aload (v := 77) dL_lay_19 rfl ?_
  refine E_iconst 1 dL_lay_21 ic_1 ?_
  refine E_iload (v := r2) dL_lay_22 rfl ?_
  refine E_iconst 2 dL_lay_24 ic_2 ?_
  refine E_ishr dL_lay_25 ?_
  refine E_iconst 4 dL_lay_26 ic_4 ?_
  obtain ⟨r7, hc6, hf⟩ := bd_some hf
  try dsimp only at hf
  refine E_callSi (rest := [.int 1, .ref 77]) cs_RL_21 dL_lay_27 (ML_mod hc6) rfl rfl rfl (fun _ => Nat.le_of_ble_eq_true rfl) ?_
  obtain ⟨w8, ew8, hf⟩ := lw_some hf
  try dsimp only at hf
  refine E_iast (n := 4) dL_lay_30 sC_77 (by decide) (inb_in (by decide)) ?_
  rw [← ew8]
  refine E_aload (v := 77) dL_lay_31 rfl ?_
  refine E_iconst 2 dL_lay_33 ic_2 ?_
  refine E_iload (v := r2) dL_lay_34 rfl ?_
  refine E_iconst 4 dL_lay_36 ic_4 ?_
  refine E_ishr dL_lay_37 ?_
  refine E_bipush 100 dL_lay_38 bp_100 ?_
  obtain ⟨r10, hc9, hf⟩ := bd_some hf
  try dsimp only at hf
  refine E_callSi (rest := [.int 2, .ref 77]) cs_RL_21 dL_lay_40 (ML_mod hc9) rfl rfl rfl (fun _ => Nat.le_of_ble_eq_true rfl) ?_
  obtain ⟨w11, ew11, hf⟩ := lw_some hf
  try dsimp only at hf
  refine E_iast (n := 4) dL_lay_43 sC_77 (by decide) (inb_in (by decide)) ?_
  rw [← ew11]
  refine E_aload (v := 77) dL_lay_44 rfl ?_
  refine E_iconst 3 dL_lay_46 ic_3 ?_
  refine E_iload (v := r2) dL_lay_47 rfl ?_
  refine E_bipush 11 dL_lay_49 bp_11 ?_
  refine E_ishr dL_lay_51 ?_
  refine E_iconst 5 dL_lay_52 ic_5 ?_
  obtain ⟨r13, hc12, hf⟩ := bd_some hf
  try dsimp only at hf
  refine E_callSi (rest := [.int 3, .ref 77]) cs_RL_21 dL_lay_53 (ML_mod hc12) rfl rfl rfl (fun _ => Nat.le_of_ble_eq_true rfl) ?_
  obtain ⟨w14, ew14, hf⟩ := lw_some hf
  try dsimp only at hf
  refine E_iast (n := 4) dL_lay_56 sC_77 (by decide) (inb_in (by decide)) ?_
  rw [← ew14]
  refine E_aload_n (v := 0) dL_lay_57 rfl ?_
  refine E_iconst 0 dL_lay_58 ic_0 ?_
  refine E_aload (v := 77) dL_lay_59 rfl ?_
  refine E_iconst 0 dL_lay_61 ic_0 ?_
  refine E_iald (n := 4) dL_lay_62 sC_77 (by decide) (inb_in (by decide)) ?_
  obtain ⟨r16, w17, hc15, hf⟩ := bd2_some hf
  try dsimp only at hf
  refine E_callVi (rest := []) (ci := 11) cv_RL_25 dL_lay_63 (MX11_set hc15) rfl sC_0 rfl (by decide) rfl rfl (fun _ => Nat.le_of_ble_eq_true rfl) ?_
  refine E_iconst 2 dL_lay_66 ic_2 ?_
  refine E_icmp_ne 109 dL_lay_67 (by decide) (fun hc19 => ?_) (fun hc19 => ?_)
  · rw [if_pos hc19] at hf
    refine E_aload_n (v := 0) dL_lay_70 rfl ?_
    refine E_iconst 1 dL_lay_71 ic_1 ?_
    refine E_aload (v := 77) dL_lay_72 rfl ?_
    refine E_iconst 1 dL_lay_74 ic_1 ?_
    refine E_iald (n := 4) dL_lay_75 sC_77 (by decide) (inb_in (by decide)) ?_
    obtain ⟨r21, w22, hc20, hf⟩ := bd2_some hf
    try dsimp only at hf
    refine E_callVi (rest := []) (ci := 11) cv_RL_25 dL_lay_76 (MX11_set hc20) rfl sC_0 rfl (by decide) rfl rfl (fun _ => Nat.le_of_ble_eq_true rfl) ?_
    refine E_iconst 1 dL_lay_79 ic_1 ?_
    refine E_icmp_ne 109 dL_lay_80 (by decide) (fun hc24 => ?_) (fun hc24 => ?_)
    · rw [if_pos hc24] at hf
      refine E_aload_n (v := 0) dL_lay_83 rfl ?_
      refine E_iconst 2 dL_lay_84 ic_2 ?_
      refine E_aload (v := 77) dL_lay_85 rfl ?_
      refine E_iconst 2 dL_lay_87 ic_2 ?_
      refine E_iald (n := 4) dL_lay_88 sC_77 (by decide) (inb_in (by decide)) ?_
      obtain ⟨r26, w27, hc25, hf⟩ := bd2_some hf
      try dsimp only at hf
      refine E_callVi (rest := []) (ci := 11) cv_RL_25 dL_lay_89 (MX11_set hc25) rfl sC_0 rfl (by decide) rfl rfl (fun _ => Nat.le_of_ble_eq_true rfl) ?_
      refine E_iconst 5 dL_lay_92 ic_5 ?_
      refine E_icmp_ne 109 dL_lay_93 (by decide) (fun hc29 => ?_) (fun hc29 => ?_)
      · rw [if_pos hc29] at hf
        refine E_aload_n (v := 0) dL_lay_96 rfl ?_
        refine E_iconst 3 dL_lay_97 ic_3 ?_
        refine E_aload (v := 77) dL_lay_98 rfl ?_
        refine E_iconst 3 dL_lay_100 ic_3 ?_
        refine E_iald (n := 4) dL_lay_101 sC_77 (by decide) (inb_in (by decide)) ?_
        obtain ⟨r31, w32, hc30, hf⟩ := bd2_some hf
        try dsimp only at hf
        refine E_callVi (rest := []) (ci := 11) cv_RL_25 dL_lay_102 (MX11_set hc30) rfl sC_0 rfl (by decide) rfl rfl (fun _ => Nat.le_of_ble_eq_true rfl) ?_
        refine E_iconst 1 dL_lay_105 ic_1 ?_
        refine E_icmp_eq 111 dL_lay_106 (by decide) (fun hc34 => ?_) (fun hc34 => ?_)
        · rw [if_pos hc34] at hf
          refine E_iconst 0 dL_lay_111 ic_0 ?_
          refine E_istore (ls' := [some (.ref 0), some (.retAddr 3), some (.int a2), some (.ref 76), some (.ref 77), some (.ref 78), some (.ref 79), some (.int r2), some (.int 0), none, none]) dL_lay_112 rfl rfl rfl ?_
          obtain ⟨q, hw115, hf⟩ := bd_some hf
          try dsimp only at hf
          refine E.fewer (ls' := [some (.ref 0), some (.retAddr 3), some (.int a2), some (.ref 76), none, some (.ref 78), some (.ref 79), none, some (.int 0), none, none]) ⟨Or.inr rfl, ⟨Or.inr rfl, ⟨Or.inr rfl, ⟨Or.inr rfl, ⟨Or.inl rfl, ⟨Or.inr rfl, ⟨Or.inr rfl, ⟨Or.inl rfl, ⟨Or.inr rfl, ⟨Or.inl rfl, ⟨Or.inl rfl, trivial⟩⟩⟩⟩⟩⟩⟩⟩⟩⟩⟩ ?_
          show (fun (s : Int32 × AW) => E (PC S) RL cL_lay 11 4 114 [some (.ref 0), some (.retAddr 3), some (.int a2), some (.ref 76), none, some (.ref 78), some (.ref 79), none, some (.int s.1), none, none] [] s.2 Q) (0, w32)
          refine wh_E (K := (fun (s : Int32 × AW) => E (PC S) RL cL_lay 11 4 114 [some (.ref 0), some (.retAddr 3), some (.int a2), some (.ref 76), none, some (.ref 78), some (.ref 79), none, some (.int s.1), none, none] [] s.2 Q)) (X := (se (fun (s : AW) => E (PC S) RL cL_lay 11 4 220 [some (.ref 0), some (.retAddr 3), some (.int a2), some (.ref 76), none, none, none, none, none, none, none] [] s Q) (fun (s : AW) => E (PC S) RL cL_lay 11 4 212 [none, none, none, none, none, none, none, none, none, none, none] [] s Q))) ?_ hw115 ?_
          · intro s9 z9 hf k9
            obtain ⟨x8_114_1, w_114_1⟩ := s9
            dsimp only [lbL_lay_114_1] at hf
            show E (PC S) RL cL_lay 11 4 114 [some (.ref 0), some (.retAddr 3), some (.int a2), some (.ref 76), none, some (.ref 78), some (.ref 79), none, some (.int x8_114_1), none, none] [] w_114_1 Q
            refine E_iload (v := x8_114_1) dL_lay_114 rfl ?_
            refine E_bipush 10 dL_lay_116 bp_10 ?_
            refine E_icmp_ge 220 dL_lay_118 (by decide) (fun hc35 => ?_) (fun hc35 => ?_)
            · rw [if_pos hc35] at hf
              obtain rfl := Option.some.inj hf
              refine E.fewer (ls' := [some (.ref 0), some (.retAddr 3), some (.int a2), some (.ref 76), none, none, none, none, none, none, none]) ⟨Or.inr rfl, ⟨Or.inr rfl, ⟨Or.inr rfl, ⟨Or.inr rfl, ⟨Or.inl rfl, ⟨Or.inl rfl, ⟨Or.inl rfl, ⟨Or.inl rfl, ⟨Or.inl rfl, ⟨Or.inl rfl, ⟨Or.inl rfl, trivial⟩⟩⟩⟩⟩⟩⟩⟩⟩⟩⟩ ?_
              exact k9
            · rw [if_neg hc35] at hf
              refine E_aloadx_n dL_lay_121 rfl ?_
              refine E_iconst 1 dL_lay_122 ic_1 ?_
              obtain ⟨r37, hc36, hf⟩ := bd_some hf
              try dsimp only at hf
              refine E_callSi (rest := []) cs_RL_17 dL_lay_123 (ML_at hc36) rfl rfl rfl (fun _ => Nat.le_of_ble_eq_true rfl) ?_
              refine E_iconst 3 dL_lay_126 ic_3 ?_
              refine E_iload (v := x8_114_1) dL_lay_127 rfl ?_
              refine E_imul dL_lay_129 ?_
              refine E_ishr dL_lay_130 ?_
              refine E_istore (ls' := [some (.ref 0), some (.retAddr 3), some (.int a2), some (.ref 76), none, some (.ref 78), some (.ref 79), none, some (.int x8_114_1), some (.int (r37 >>> ((3 * x8_114_1) &&& 31))), none]) dL_lay_131 rfl rfl rfl ?_
              refine E_aload (v := 78) dL_lay_133 rfl ?_
              refine E_iload (v := x8_114_1) dL_lay_135 rfl ?_
              refine E_iload (v := (r37 >>> ((3 * x8_114_1) &&& 31))) dL_lay_137 rfl ?_
              refine E_bipush 7 dL_lay_139 bp_7 ?_
              refine E_iand dL_lay_141 ?_
              refine E_iconst 1 dL_lay_142 ic_1 ?_
              refine E_icmp_ne 150 dL_lay_143 (by decide) (fun hc38 => ?_) (fun hc38 => ?_)
              · rw [if_pos hc38] at hf
                refine E_iconst 2 dL_lay_146 ic_2 ?_
                refine E_goto 164 dL_lay_147 (by decide) ?_
                obtain ⟨hi39, hf⟩ := gd_some hf
                obtain ⟨w40, ew40, hf⟩ := lw_some hf
                try dsimp only at hf
                refine E_iast (n := 10) dL_lay_164 sC_78 (by decide) (inb_in hi39) ?_
                rw [← ew40]
                refine E_aload (v := 79) dL_lay_165 rfl ?_
                refine E_iload (v := x8_114_1) dL_lay_167 rfl ?_
                refine E_iload (v := (r37 >>> ((3 * x8_114_1) &&& 31))) dL_lay_169 rfl ?_
                refine E_bipush 7 dL_lay_171 bp_7 ?_
                refine E_iand dL_lay_173 ?_
                refine E_iconst 3 dL_lay_174 ic_3 ?_
                refine E_icmp_ne 182 dL_lay_175 (by decide) (fun hc41 => ?_) (fun hc41 => ?_)
                · rw [if_pos hc41] at hf
                  refine E_iconst 1 dL_lay_178 ic_1 ?_
                  refine E_goto 183 dL_lay_179 (by decide) ?_
                  obtain ⟨w42, ew42, hf⟩ := lw_some hf
                  try dsimp only at hf
                  refine E_iast (n := 10) dL_lay_183 sC_79 (by decide) (inb_in hi39) ?_
                  rw [← ew42]
                  refine E_aload_n (v := 0) dL_lay_184 rfl ?_
                  refine E_iload (v := x8_114_1) dL_lay_185 rfl ?_
                  refine E_aload (v := 78) dL_lay_187 rfl ?_
                  refine E_iload (v := x8_114_1) dL_lay_189 rfl ?_
                  refine E_iald (n := 10) dL_lay_191 sC_78 (by decide) (inb_in hi39) ?_
                  obtain ⟨r44, w45, hc43, hf⟩ := bd2_some hf
                  try dsimp only at hf
                  refine E_callVi (rest := []) (ci := 11) cv_RL_30 dL_lay_192 (MX11_lose hc43) rfl sC_0 rfl (by decide) rfl rfl (fun _ => Nat.le_of_ble_eq_true rfl) ?_
                  refine E_if_ne 212 dL_lay_195 (by decide) (fun hc47 => ?_) (fun hc47 => ?_)
                  · rw [if_pos hc47] at hf
                    refine E_aload_n (v := 0) dL_lay_198 rfl ?_
                    refine E_iload (v := x8_114_1) dL_lay_199 rfl ?_
                    refine E_aload (v := 79) dL_lay_201 rfl ?_
                    refine E_iload (v := x8_114_1) dL_lay_203 rfl ?_
                    refine E_iald (n := 10) dL_lay_205 sC_79 (by decide) (inb_in hi39) ?_
                    obtain ⟨r49, w50, hc48, hf⟩ := bd2_some hf
                    try dsimp only at hf
                    refine E_callVi (rest := []) (ci := 11) cv_RL_33 dL_lay_206 (MX11_night hc48) rfl sC_0 rfl (by decide) rfl rfl (fun _ => Nat.le_of_ble_eq_true rfl) ?_
                    refine E_if_eq 214 dL_lay_209 (by decide) (fun hc52 => ?_) (fun hc52 => ?_)
                    · rw [if_pos hc52] at hf
                      refine E_iinc (ls' := [some (.ref 0), some (.retAddr 3), some (.int a2), some (.ref 76), none, some (.ref 78), some (.ref 79), none, some (.int (x8_114_1 + 1)), some (.int (r37 >>> ((3 * x8_114_1) &&& 31))), none]) 1 dL_lay_214 rfl ic_1 rfl rfl rfl ?_
                      refine E_goto 114 dL_lay_217 (by decide) ?_
                      obtain rfl := Option.some.inj hf
                      refine E.fewer (ls' := [some (.ref 0), some (.retAddr 3), some (.int a2), some (.ref 76), none, some (.ref 78), some (.ref 79), none, some (.int (x8_114_1 + 1)), none, none]) ⟨Or.inr rfl, ⟨Or.inr rfl, ⟨Or.inr rfl, ⟨Or.inr rfl, ⟨Or.inl rfl, ⟨Or.inr rfl, ⟨Or.inr rfl, ⟨Or.inl rfl, ⟨Or.inr rfl, ⟨Or.inl rfl, ⟨Or.inl rfl, trivial⟩⟩⟩⟩⟩⟩⟩⟩⟩⟩⟩ ?_
                      exact k9
                    · rw [if_neg hc52] at hf
                      obtain rfl := Option.some.inj hf
                      refine E.fewer (ls' := [none, none, none, none, none, none, none, none, none, none, none]) ⟨Or.inl rfl, ⟨Or.inl rfl, ⟨Or.inl rfl, ⟨Or.inl rfl, ⟨Or.inl rfl, ⟨Or.inl rfl, ⟨Or.inl rfl, ⟨Or.inl rfl, ⟨Or.inl rfl, ⟨Or.inl rfl, ⟨Or.inl rfl, trivial⟩⟩⟩⟩⟩⟩⟩⟩⟩⟩⟩ ?_
                      exact k9
                  · rw [if_neg hc47] at hf
                    obtain rfl := Option.some.inj hf
                    refine E.fewer (ls' := [none, none, none, none, none, none, none, none, none, none, none]) ⟨Or.inl rfl, ⟨Or.inl rfl, ⟨Or.inl rfl, ⟨Or.inl rfl, ⟨Or.inl rfl, ⟨Or.inl rfl, ⟨Or.inl rfl, ⟨Or.inl rfl, ⟨Or.inl rfl, ⟨Or.inl rfl, ⟨Or.inl rfl, trivial⟩⟩⟩⟩⟩⟩⟩⟩⟩⟩⟩ ?_
                    exact k9
                · rw [if_neg hc41] at hf
                  refine E_iconst 0 dL_lay_182 ic_0 ?_
                  obtain ⟨w53, ew53, hf⟩ := lw_some hf
                  try dsimp only at hf
                  refine E_iast (n := 10) dL_lay_183 sC_79 (by decide) (inb_in hi39) ?_
                  rw [← ew53]
                  refine E_aload_n (v := 0) dL_lay_184 rfl ?_
                  refine E_iload (v := x8_114_1) dL_lay_185 rfl ?_
                  refine E_aload (v := 78) dL_lay_187 rfl ?_
                  refine E_iload (v := x8_114_1) dL_lay_189 rfl ?_
                  refine E_iald (n := 10) dL_lay_191 sC_78 (by decide) (inb_in hi39) ?_
                  obtain ⟨r55, w56, hc54, hf⟩ := bd2_some hf
                  try dsimp only at hf
                  refine E_callVi (rest := []) (ci := 11) cv_RL_30 dL_lay_192 (MX11_lose hc54) rfl sC_0 rfl (by decide) rfl rfl (fun _ => Nat.le_of_ble_eq_true rfl) ?_
                  refine E_if_ne 212 dL_lay_195 (by decide) (fun hc58 => ?_) (fun hc58 => ?_)
                  · rw [if_pos hc58] at hf
                    refine E_aload_n (v := 0) dL_lay_198 rfl ?_
                    refine E_iload (v := x8_114_1) dL_lay_199 rfl ?_
                    refine E_aload (v := 79) dL_lay_201 rfl ?_
                    refine E_iload (v := x8_114_1) dL_lay_203 rfl ?_
                    refine E_iald (n := 10) dL_lay_205 sC_79 (by decide) (inb_in hi39) ?_
                    obtain ⟨r60, w61, hc59, hf⟩ := bd2_some hf
                    try dsimp only at hf
                    refine E_callVi (rest := []) (ci := 11) cv_RL_33 dL_lay_206 (MX11_night hc59) rfl sC_0 rfl (by decide) rfl rfl (fun _ => Nat.le_of_ble_eq_true rfl) ?_
                    refine E_if_eq 214 dL_lay_209 (by decide) (fun hc63 => ?_) (fun hc63 => ?_)
                    · rw [if_pos hc63] at hf
                      refine E_iinc (ls' := [some (.ref 0), some (.retAddr 3), some (.int a2), some (.ref 76), none, some (.ref 78), some (.ref 79), none, some (.int (x8_114_1 + 1)), some (.int (r37 >>> ((3 * x8_114_1) &&& 31))), none]) 1 dL_lay_214 rfl ic_1 rfl rfl rfl ?_
                      refine E_goto 114 dL_lay_217 (by decide) ?_
                      obtain rfl := Option.some.inj hf
                      refine E.fewer (ls' := [some (.ref 0), some (.retAddr 3), some (.int a2), some (.ref 76), none, some (.ref 78), some (.ref 79), none, some (.int (x8_114_1 + 1)), none, none]) ⟨Or.inr rfl, ⟨Or.inr rfl, ⟨Or.inr rfl, ⟨Or.inr rfl, ⟨Or.inl rfl, ⟨Or.inr rfl, ⟨Or.inr rfl, ⟨Or.inl rfl, ⟨Or.inr rfl, ⟨Or.inl rfl, ⟨Or.inl rfl, trivial⟩⟩⟩⟩⟩⟩⟩⟩⟩⟩⟩ ?_
                      exact k9
                    · rw [if_neg hc63] at hf
                      obtain rfl := Option.some.inj hf
                      refine E.fewer (ls' := [none, none, none, none, none, none, none, none, none, none, none]) ⟨Or.inl rfl, ⟨Or.inl rfl, ⟨Or.inl rfl, ⟨Or.inl rfl, ⟨Or.inl rfl, ⟨Or.inl rfl, ⟨Or.inl rfl, ⟨Or.inl rfl, ⟨Or.inl rfl, ⟨Or.inl rfl, ⟨Or.inl rfl, trivial⟩⟩⟩⟩⟩⟩⟩⟩⟩⟩⟩ ?_
                      exact k9
                  · rw [if_neg hc58] at hf
                    obtain rfl := Option.some.inj hf
                    refine E.fewer (ls' := [none, none, none, none, none, none, none, none, none, none, none]) ⟨Or.inl rfl, ⟨Or.inl rfl, ⟨Or.inl rfl, ⟨Or.inl rfl, ⟨Or.inl rfl, ⟨Or.inl rfl, ⟨Or.inl rfl, ⟨Or.inl rfl, ⟨Or.inl rfl, ⟨Or.inl rfl, ⟨Or.inl rfl, trivial⟩⟩⟩⟩⟩⟩⟩⟩⟩⟩⟩ ?_
                    exact k9
              · rw [if_neg hc38] at hf
                refine E_iload (v := (r37 >>> ((3 * x8_114_1) &&& 31))) dL_lay_150 rfl ?_
                refine E_bipush 7 dL_lay_152 bp_7 ?_
                refine E_iand dL_lay_154 ?_
                refine E_iconst 2 dL_lay_155 ic_2 ?_
                refine E_icmp_ne 163 dL_lay_156 (by decide) (fun hc64 => ?_) (fun hc64 => ?_)
                · rw [if_pos hc64] at hf
                  refine E_iconst 1 dL_lay_159 ic_1 ?_
                  refine E_goto 164 dL_lay_160 (by decide) ?_
                  obtain ⟨hi65, hf⟩ := gd_some hf
                  obtain ⟨w66, ew66, hf⟩ := lw_some hf
                  try dsimp only at hf
                  refine E_iast (n := 10) dL_lay_164 sC_78 (by decide) (inb_in hi65) ?_
                  rw [← ew66]
                  refine E_aload (v := 79) dL_lay_165 rfl ?_
                  refine E_iload (v := x8_114_1) dL_lay_167 rfl ?_
                  refine E_iload (v := (r37 >>> ((3 * x8_114_1) &&& 31))) dL_lay_169 rfl ?_
                  refine E_bipush 7 dL_lay_171 bp_7 ?_
                  refine E_iand dL_lay_173 ?_
                  refine E_iconst 3 dL_lay_174 ic_3 ?_
                  refine E_icmp_ne 182 dL_lay_175 (by decide) (fun hc67 => ?_) (fun hc67 => ?_)
                  · rw [if_pos hc67] at hf
                    refine E_iconst 1 dL_lay_178 ic_1 ?_
                    refine E_goto 183 dL_lay_179 (by decide) ?_
                    obtain ⟨w68, ew68, hf⟩ := lw_some hf
                    try dsimp only at hf
                    refine E_iast (n := 10) dL_lay_183 sC_79 (by decide) (inb_in hi65) ?_
                    rw [← ew68]
                    refine E_aload_n (v := 0) dL_lay_184 rfl ?_
                    refine E_iload (v := x8_114_1) dL_lay_185 rfl ?_
                    refine E_aload (v := 78) dL_lay_187 rfl ?_
                    refine E_iload (v := x8_114_1) dL_lay_189 rfl ?_
                    refine E_iald (n := 10) dL_lay_191 sC_78 (by decide) (inb_in hi65) ?_
                    obtain ⟨r70, w71, hc69, hf⟩ := bd2_some hf
                    try dsimp only at hf
                    refine E_callVi (rest := []) (ci := 11) cv_RL_30 dL_lay_192 (MX11_lose hc69) rfl sC_0 rfl (by decide) rfl rfl (fun _ => Nat.le_of_ble_eq_true rfl) ?_
                    refine E_if_ne 212 dL_lay_195 (by decide) (fun hc73 => ?_) (fun hc73 => ?_)
                    · rw [if_pos hc73] at hf
                      refine E_aload_n (v := 0) dL_lay_198 rfl ?_
                      refine E_iload (v := x8_114_1) dL_lay_199 rfl ?_
                      refine E_aload (v := 79) dL_lay_201 rfl ?_
                      refine E_iload (v := x8_114_1) dL_lay_203 rfl ?_
                      refine E_iald (n := 10) dL_lay_205 sC_79 (by decide) (inb_in hi65) ?_
                      obtain ⟨r75, w76, hc74, hf⟩ := bd2_some hf
                      try dsimp only at hf
                      refine E_callVi (rest := []) (ci := 11) cv_RL_33 dL_lay_206 (MX11_night hc74) rfl sC_0 rfl (by decide) rfl rfl (fun _ => Nat.le_of_ble_eq_true rfl) ?_
                      refine E_if_eq 214 dL_lay_209 (by decide) (fun hc78 => ?_) (fun hc78 => ?_)
                      · rw [if_pos hc78] at hf
                        refine E_iinc (ls' := [some (.ref 0), some (.retAddr 3), some (.int a2), some (.ref 76), none, some (.ref 78), some (.ref 79), none, some (.int (x8_114_1 + 1)), some (.int (r37 >>> ((3 * x8_114_1) &&& 31))), none]) 1 dL_lay_214 rfl ic_1 rfl rfl rfl ?_
                        refine E_goto 114 dL_lay_217 (by decide) ?_
                        obtain rfl := Option.some.inj hf
                        refine E.fewer (ls' := [some (.ref 0), some (.retAddr 3), some (.int a2), some (.ref 76), none, some (.ref 78), some (.ref 79), none, some (.int (x8_114_1 + 1)), none, none]) ⟨Or.inr rfl, ⟨Or.inr rfl, ⟨Or.inr rfl, ⟨Or.inr rfl, ⟨Or.inl rfl, ⟨Or.inr rfl, ⟨Or.inr rfl, ⟨Or.inl rfl, ⟨Or.inr rfl, ⟨Or.inl rfl, ⟨Or.inl rfl, trivial⟩⟩⟩⟩⟩⟩⟩⟩⟩⟩⟩ ?_
                        exact k9
                      · rw [if_neg hc78] at hf
                        obtain rfl := Option.some.inj hf
                        refine E.fewer (ls' := [none, none, none, none, none, none, none, none, none, none, none]) ⟨Or.inl rfl, ⟨Or.inl rfl, ⟨Or.inl rfl, ⟨Or.inl rfl, ⟨Or.inl rfl, ⟨Or.inl rfl, ⟨Or.inl rfl, ⟨Or.inl rfl, ⟨Or.inl rfl, ⟨Or.inl rfl, ⟨Or.inl rfl, trivial⟩⟩⟩⟩⟩⟩⟩⟩⟩⟩⟩ ?_
                        exact k9
                    · rw [if_neg hc73] at hf
                      obtain rfl := Option.some.inj hf
                      refine E.fewer (ls' := [none, none, none, none, none, none, none, none, none, none, none]) ⟨Or.inl rfl, ⟨Or.inl rfl, ⟨Or.inl rfl, ⟨Or.inl rfl, ⟨Or.inl rfl, ⟨Or.inl rfl, ⟨Or.inl rfl, ⟨Or.inl rfl, ⟨Or.inl rfl, ⟨Or.inl rfl, ⟨Or.inl rfl, trivial⟩⟩⟩⟩⟩⟩⟩⟩⟩⟩⟩ ?_
                      exact k9
                  · rw [if_neg hc67] at hf
                    refine E_iconst 0 dL_lay_182 ic_0 ?_
                    obtain ⟨w79, ew79, hf⟩ := lw_some hf
                    try dsimp only at hf
                    refine E_iast (n := 10) dL_lay_183 sC_79 (by decide) (inb_in hi65) ?_
                    rw [← ew79]
                    refine E_aload_n (v := 0) dL_lay_184 rfl ?_
                    refine E_iload (v := x8_114_1) dL_lay_185 rfl ?_
                    refine E_aload (v := 78) dL_lay_187 rfl ?_
                    refine E_iload (v := x8_114_1) dL_lay_189 rfl ?_
                    refine E_iald (n := 10) dL_lay_191 sC_78 (by decide) (inb_in hi65) ?_
                    obtain ⟨r81, w82, hc80, hf⟩ := bd2_some hf
                    try dsimp only at hf
                    refine E_callVi (rest := []) (ci := 11) cv_RL_30 dL_lay_192 (MX11_lose hc80) rfl sC_0 rfl (by decide) rfl rfl (fun _ => Nat.le_of_ble_eq_true rfl) ?_
                    refine E_if_ne 212 dL_lay_195 (by decide) (fun hc84 => ?_) (fun hc84 => ?_)
                    · rw [if_pos hc84] at hf
                      refine E_aload_n (v := 0) dL_lay_198 rfl ?_
                      refine E_iload (v := x8_114_1) dL_lay_199 rfl ?_
                      refine E_aload (v := 79) dL_lay_201 rfl ?_
                      refine E_iload (v := x8_114_1) dL_lay_203 rfl ?_
                      refine E_iald (n := 10) dL_lay_205 sC_79 (by decide) (inb_in hi65) ?_
                      obtain ⟨r86, w87, hc85, hf⟩ := bd2_some hf
                      try dsimp only at hf
                      refine E_callVi (rest := []) (ci := 11) cv_RL_33 dL_lay_206 (MX11_night hc85) rfl sC_0 rfl (by decide) rfl rfl (fun _ => Nat.le_of_ble_eq_true rfl) ?_
                      refine E_if_eq 214 dL_lay_209 (by decide) (fun hc89 => ?_) (fun hc89 => ?_)
                      · rw [if_pos hc89] at hf
                        refine E_iinc (ls' := [some (.ref 0), some (.retAddr 3), some (.int a2), some (.ref 76), none, some (.ref 78), some (.ref 79), none, some (.int (x8_114_1 + 1)), some (.int (r37 >>> ((3 * x8_114_1) &&& 31))), none]) 1 dL_lay_214 rfl ic_1 rfl rfl rfl ?_
                        refine E_goto 114 dL_lay_217 (by decide) ?_
                        obtain rfl := Option.some.inj hf
                        refine E.fewer (ls' := [some (.ref 0), some (.retAddr 3), some (.int a2), some (.ref 76), none, some (.ref 78), some (.ref 79), none, some (.int (x8_114_1 + 1)), none, none]) ⟨Or.inr rfl, ⟨Or.inr rfl, ⟨Or.inr rfl, ⟨Or.inr rfl, ⟨Or.inl rfl, ⟨Or.inr rfl, ⟨Or.inr rfl, ⟨Or.inl rfl, ⟨Or.inr rfl, ⟨Or.inl rfl, ⟨Or.inl rfl, trivial⟩⟩⟩⟩⟩⟩⟩⟩⟩⟩⟩ ?_
                        exact k9
                      · rw [if_neg hc89] at hf
                        obtain rfl := Option.some.inj hf
                        refine E.fewer (ls' := [none, none, none, none, none, none, none, none, none, none, none]) ⟨Or.inl rfl, ⟨Or.inl rfl, ⟨Or.inl rfl, ⟨Or.inl rfl, ⟨Or.inl rfl, ⟨Or.inl rfl, ⟨Or.inl rfl, ⟨Or.inl rfl, ⟨Or.inl rfl, ⟨Or.inl rfl, ⟨Or.inl rfl, trivial⟩⟩⟩⟩⟩⟩⟩⟩⟩⟩⟩ ?_
                        exact k9
                    · rw [if_neg hc84] at hf
                      obtain rfl := Option.some.inj hf
                      refine E.fewer (ls' := [none, none, none, none, none, none, none, none, none, none, none]) ⟨Or.inl rfl, ⟨Or.inl rfl, ⟨Or.inl rfl, ⟨Or.inl rfl, ⟨Or.inl rfl, ⟨Or.inl rfl, ⟨Or.inl rfl, ⟨Or.inl rfl, ⟨Or.inl rfl, ⟨Or.inl rfl, ⟨Or.inl rfl, trivial⟩⟩⟩⟩⟩⟩⟩⟩⟩⟩⟩ ?_
                      exact k9
                · rw [if_neg hc64] at hf
                  refine E_iconst 0 dL_lay_163 ic_0 ?_
                  obtain ⟨hi90, hf⟩ := gd_some hf
                  obtain ⟨w91, ew91, hf⟩ := lw_some hf
                  try dsimp only at hf
                  refine E_iast (n := 10) dL_lay_164 sC_78 (by decide) (inb_in hi90) ?_
                  rw [← ew91]
                  refine E_aload (v := 79) dL_lay_165 rfl ?_
                  refine E_iload (v := x8_114_1) dL_lay_167 rfl ?_
                  refine E_iload (v := (r37 >>> ((3 * x8_114_1) &&& 31))) dL_lay_169 rfl ?_
                  refine E_bipush 7 dL_lay_171 bp_7 ?_
                  refine E_iand dL_lay_173 ?_
                  refine E_iconst 3 dL_lay_174 ic_3 ?_
                  refine E_icmp_ne 182 dL_lay_175 (by decide) (fun hc92 => ?_) (fun hc92 => ?_)
                  · rw [if_pos hc92] at hf
                    refine E_iconst 1 dL_lay_178 ic_1 ?_
                    refine E_goto 183 dL_lay_179 (by decide) ?_
                    obtain ⟨w93, ew93, hf⟩ := lw_some hf
                    try dsimp only at hf
                    refine E_iast (n := 10) dL_lay_183 sC_79 (by decide) (inb_in hi90) ?_
                    rw [← ew93]
                    refine E_aload_n (v := 0) dL_lay_184 rfl ?_
                    refine E_iload (v := x8_114_1) dL_lay_185 rfl ?_
                    refine E_aload (v := 78) dL_lay_187 rfl ?_
                    refine E_iload (v := x8_114_1) dL_lay_189 rfl ?_
                    refine E_iald (n := 10) dL_lay_191 sC_78 (by decide) (inb_in hi90) ?_
                    obtain ⟨r95, w96, hc94, hf⟩ := bd2_some hf
                    try dsimp only at hf
                    refine E_callVi (rest := []) (ci := 11) cv_RL_30 dL_lay_192 (MX11_lose hc94) rfl sC_0 rfl (by decide) rfl rfl (fun _ => Nat.le_of_ble_eq_true rfl) ?_
                    refine E_if_ne 212 dL_lay_195 (by decide) (fun hc98 => ?_) (fun hc98 => ?_)
                    · rw [if_pos hc98] at hf
                      refine E_aload_n (v := 0) dL_lay_198 rfl ?_
                      refine E_iload (v := x8_114_1) dL_lay_199 rfl ?_
                      refine E_aload (v := 79) dL_lay_201 rfl ?_
                      refine E_iload (v := x8_114_1) dL_lay_203 rfl ?_
                      refine E_iald (n := 10) dL_lay_205 sC_79 (by decide) (inb_in hi90) ?_
                      obtain ⟨r100, w101, hc99, hf⟩ := bd2_some hf
                      try dsimp only at hf
                      refine E_callVi (rest := []) (ci := 11) cv_RL_33 dL_lay_206 (MX11_night hc99) rfl sC_0 rfl (by decide) rfl rfl (fun _ => Nat.le_of_ble_eq_true rfl) ?_
                      refine E_if_eq 214 dL_lay_209 (by decide) (fun hc103 => ?_) (fun hc103 => ?_)
                      · rw [if_pos hc103] at hf
                        refine E_iinc (ls' := [some (.ref 0), some (.retAddr 3), some (.int a2), some (.ref 76), none, some (.ref 78), some (.ref 79), none, some (.int (x8_114_1 + 1)), some (.int (r37 >>> ((3 * x8_114_1) &&& 31))), none]) 1 dL_lay_214 rfl ic_1 rfl rfl rfl ?_
                        refine E_goto 114 dL_lay_217 (by decide) ?_
                        obtain rfl := Option.some.inj hf
                        refine E.fewer (ls' := [some (.ref 0), some (.retAddr 3), some (.int a2), some (.ref 76), none, some (.ref 78), some (.ref 79), none, some (.int (x8_114_1 + 1)), none, none]) ⟨Or.inr rfl, ⟨Or.inr rfl, ⟨Or.inr rfl, ⟨Or.inr rfl, ⟨Or.inl rfl, ⟨Or.inr rfl, ⟨Or.inr rfl, ⟨Or.inl rfl, ⟨Or.inr rfl, ⟨Or.inl rfl, ⟨Or.inl rfl, trivial⟩⟩⟩⟩⟩⟩⟩⟩⟩⟩⟩ ?_
                        exact k9
                      · rw [if_neg hc103] at hf
                        obtain rfl := Option.some.inj hf
                        refine E.fewer (ls' := [none, none, none, none, none, none, none, none, none, none, none]) ⟨Or.inl rfl, ⟨Or.inl rfl, ⟨Or.inl rfl, ⟨Or.inl rfl, ⟨Or.inl rfl, ⟨Or.inl rfl, ⟨Or.inl rfl, ⟨Or.inl rfl, ⟨Or.inl rfl, ⟨Or.inl rfl, ⟨Or.inl rfl, trivial⟩⟩⟩⟩⟩⟩⟩⟩⟩⟩⟩ ?_
                        exact k9
                    · rw [if_neg hc98] at hf
                      obtain rfl := Option.some.inj hf
                      refine E.fewer (ls' := [none, none, none, none, none, none, none, none, none, none, none]) ⟨Or.inl rfl, ⟨Or.inl rfl, ⟨Or.inl rfl, ⟨Or.inl rfl, ⟨Or.inl rfl, ⟨Or.inl rfl, ⟨Or.inl rfl, ⟨Or.inl rfl, ⟨Or.inl rfl, ⟨Or.inl rfl, ⟨Or.inl rfl, trivial⟩⟩⟩⟩⟩⟩⟩⟩⟩⟩⟩ ?_
                      exact k9
                  · rw [if_neg hc92] at hf
                    refine E_iconst 0 dL_lay_182 ic_0 ?_
                    obtain ⟨w104, ew104, hf⟩ := lw_some hf
                    try dsimp only at hf
                    refine E_iast (n := 10) dL_lay_183 sC_79 (by decide) (inb_in hi90) ?_
                    rw [← ew104]
                    refine E_aload_n (v := 0) dL_lay_184 rfl ?_
                    refine E_iload (v := x8_114_1) dL_lay_185 rfl ?_
                    refine E_aload (v := 78) dL_lay_187 rfl ?_
                    refine E_iload (v := x8_114_1) dL_lay_189 rfl ?_
                    refine E_iald (n := 10) dL_lay_191 sC_78 (by decide) (inb_in hi90) ?_
                    obtain ⟨r106, w107, hc105, hf⟩ := bd2_some hf
                    try dsimp only at hf
                    refine E_callVi (rest := []) (ci := 11) cv_RL_30 dL_lay_192 (MX11_lose hc105) rfl sC_0 rfl (by decide) rfl rfl (fun _ => Nat.le_of_ble_eq_true rfl) ?_
                    refine E_if_ne 212 dL_lay_195 (by decide) (fun hc109 => ?_) (fun hc109 => ?_)
                    · rw [if_pos hc109] at hf
                      refine E_aload_n (v := 0) dL_lay_198 rfl ?_
                      refine E_iload (v := x8_114_1) dL_lay_199 rfl ?_
                      refine E_aload (v := 79) dL_lay_201 rfl ?_
                      refine E_iload (v := x8_114_1) dL_lay_203 rfl ?_
                      refine E_iald (n := 10) dL_lay_205 sC_79 (by decide) (inb_in hi90) ?_
                      obtain ⟨r111, w112, hc110, hf⟩ := bd2_some hf
                      try dsimp only at hf
                      refine E_callVi (rest := []) (ci := 11) cv_RL_33 dL_lay_206 (MX11_night hc110) rfl sC_0 rfl (by decide) rfl rfl (fun _ => Nat.le_of_ble_eq_true rfl) ?_
                      refine E_if_eq 214 dL_lay_209 (by decide) (fun hc114 => ?_) (fun hc114 => ?_)
                      · rw [if_pos hc114] at hf
                        refine E_iinc (ls' := [some (.ref 0), some (.retAddr 3), some (.int a2), some (.ref 76), none, some (.ref 78), some (.ref 79), none, some (.int (x8_114_1 + 1)), some (.int (r37 >>> ((3 * x8_114_1) &&& 31))), none]) 1 dL_lay_214 rfl ic_1 rfl rfl rfl ?_
                        refine E_goto 114 dL_lay_217 (by decide) ?_
                        obtain rfl := Option.some.inj hf
                        refine E.fewer (ls' := [some (.ref 0), some (.retAddr 3), some (.int a2), some (.ref 76), none, some (.ref 78), some (.ref 79), none, some (.int (x8_114_1 + 1)), none, none]) ⟨Or.inr rfl, ⟨Or.inr rfl, ⟨Or.inr rfl, ⟨Or.inr rfl, ⟨Or.inl rfl, ⟨Or.inr rfl, ⟨Or.inr rfl, ⟨Or.inl rfl, ⟨Or.inr rfl, ⟨Or.inl rfl, ⟨Or.inl rfl, trivial⟩⟩⟩⟩⟩⟩⟩⟩⟩⟩⟩ ?_
                        exact k9
                      · rw [if_neg hc114] at hf
                        obtain rfl := Option.some.inj hf
                        refine E.fewer (ls' := [none, none, none, none, none, none, none, none, none, none, none]) ⟨Or.inl rfl, ⟨Or.inl rfl, ⟨Or.inl rfl, ⟨Or.inl rfl, ⟨Or.inl rfl, ⟨Or.inl rfl, ⟨Or.inl rfl, ⟨Or.inl rfl, ⟨Or.inl rfl, ⟨Or.inl rfl, ⟨Or.inl rfl, trivial⟩⟩⟩⟩⟩⟩⟩⟩⟩⟩⟩ ?_
                        exact k9
                    · rw [if_neg hc109] at hf
                      obtain rfl := Option.some.inj hf
                      refine E.fewer (ls' := [none, none, none, none, none, none, none, none, none, none, none]) ⟨Or.inl rfl, ⟨Or.inl rfl, ⟨Or.inl rfl, ⟨Or.inl rfl, ⟨Or.inl rfl, ⟨Or.inl rfl, ⟨Or.inl rfl, ⟨Or.inl rfl, ⟨Or.inl rfl, ⟨Or.inl rfl, ⟨Or.inl rfl, trivial⟩⟩⟩⟩⟩⟩⟩⟩⟩⟩⟩ ?_
                      exact k9
          · skip
            rcases q with q | q
            · dsimp only [se] at hf
              obtain ⟨w116, hq9⟩ : ∃ a, a = q := ⟨_, rfl⟩
              subst hq9
              try dsimp only at hf
              show E (PC S) RL cL_lay 11 4 220 [some (.ref 0), some (.retAddr 3), some (.int a2), some (.ref 76), none, none, none, none, none, none, none] [] w116 Q
              refine E_iconst 0 dL_lay_220 ic_0 ?_
              refine E_istore (ls' := [some (.ref 0), some (.retAddr 3), some (.int a2), some (.ref 76), none, none, none, none, some (.int 0), none, none]) dL_lay_221 rfl rfl rfl ?_
              obtain ⟨q, hw161, hf⟩ := bd_some hf
              try dsimp only at hf
              show (fun (s : Int32 × AW) => E (PC S) RL cL_lay 11 4 223 [some (.ref 0), some (.retAddr 3), some (.int a2), some (.ref 76), none, none, none, none, some (.int s.1), none, none] [] s.2 Q) (0, w116)
              refine wh_E (K := (fun (s : Int32 × AW) => E (PC S) RL cL_lay 11 4 223 [some (.ref 0), some (.retAddr 3), some (.int a2), some (.ref 76), none, none, none, none, some (.int s.1), none, none] [] s.2 Q)) (X := (se (fun (s : AW) => E (PC S) RL cL_lay 11 4 394 [none, none, some (.int a2), none, none, none, none, none, none, none, none] [] s Q) (fun (s : AW) => E (PC S) RL cL_lay 11 4 386 [none, none, none, none, none, none, none, none, none, none, none] [] s Q))) ?_ hw161 ?_
              · intro s9 z9 hf k9
                obtain ⟨x8_223_2, w_223_2⟩ := s9
                dsimp only [lbL_lay_223_2] at hf
                show E (PC S) RL cL_lay 11 4 223 [some (.ref 0), some (.retAddr 3), some (.int a2), some (.ref 76), none, none, none, none, some (.int x8_223_2), none, none] [] w_223_2 Q
                refine E_iload (v := x8_223_2) dL_lay_223 rfl ?_
                refine E_iload_n (v := a2) dL_lay_225 rfl ?_
                refine E_icmp_ge 394 dL_lay_226 (by decide) (fun hc117 => ?_) (fun hc117 => ?_)
                · rw [if_pos hc117] at hf
                  obtain rfl := Option.some.inj hf
                  refine E.fewer (ls' := [none, none, some (.int a2), none, none, none, none, none, none, none, none]) ⟨Or.inl rfl, ⟨Or.inl rfl, ⟨Or.inr rfl, ⟨Or.inl rfl, ⟨Or.inl rfl, ⟨Or.inl rfl, ⟨Or.inl rfl, ⟨Or.inl rfl, ⟨Or.inl rfl, ⟨Or.inl rfl, ⟨Or.inl rfl, trivial⟩⟩⟩⟩⟩⟩⟩⟩⟩⟩⟩ ?_
                  exact k9
                · rw [if_neg hc117] at hf
                  refine E_aloadx_n dL_lay_229 rfl ?_
                  refine E_iconst 2 dL_lay_230 ic_2 ?_
                  refine E_iload (v := x8_223_2) dL_lay_231 rfl ?_
                  refine E_iadd dL_lay_233 ?_
                  obtain ⟨r119, hc118, hf⟩ := bd_some hf
                  try dsimp only at hf
                  refine E_callSi (rest := []) cs_RL_17 dL_lay_234 (ML_at hc118) rfl rfl rfl (fun _ => Nat.le_of_ble_eq_true rfl) ?_
                  refine E_istore (ls' := [some (.ref 0), some (.retAddr 3), some (.int a2), some (.ref 76), none, none, none, none, some (.int x8_223_2), some (.int r119), none]) dL_lay_237 rfl rfl rfl ?_
                  refine E_iconst 1 dL_lay_239 ic_1 ?_
                  refine E_iload (v := r119) dL_lay_240 rfl ?_
                  refine E_iconst 3 dL_lay_242 ic_3 ?_
                  refine E_ishr dL_lay_243 ?_
                  refine E_bipush 9 dL_lay_244 bp_9 ?_
                  obtain ⟨r121, hc120, hf⟩ := bd_some hf
                  try dsimp only at hf
                  refine E_callSi (rest := [.int 1]) cs_RL_21 dL_lay_246 (ML_mod hc120) rfl rfl rfl (fun _ => Nat.le_of_ble_eq_true rfl) ?_
                  refine E_iadd dL_lay_249 ?_
                  refine E_istore (ls' := [some (.ref 0), some (.retAddr 3), some (.int a2), some (.ref 76), none, none, none, none, some (.int x8_223_2), some (.int r119), some (.int (1 + r121))]) dL_lay_250 rfl rfl rfl ?_
                  refine E_aload_n (v := 76) dL_lay_252 rfl ?_
                  refine E_iconst 5 dL_lay_253 ic_5 ?_
                  refine E_iload (v := x8_223_2) dL_lay_254 rfl ?_
                  refine E_imul dL_lay_256 ?_
                  refine E_iload (v := r119) dL_lay_257 rfl ?_
                  refine E_bipush 6 dL_lay_259 bp_6 ?_
                  obtain ⟨r123, hc122, hf⟩ := bd_some hf
                  try dsimp only at hf
                  refine E_callSi (rest := [.int (5 * x8_223_2), .ref 76]) cs_RL_21 dL_lay_261 (ML_mod hc122) rfl rfl rfl (fun _ => Nat.le_of_ble_eq_true rfl) ?_
                  obtain ⟨hi124, hf⟩ := gd_some hf
                  obtain ⟨w125, ew125, hf⟩ := lw_some hf
                  try dsimp only at hf
                  refine E_iast (n := 30) dL_lay_264 sC_76 (by decide) (inb_in hi124) ?_
                  rw [← ew125]
                  refine E_aload_n (v := 76) dL_lay_265 rfl ?_
                  refine E_iconst 5 dL_lay_266 ic_5 ?_
                  refine E_iload (v := x8_223_2) dL_lay_267 rfl ?_
                  refine E_imul dL_lay_269 ?_
                  refine E_iconst 1 dL_lay_270 ic_1 ?_
                  refine E_iadd dL_lay_271 ?_
                  refine E_aload_n (v := 76) dL_lay_272 rfl ?_
                  refine E_iconst 5 dL_lay_273 ic_5 ?_
                  refine E_iload (v := x8_223_2) dL_lay_274 rfl ?_
                  refine E_imul dL_lay_276 ?_
                  refine E_iald (n := 30) dL_lay_277 sC_76 (by decide) (inb_in hi124) ?_
                  refine E_iconst 5 dL_lay_278 ic_5 ?_
                  refine E_icmp_ne 291 dL_lay_279 (by decide) (fun hc126 => ?_) (fun hc126 => ?_)
                  · rw [if_pos hc126] at hf
                    refine E_iload (v := (1 + r121)) dL_lay_282 rfl ?_
                    refine E_iconst 1 dL_lay_284 ic_1 ?_
                    refine E_iadd dL_lay_285 ?_
                    refine E_iconst 2 dL_lay_286 ic_2 ?_
                    refine E_idiv dL_lay_287 (by decide) ?_
                    refine E_goto 293 dL_lay_288 (by decide) ?_
                    obtain ⟨hi127, hf⟩ := gd_some hf
                    obtain ⟨w128, ew128, hf⟩ := lw_some hf
                    try dsimp only at hf
                    refine E_iast (n := 30) dL_lay_293 sC_76 (by decide) (inb_in hi127) ?_
                    rw [← ew128]
                    refine E_aload_n (v := 76) dL_lay_294 rfl ?_
                    refine E_iconst 5 dL_lay_295 ic_5 ?_
                    refine E_iload (v := x8_223_2) dL_lay_296 rfl ?_
                    refine E_imul dL_lay_298 ?_
                    refine E_iconst 2 dL_lay_299 ic_2 ?_
                    refine E_iadd dL_lay_300 ?_
                    refine E_iload (v := r119) dL_lay_301 rfl ?_
                    refine E_bipush 7 dL_lay_303 bp_7 ?_
                    refine E_ishr dL_lay_305 ?_
                    refine E_iconst 1 dL_lay_306 ic_1 ?_
                    refine E_iand dL_lay_307 ?_
                    obtain ⟨hi129, hf⟩ := gd_some hf
                    obtain ⟨w130, ew130, hf⟩ := lw_some hf
                    try dsimp only at hf
                    refine E_iast (n := 30) dL_lay_308 sC_76 (by decide) (inb_in hi129) ?_
                    rw [← ew130]
                    refine E_aload_n (v := 76) dL_lay_309 rfl ?_
                    refine E_iconst 5 dL_lay_310 ic_5 ?_
                    refine E_iload (v := x8_223_2) dL_lay_311 rfl ?_
                    refine E_imul dL_lay_313 ?_
                    refine E_iconst 3 dL_lay_314 ic_3 ?_
                    refine E_iadd dL_lay_315 ?_
                    refine E_iload (v := r119) dL_lay_316 rfl ?_
                    refine E_bipush 8 dL_lay_318 bp_8 ?_
                    refine E_ishr dL_lay_320 ?_
                    refine E_bipush 16 dL_lay_321 bp_16 ?_
                    obtain ⟨r132, hc131, hf⟩ := bd_some hf
                    try dsimp only at hf
                    refine E_callSi (rest := [.int ((5 * x8_223_2) + 3), .ref 76]) cs_RL_21 dL_lay_323 (ML_mod hc131) rfl rfl rfl (fun _ => Nat.le_of_ble_eq_true rfl) ?_
                    obtain ⟨hi133, hf⟩ := gd_some hf
                    obtain ⟨w134, ew134, hf⟩ := lw_some hf
                    try dsimp only at hf
                    refine E_iast (n := 30) dL_lay_326 sC_76 (by decide) (inb_in hi133) ?_
                    rw [← ew134]
                    refine E_aload_n (v := 76) dL_lay_327 rfl ?_
                    refine E_iconst 5 dL_lay_328 ic_5 ?_
                    refine E_iload (v := x8_223_2) dL_lay_329 rfl ?_
                    refine E_imul dL_lay_331 ?_
                    refine E_iconst 4 dL_lay_332 ic_4 ?_
                    refine E_iadd dL_lay_333 ?_
                    refine E_iload (v := r119) dL_lay_334 rfl ?_
                    refine E_bipush 12 dL_lay_336 bp_12 ?_
                    refine E_ishr dL_lay_338 ?_
                    refine E_bipush 100 dL_lay_339 bp_100 ?_
                    obtain ⟨r136, hc135, hf⟩ := bd_some hf
                    try dsimp only at hf
                    refine E_callSi (rest := [.int ((5 * x8_223_2) + 4), .ref 76]) cs_RL_21 dL_lay_341 (ML_mod hc135) rfl rfl rfl (fun _ => Nat.le_of_ble_eq_true rfl) ?_
                    obtain ⟨hi137, hf⟩ := gd_some hf
                    obtain ⟨w138, ew138, hf⟩ := lw_some hf
                    try dsimp only at hf
                    refine E_iast (n := 30) dL_lay_344 sC_76 (by decide) (inb_in hi137) ?_
                    rw [← ew138]
                    refine E_aload_n (v := 0) dL_lay_345 rfl ?_
                    refine E_aload_n (v := 76) dL_lay_346 rfl ?_
                    refine E_iconst 5 dL_lay_347 ic_5 ?_
                    refine E_iload (v := x8_223_2) dL_lay_348 rfl ?_
                    refine E_imul dL_lay_350 ?_
                    refine E_iald (n := 30) dL_lay_351 sC_76 (by decide) (inb_in hi124) ?_
                    refine E_iload (v := (1 + r121)) dL_lay_352 rfl ?_
                    refine E_aload_n (v := 76) dL_lay_354 rfl ?_
                    refine E_iconst 5 dL_lay_355 ic_5 ?_
                    refine E_iload (v := x8_223_2) dL_lay_356 rfl ?_
                    refine E_imul dL_lay_358 ?_
                    refine E_iconst 2 dL_lay_359 ic_2 ?_
                    refine E_iadd dL_lay_360 ?_
                    refine E_iald (n := 30) dL_lay_361 sC_76 (by decide) (inb_in hi129) ?_
                    refine E_aload_n (v := 76) dL_lay_362 rfl ?_
                    refine E_iconst 5 dL_lay_363 ic_5 ?_
                    refine E_iload (v := x8_223_2) dL_lay_364 rfl ?_
                    refine E_imul dL_lay_366 ?_
                    refine E_iconst 3 dL_lay_367 ic_3 ?_
                    refine E_iadd dL_lay_368 ?_
                    refine E_iald (n := 30) dL_lay_369 sC_76 (by decide) (inb_in hi133) ?_
                    refine E_aload_n (v := 76) dL_lay_370 rfl ?_
                    refine E_iconst 5 dL_lay_371 ic_5 ?_
                    refine E_iload (v := x8_223_2) dL_lay_372 rfl ?_
                    refine E_imul dL_lay_374 ?_
                    refine E_iconst 4 dL_lay_375 ic_4 ?_
                    refine E_iadd dL_lay_376 ?_
                    refine E_iald (n := 30) dL_lay_377 sC_76 (by decide) (inb_in hi137) ?_
                    obtain ⟨r140, w141, hc139, hf⟩ := bd2_some hf
                    try dsimp only at hf
                    refine E_callVi (rest := []) (ci := 11) cv_RL_36 dL_lay_378 (MX11_job hc139) rfl sC_0 rfl (by decide) rfl rfl (fun _ => Nat.le_of_ble_eq_true rfl) ?_
                    refine E_iload (v := x8_223_2) dL_lay_381 rfl ?_
                    refine E_icmp_eq 388 dL_lay_383 (by decide) (fun hc143 => ?_) (fun hc143 => ?_)
                    · rw [if_pos hc143] at hf
                      refine E_iinc (ls' := [some (.ref 0), some (.retAddr 3), some (.int a2), some (.ref 76), none, none, none, none, some (.int (x8_223_2 + 1)), some (.int r119), some (.int (1 + r121))]) 1 dL_lay_388 rfl ic_1 rfl rfl rfl ?_
                      refine E_goto 223 dL_lay_391 (by decide) ?_
                      obtain rfl := Option.some.inj hf
                      refine E.fewer (ls' := [some (.ref 0), some (.retAddr 3), some (.int a2), some (.ref 76), none, none, none, none, some (.int (x8_223_2 + 1)), none, none]) ⟨Or.inr rfl, ⟨Or.inr rfl, ⟨Or.inr rfl, ⟨Or.inr rfl, ⟨Or.inl rfl, ⟨Or.inl rfl, ⟨Or.inl rfl, ⟨Or.inl rfl, ⟨Or.inr rfl, ⟨Or.inl rfl, ⟨Or.inl rfl, trivial⟩⟩⟩⟩⟩⟩⟩⟩⟩⟩⟩ ?_
                      exact k9
                    · rw [if_neg hc143] at hf
                      obtain rfl := Option.some.inj hf
                      refine E.fewer (ls' := [none, none, none, none, none, none, none, none, none, none, none]) ⟨Or.inl rfl, ⟨Or.inl rfl, ⟨Or.inl rfl, ⟨Or.inl rfl, ⟨Or.inl rfl, ⟨Or.inl rfl, ⟨Or.inl rfl, ⟨Or.inl rfl, ⟨Or.inl rfl, ⟨Or.inl rfl, ⟨Or.inl rfl, trivial⟩⟩⟩⟩⟩⟩⟩⟩⟩⟩⟩ ?_
                      exact k9
                  · rw [if_neg hc126] at hf
                    refine E_iload (v := (1 + r121)) dL_lay_291 rfl ?_
                    obtain ⟨hi144, hf⟩ := gd_some hf
                    obtain ⟨w145, ew145, hf⟩ := lw_some hf
                    try dsimp only at hf
                    refine E_iast (n := 30) dL_lay_293 sC_76 (by decide) (inb_in hi144) ?_
                    rw [← ew145]
                    refine E_aload_n (v := 76) dL_lay_294 rfl ?_
                    refine E_iconst 5 dL_lay_295 ic_5 ?_
                    refine E_iload (v := x8_223_2) dL_lay_296 rfl ?_
                    refine E_imul dL_lay_298 ?_
                    refine E_iconst 2 dL_lay_299 ic_2 ?_
                    refine E_iadd dL_lay_300 ?_
                    refine E_iload (v := r119) dL_lay_301 rfl ?_
                    refine E_bipush 7 dL_lay_303 bp_7 ?_
                    refine E_ishr dL_lay_305 ?_
                    refine E_iconst 1 dL_lay_306 ic_1 ?_
                    refine E_iand dL_lay_307 ?_
                    obtain ⟨hi146, hf⟩ := gd_some hf
                    obtain ⟨w147, ew147, hf⟩ := lw_some hf
                    try dsimp only at hf
                    refine E_iast (n := 30) dL_lay_308 sC_76 (by decide) (inb_in hi146) ?_
                    rw [← ew147]
                    refine E_aload_n (v := 76) dL_lay_309 rfl ?_
                    refine E_iconst 5 dL_lay_310 ic_5 ?_
                    refine E_iload (v := x8_223_2) dL_lay_311 rfl ?_
                    refine E_imul dL_lay_313 ?_
                    refine E_iconst 3 dL_lay_314 ic_3 ?_
                    refine E_iadd dL_lay_315 ?_
                    refine E_iload (v := r119) dL_lay_316 rfl ?_
                    refine E_bipush 8 dL_lay_318 bp_8 ?_
                    refine E_ishr dL_lay_320 ?_
                    refine E_bipush 16 dL_lay_321 bp_16 ?_
                    obtain ⟨r149, hc148, hf⟩ := bd_some hf
                    try dsimp only at hf
                    refine E_callSi (rest := [.int ((5 * x8_223_2) + 3), .ref 76]) cs_RL_21 dL_lay_323 (ML_mod hc148) rfl rfl rfl (fun _ => Nat.le_of_ble_eq_true rfl) ?_
                    obtain ⟨hi150, hf⟩ := gd_some hf
                    obtain ⟨w151, ew151, hf⟩ := lw_some hf
                    try dsimp only at hf
                    refine E_iast (n := 30) dL_lay_326 sC_76 (by decide) (inb_in hi150) ?_
                    rw [← ew151]
                    refine E_aload_n (v := 76) dL_lay_327 rfl ?_
                    refine E_iconst 5 dL_lay_328 ic_5 ?_
                    refine E_iload (v := x8_223_2) dL_lay_329 rfl ?_
                    refine E_imul dL_lay_331 ?_
                    refine E_iconst 4 dL_lay_332 ic_4 ?_
                    refine E_iadd dL_lay_333 ?_
                    refine E_iload (v := r119) dL_lay_334 rfl ?_
                    refine E_bipush 12 dL_lay_336 bp_12 ?_
                    refine E_ishr dL_lay_338 ?_
                    refine E_bipush 100 dL_lay_339 bp_100 ?_
                    obtain ⟨r153, hc152, hf⟩ := bd_some hf
                    try dsimp only at hf
                    refine E_callSi (rest := [.int ((5 * x8_223_2) + 4), .ref 76]) cs_RL_21 dL_lay_341 (ML_mod hc152) rfl rfl rfl (fun _ => Nat.le_of_ble_eq_true rfl) ?_
                    obtain ⟨hi154, hf⟩ := gd_some hf
                    obtain ⟨w155, ew155, hf⟩ := lw_some hf
                    try dsimp only at hf
                    refine E_iast (n := 30) dL_lay_344 sC_76 (by decide) (inb_in hi154) ?_
                    rw [← ew155]
                    refine E_aload_n (v := 0) dL_lay_345 rfl ?_
                    refine E_aload_n (v := 76) dL_lay_346 rfl ?_
                    refine E_iconst 5 dL_lay_347 ic_5 ?_
                    refine E_iload (v := x8_223_2) dL_lay_348 rfl ?_
                    refine E_imul dL_lay_350 ?_
                    refine E_iald (n := 30) dL_lay_351 sC_76 (by decide) (inb_in hi124) ?_
                    refine E_iload (v := (1 + r121)) dL_lay_352 rfl ?_
                    refine E_aload_n (v := 76) dL_lay_354 rfl ?_
                    refine E_iconst 5 dL_lay_355 ic_5 ?_
                    refine E_iload (v := x8_223_2) dL_lay_356 rfl ?_
                    refine E_imul dL_lay_358 ?_
                    refine E_iconst 2 dL_lay_359 ic_2 ?_
                    refine E_iadd dL_lay_360 ?_
                    refine E_iald (n := 30) dL_lay_361 sC_76 (by decide) (inb_in hi146) ?_
                    refine E_aload_n (v := 76) dL_lay_362 rfl ?_
                    refine E_iconst 5 dL_lay_363 ic_5 ?_
                    refine E_iload (v := x8_223_2) dL_lay_364 rfl ?_
                    refine E_imul dL_lay_366 ?_
                    refine E_iconst 3 dL_lay_367 ic_3 ?_
                    refine E_iadd dL_lay_368 ?_
                    refine E_iald (n := 30) dL_lay_369 sC_76 (by decide) (inb_in hi150) ?_
                    refine E_aload_n (v := 76) dL_lay_370 rfl ?_
                    refine E_iconst 5 dL_lay_371 ic_5 ?_
                    refine E_iload (v := x8_223_2) dL_lay_372 rfl ?_
                    refine E_imul dL_lay_374 ?_
                    refine E_iconst 4 dL_lay_375 ic_4 ?_
                    refine E_iadd dL_lay_376 ?_
                    refine E_iald (n := 30) dL_lay_377 sC_76 (by decide) (inb_in hi154) ?_
                    obtain ⟨r157, w158, hc156, hf⟩ := bd2_some hf
                    try dsimp only at hf
                    refine E_callVi (rest := []) (ci := 11) cv_RL_36 dL_lay_378 (MX11_job hc156) rfl sC_0 rfl (by decide) rfl rfl (fun _ => Nat.le_of_ble_eq_true rfl) ?_
                    refine E_iload (v := x8_223_2) dL_lay_381 rfl ?_
                    refine E_icmp_eq 388 dL_lay_383 (by decide) (fun hc160 => ?_) (fun hc160 => ?_)
                    · rw [if_pos hc160] at hf
                      refine E_iinc (ls' := [some (.ref 0), some (.retAddr 3), some (.int a2), some (.ref 76), none, none, none, none, some (.int (x8_223_2 + 1)), some (.int r119), some (.int (1 + r121))]) 1 dL_lay_388 rfl ic_1 rfl rfl rfl ?_
                      refine E_goto 223 dL_lay_391 (by decide) ?_
                      obtain rfl := Option.some.inj hf
                      refine E.fewer (ls' := [some (.ref 0), some (.retAddr 3), some (.int a2), some (.ref 76), none, none, none, none, some (.int (x8_223_2 + 1)), none, none]) ⟨Or.inr rfl, ⟨Or.inr rfl, ⟨Or.inr rfl, ⟨Or.inr rfl, ⟨Or.inl rfl, ⟨Or.inl rfl, ⟨Or.inl rfl, ⟨Or.inl rfl, ⟨Or.inr rfl, ⟨Or.inl rfl, ⟨Or.inl rfl, trivial⟩⟩⟩⟩⟩⟩⟩⟩⟩⟩⟩ ?_
                      exact k9
                    · rw [if_neg hc160] at hf
                      obtain rfl := Option.some.inj hf
                      refine E.fewer (ls' := [none, none, none, none, none, none, none, none, none, none, none]) ⟨Or.inl rfl, ⟨Or.inl rfl, ⟨Or.inl rfl, ⟨Or.inl rfl, ⟨Or.inl rfl, ⟨Or.inl rfl, ⟨Or.inl rfl, ⟨Or.inl rfl, ⟨Or.inl rfl, ⟨Or.inl rfl, ⟨Or.inl rfl, trivial⟩⟩⟩⟩⟩⟩⟩⟩⟩⟩⟩ ?_
                      exact k9
              · skip
                rcases q with q | q
                · dsimp only [se] at hf
                  obtain ⟨w162, hq9⟩ : ∃ a, a = q := ⟨_, rfl⟩
                  subst hq9
                  try dsimp only at hf
                  show E (PC S) RL cL_lay 11 4 394 [none, none, some (.int a2), none, none, none, none, none, none, none, none] [] w162 Q
                  refine E_iload_n (v := a2) dL_lay_394 rfl ?_
                  obtain ⟨rfl, rfl⟩ := ret2 hf
                  exact E.done (by rw [eQ]; exact ⟨rfl, Or.inl ⟨_, _, rfl, rfl, dL_lay_395, rfl, rfl⟩⟩)
                · dsimp only [se] at hf
                  obtain ⟨w163, hq9⟩ : ∃ a, a = q := ⟨_, rfl⟩
                  subst hq9
                  try dsimp only at hf
                  show E (PC S) RL cL_lay 11 4 386 [none, none, none, none, none, none, none, none, none, none, none] [] w163 Q
                  refine E_iconst (-1) dL_lay_386 ic_m1 ?_
                  obtain ⟨rfl, rfl⟩ := ret2 hf
                  exact E.done (by rw [eQ]; exact ⟨rfl, Or.inl ⟨_, _, rfl, rfl, dL_lay_387, rfl, rfl⟩⟩)
            · dsimp only [se] at hf
              obtain ⟨w164, hq9⟩ : ∃ a, a = q := ⟨_, rfl⟩
              subst hq9
              try dsimp only at hf
              show E (PC S) RL cL_lay 11 4 212 [none, none, none, none, none, none, none, none, none, none, none] [] w164 Q
              refine E_iconst (-1) dL_lay_212 ic_m1 ?_
              obtain ⟨rfl, rfl⟩ := ret2 hf
              exact E.done (by rw [eQ]; exact ⟨rfl, Or.inl ⟨_, _, rfl, rfl, dL_lay_213, rfl, rfl⟩⟩)
        · rw [if_neg hc34] at hf
          refine E_iconst (-1) dL_lay_109 ic_m1 ?_
          obtain ⟨rfl, rfl⟩ := ret2 hf
          exact E.done (by rw [eQ]; exact ⟨rfl, Or.inl ⟨_, _, rfl, rfl, dL_lay_110, rfl, rfl⟩⟩)
      · rw [if_neg hc29] at hf
        refine E_iconst (-1) dL_lay_109 ic_m1 ?_
        obtain ⟨rfl, rfl⟩ := ret2 hf
        exact E.done (by rw [eQ]; exact ⟨rfl, Or.inl ⟨_, _, rfl, rfl, dL_lay_110, rfl, rfl⟩⟩)
    · rw [if_neg hc24] at hf
      refine E_iconst (-1) dL_lay_109 ic_m1 ?_
      obtain ⟨rfl, rfl⟩ := ret2 hf
      exact E.done (by rw [eQ]; exact ⟨rfl, Or.inl ⟨_, _, rfl, rfl, dL_lay_110, rfl, rfl⟩⟩)
  · rw [if_neg hc19] at hf
    refine E_iconst (-1) dL_lay_109 ic_m1 ?_
    obtain ⟨rfl, rfl⟩ := ret2 hf
    exact E.done (by rw [eQ]; exact ⟨rfl, Or.inl ⟨_, _, rfl, rfl, dL_lay_110, rfl, rfl⟩⟩)
