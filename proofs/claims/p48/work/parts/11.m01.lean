variable {S : SC}
set_option maxRecDepth 10000 in
set_option maxHeartbeats 2000000 in
theorem MX1_leave {N : Nat} {b : Nat} {a0 : Int32} {w : AW} {wZ : AW} (hb : isB b) (hf : fX1_leave N b a0 w = some wZ) : CallOK (PC S) yX1_leave cX1_leave 5 none 3 [.ref b, .int a0] w none wZ := by
  refine CallOK.of (ls := [some (.ref b), some (.int a0), none, none, none]) (by decide) (by simp) rfl rfl ?_
  obtain ⟨Q, eQ⟩ : ∃ Q, Q = Qret cX1_leave none none wZ := ⟨_, rfl⟩
  rw [← eQ]
  unfold fX1_leave at hf
  refine E_iconst 0 dX1_leave_0 ic_0 ?_
  refine E_istore_n (ls' := [some (.ref b), some (.int a0), some (.int 0), none, none]) dX1_leave_1 rfl rfl rfl ?_
  refine E_iconst 0 dX1_leave_2 ic_0 ?_
  refine E_istore_n (ls' := [some (.ref b), some (.int a0), some (.int 0), some (.int 0), none]) dX1_leave_3 rfl rfl rfl ?_
  obtain ⟨q, hw10, hf⟩ := bd_some hf
  try dsimp only at hf
  show (fun (s : Int32 × Int32 × AW) => E (PC S) RX1 cX1_leave 5 3 4 [some (.ref b), some (.int a0), some (.int s.1), some (.int s.2.1), none] [] s.2.2 Q) (0, 0, w)
  refine wh_E (K := (fun (s : Int32 × Int32 × AW) => E (PC S) RX1 cX1_leave 5 3 4 [some (.ref b), some (.int a0), some (.int s.1), some (.int s.2.1), none] [] s.2.2 Q)) (X := (fun (s : AW) => E (PC S) RX1 cX1_leave 5 3 62 [some (.ref b), some (.int a0), none, none, none] [] s Q)) ?_ hw10 ?_
  · intro s9 z9 hf k9
    obtain ⟨x2_4_1, x3_4_1, w_4_1⟩ := s9
    dsimp only [lbX1_leave_4_1] at hf
    show E (PC S) RX1 cX1_leave 5 3 4 [some (.ref b), some (.int a0), some (.int x2_4_1), some (.int x3_4_1), none] [] w_4_1 Q
    refine E_iload_n (v := x3_4_1) dX1_leave_4 rfl ?_
    refine E_aload_n (v := b) dX1_leave_5 rfl ?_
    refine E_getR fg_RX1_12 dX1_leave_6 (B_s0 hb) rfl (B_r0_0 hb) (Nat.succ_ne_zero _) ?_
    refine E_getI fg_RX1_54 dX1_leave_9 (B_s1 hb) rfl ?_
    refine E_icmp_ge 62 dX1_leave_12 (by decide) (fun hc1 => ?_) (fun hc1 => ?_)
    · rw [if_pos hc1] at hf
      obtain rfl := Option.some.inj hf
      refine E.fewer (ls' := [some (.ref b), some (.int a0), none, none, none]) ⟨Or.inr rfl, ⟨Or.inr rfl, ⟨Or.inl rfl, ⟨Or.inl rfl, ⟨Or.inl rfl, trivial⟩⟩⟩⟩⟩ ?_
      exact k9
    · rw [if_neg hc1] at hf
      refine E_aload_n (v := b) dX1_leave_15 rfl ?_
      refine E_getR fg_RX1_28 dX1_leave_16 (B_s0 hb) rfl (B_r0_4 hb) (Nat.succ_ne_zero _) ?_
      refine E_iload_n (v := x3_4_1) dX1_leave_19 rfl ?_
      obtain ⟨hi2, hf⟩ := gd_some hf
      refine E_iald (n := 6) dX1_leave_20 (B_s10 hb) (by decide) (inb_in hi2) ?_
      obtain ⟨v3, ev3, hf⟩ := lw_some hf
      try dsimp only at hf
      rw [← ev3]
      refine E_istore (ls' := [some (.ref b), some (.int a0), some (.int x2_4_1), some (.int x3_4_1), some (.int v3)]) dX1_leave_21 rfl rfl rfl ?_
      refine E_iload (v := v3) dX1_leave_23 rfl ?_
      refine E_iload_n (v := a0) dX1_leave_25 rfl ?_
      refine E_icmp_ne 32 dX1_leave_26 (by decide) (fun hc4 => ?_) (fun hc4 => ?_)
      · rw [if_pos hc4] at hf
        refine E_goto 56 dX1_leave_29 (by decide) ?_
        refine E_iinc (ls' := [some (.ref b), some (.int a0), some (.int x2_4_1), some (.int (x3_4_1 + 1)), some (.int v3)]) 1 dX1_leave_56 rfl ic_1 rfl rfl rfl ?_
        refine E_goto 4 dX1_leave_59 (by decide) ?_
        obtain rfl := Option.some.inj hf
        refine E.fewer (ls' := [some (.ref b), some (.int a0), some (.int x2_4_1), some (.int (x3_4_1 + 1)), none]) ⟨Or.inr rfl, ⟨Or.inr rfl, ⟨Or.inr rfl, ⟨Or.inr rfl, ⟨Or.inl rfl, trivial⟩⟩⟩⟩⟩ ?_
        exact k9
      · rw [if_neg hc4] at hf
        refine E_aload_n (v := b) dX1_leave_32 rfl ?_
        refine E_getR fg_RX1_28 dX1_leave_33 (B_s0 hb) rfl (B_r0_4 hb) (Nat.succ_ne_zero _) ?_
        refine E_iload_n (v := x2_4_1) dX1_leave_36 rfl ?_
        refine E_iload (v := v3) dX1_leave_37 rfl ?_
        refine E_iload_n (v := a0) dX1_leave_39 rfl ?_
        refine E_icmp_le 50 dX1_leave_40 (by decide) (fun hc5 => ?_) (fun hc5 => ?_)
        · rw [if_pos hc5] at hf
          refine E_iload (v := v3) dX1_leave_50 rfl ?_
          obtain ⟨hi6, hf⟩ := gd_some hf
          obtain ⟨w7, ew7, hf⟩ := lw_some hf
          try dsimp only at hf
          refine E_iast (n := 6) dX1_leave_52 (B_s10 hb) (by decide) (inb_in hi6) ?_
          rw [← ew7]
          refine E_iinc (ls' := [some (.ref b), some (.int a0), some (.int (x2_4_1 + 1)), some (.int x3_4_1), some (.int v3)]) 1 dX1_leave_53 rfl ic_1 rfl rfl rfl ?_
          refine E_iinc (ls' := [some (.ref b), some (.int a0), some (.int (x2_4_1 + 1)), some (.int (x3_4_1 + 1)), some (.int v3)]) 1 dX1_leave_56 rfl ic_1 rfl rfl rfl ?_
          refine E_goto 4 dX1_leave_59 (by decide) ?_
          obtain rfl := Option.some.inj hf
          refine E.fewer (ls' := [some (.ref b), some (.int a0), some (.int (x2_4_1 + 1)), some (.int (x3_4_1 + 1)), none]) ⟨Or.inr rfl, ⟨Or.inr rfl, ⟨Or.inr rfl, ⟨Or.inr rfl, ⟨Or.inl rfl, trivial⟩⟩⟩⟩⟩ ?_
          exact k9
        · rw [if_neg hc5] at hf
          refine E_iload (v := v3) dX1_leave_43 rfl ?_
          refine E_iconst 1 dX1_leave_45 ic_1 ?_
          refine E_isub dX1_leave_46 ?_
          refine E_goto 52 dX1_leave_47 (by decide) ?_
          obtain ⟨hi8, hf⟩ := gd_some hf
          obtain ⟨w9, ew9, hf⟩ := lw_some hf
          try dsimp only at hf
          refine E_iast (n := 6) dX1_leave_52 (B_s10 hb) (by decide) (inb_in hi8) ?_
          rw [← ew9]
          refine E_iinc (ls' := [some (.ref b), some (.int a0), some (.int (x2_4_1 + 1)), some (.int x3_4_1), some (.int v3)]) 1 dX1_leave_53 rfl ic_1 rfl rfl rfl ?_
          refine E_iinc (ls' := [some (.ref b), some (.int a0), some (.int (x2_4_1 + 1)), some (.int (x3_4_1 + 1)), some (.int v3)]) 1 dX1_leave_56 rfl ic_1 rfl rfl rfl ?_
          refine E_goto 4 dX1_leave_59 (by decide) ?_
          obtain rfl := Option.some.inj hf
          refine E.fewer (ls' := [some (.ref b), some (.int a0), some (.int (x2_4_1 + 1)), some (.int (x3_4_1 + 1)), none]) ⟨Or.inr rfl, ⟨Or.inr rfl, ⟨Or.inr rfl, ⟨Or.inr rfl, ⟨Or.inl rfl, trivial⟩⟩⟩⟩⟩ ?_
          exact k9
  · skip
    obtain ⟨w11, hq9⟩ : ∃ a, a = q := ⟨_, rfl⟩
    subst hq9
    try dsimp only at hf
    show E (PC S) RX1 cX1_leave 5 3 62 [some (.ref b), some (.int a0), none, none, none] [] w11 Q
    refine E_aload_n (v := b) dX1_leave_62 rfl ?_
    refine E_getR fg_RX1_12 dX1_leave_63 (B_s0 hb) rfl (B_r0_0 hb) (Nat.succ_ne_zero _) ?_
    refine E_iload_n (v := a0) dX1_leave_66 rfl ?_
    obtain ⟨w13, hc12, hf⟩ := bd_some hf
    try dsimp only at hf
    refine E_callVv (rest := []) (ci := 4) cv_RX1_61 dX1_leave_67 (MX4_remove (B_j1 hb) hc12) rfl (B_s1 hb) rfl (by decide) rfl rfl (fun _ => Nat.le_of_ble_eq_true rfl) ?_
    obtain rfl := Option.some.inj hf
    exact E.done (by rw [eQ]; exact ⟨rfl, Or.inr ⟨rfl, rfl, dX1_leave_70, rfl⟩⟩)
set_option maxRecDepth 10000 in
set_option maxHeartbeats 2000000 in
theorem MX11_drop {N : Nat} {a0 : Int32} {w : AW} {rZ : Int32} {wZ : AW} (hf : fX11_drop N a0 w = some (rZ, wZ)) : CallOK (PC S) yX11_drop cX11_drop 2 (some .int) 4 [.ref 0, .int a0] w (some (.int rZ)) wZ := by
  refine CallOK.of (ls := [some (.ref 0), some (.int a0)]) (by decide) (by simp) rfl rfl ?_
  obtain ⟨Q, eQ⟩ : ∃ Q, Q = Qret cX11_drop (some .int) (some (.int rZ)) wZ := ⟨_, rfl⟩
  rw [← eQ]
  unfold fX11_drop at hf
  refine E_aload_n (v := 0) dX11_drop_0 rfl ?_
  refine E_getR fg_RX11_10 dX11_drop_1 sC_0 rfl rC_0_0 (Nat.succ_ne_zero _) ?_
  refine E_getR fg_RX11_130 dX11_drop_4 sC_1 rfl rC_1_0 (Nat.succ_ne_zero _) ?_
  refine E_iload_n (v := a0) dX11_drop_7 rfl ?_
  obtain ⟨r2, hc1, hf⟩ := bd_some hf
  try dsimp only at hf
  refine E_callVi (rest := []) (ci := 4) cv_RX11_140 dX11_drop_8 (MX4_has J_is2 hc1) rfl sC_2 rfl (by decide) rfl rfl (fun _ => Nat.le_of_ble_eq_true rfl) ?_
  refine E_if_ne 16 dX11_drop_11 (by decide) (fun hc3 => ?_) (fun hc3 => ?_)
  · rw [if_pos hc3] at hf
    refine E_iconst (-1) dX11_drop_14 ic_m1 ?_
    obtain ⟨rfl, rfl⟩ := ret2 hf
    exact E.done (by rw [eQ]; exact ⟨rfl, Or.inl ⟨_, _, rfl, rfl, dX11_drop_15, rfl, rfl⟩⟩)
  · rw [if_neg hc3] at hf
    refine E_aload_n (v := 0) dX11_drop_16 rfl ?_
    refine E_getR fg_RX11_10 dX11_drop_17 sC_0 rfl rC_0_0 (Nat.succ_ne_zero _) ?_
    refine E_iload_n (v := a0) dX11_drop_20 rfl ?_
    obtain ⟨w5, hc4, hf⟩ := bd_some hf
    try dsimp only at hf
    refine E_callVv (rest := []) (ci := 1) cv_RX11_159 dX11_drop_21 (MX1_leave B_is1 hc4) rfl sC_1 rfl (by decide) rfl rfl (fun _ => Nat.le_of_ble_eq_true rfl) ?_
    refine E_aload_n (v := 0) dX11_drop_24 rfl ?_
    refine E_getR fg_RX11_10 dX11_drop_25 sC_0 rfl rC_0_0 (Nat.succ_ne_zero _) ?_
    refine E_getR fg_RX11_130 dX11_drop_28 sC_1 rfl rC_1_0 (Nat.succ_ne_zero _) ?_
    refine E_getI fg_RX11_131 dX11_drop_31 sC_2 rfl ?_
    obtain ⟨rfl, rfl⟩ := ret2 hf
    exact E.done (by rw [eQ]; exact ⟨rfl, Or.inl ⟨_, _, rfl, rfl, dX11_drop_34, rfl, rfl⟩⟩)
set_option maxRecDepth 10000 in
set_option maxHeartbeats 2000000 in
theorem MX3_follow {N : Nat} {o0 : Nat} {r1 : Nat} {w : AW} {wZ : AW} (ho0 : isJ o0) (hr1 : (PC S).1[r1]? = some 106) (hf : fX3_follow N o0 r1 w = some wZ) : CallOK (PC S) yX3_follow cX3_follow 7 none 3 [.ref 46, .ref o0, .ref r1] w none wZ := by
  refine CallOK.of (ls := [some (.ref 46), some (.ref o0), some (.ref r1), none, none, none, none]) (by decide) (by simp) rfl rfl ?_
  obtain ⟨Q, eQ⟩ : ∃ Q, Q = Qret cX3_follow none none wZ := ⟨_, rfl⟩
  rw [← eQ]
  unfold fX3_follow at hf
  refine E_iconst 0 dX3_follow_0 ic_0 ?_
  refine E_istore_n (ls' := [some (.ref 46), some (.ref o0), some (.ref r1), some (.int 0), none, none, none]) dX3_follow_1 rfl rfl rfl ?_
  refine E_iconst 0 dX3_follow_2 ic_0 ?_
  refine E_istore (ls' := [some (.ref 46), some (.ref o0), some (.ref r1), some (.int 0), some (.int 0), none, none]) dX3_follow_3 rfl rfl rfl ?_
  refine E_iconst 0 dX3_follow_5 ic_0 ?_
  refine E_istore (ls' := [some (.ref 46), some (.ref o0), some (.ref r1), some (.int 0), some (.int 0), some (.int 0), none]) dX3_follow_6 rfl rfl rfl ?_
  obtain ⟨q, hw10, hf⟩ := bd_some hf
  try dsimp only at hf
  show (fun (s : Int32 × Int32 × Int32 × AW) => E (PC S) RX3 cX3_follow 7 3 8 [some (.ref 46), some (.ref o0), some (.ref r1), some (.int s.1), some (.int s.2.1), some (.int s.2.2.1), none] [] s.2.2.2 Q) (0, 0, 0, w)
  refine wh_E (K := (fun (s : Int32 × Int32 × Int32 × AW) => E (PC S) RX3 cX3_follow 7 3 8 [some (.ref 46), some (.ref o0), some (.ref r1), some (.int s.1), some (.int s.2.1), some (.int s.2.2.1), none] [] s.2.2.2 Q)) (X := (fun (s : AW) => E (PC S) RX3 cX3_follow 7 3 61 [none, none, none, none, none, none, none] [] s Q)) ?_ hw10 ?_
  · intro s9 z9 hf k9
    obtain ⟨x3_8_1, x4_8_1, x5_8_1, w_8_1⟩ := s9
    dsimp only [lbX3_follow_8_1] at hf
    show E (PC S) RX3 cX3_follow 7 3 8 [some (.ref 46), some (.ref o0), some (.ref r1), some (.int x3_8_1), some (.int x4_8_1), some (.int x5_8_1), none] [] w_8_1 Q
    refine E_iload (v := x5_8_1) dX3_follow_8 rfl ?_
    refine E_aload_n (v := o0) dX3_follow_10 rfl ?_
    refine E_getI fg_RX3_64 dX3_follow_11 (J_s0 ho0) rfl ?_
    refine E_icmp_ge 61 dX3_follow_14 (by decide) (fun hc1 => ?_) (fun hc1 => ?_)
    · rw [if_pos hc1] at hf
      obtain rfl := Option.some.inj hf
      refine E.fewer (ls' := [none, none, none, none, none, none, none]) ⟨Or.inl rfl, ⟨Or.inl rfl, ⟨Or.inl rfl, ⟨Or.inl rfl, ⟨Or.inl rfl, ⟨Or.inl rfl, ⟨Or.inl rfl, trivial⟩⟩⟩⟩⟩⟩⟩ ?_
      exact k9
    · rw [if_neg hc1] at hf
      refine E_aload_n (v := r1) dX3_follow_17 rfl ?_
      refine E_iload (v := x5_8_1) dX3_follow_18 rfl ?_
      obtain ⟨hi2, hf⟩ := gd_some hf
      refine E_iald (n := 6) dX3_follow_20 hr1 (by decide) (inb_in hi2) ?_
      refine E_istore (ls' := [some (.ref 46), some (.ref o0), some (.ref r1), some (.int x3_8_1), some (.int x4_8_1), some (.int x5_8_1), some (.int (w_8_1.1 r1 x5_8_1.toNatClampNeg))]) dX3_follow_21 rfl rfl rfl ?_
      refine E_aload_n (v := 46) dX3_follow_23 rfl ?_
      refine E_iload_n (v := x3_8_1) dX3_follow_24 rfl ?_
      refine E_iload (v := x4_8_1) dX3_follow_25 rfl ?_
      refine E_aload_n (v := o0) dX3_follow_27 rfl ?_
      refine E_iload (v := (w_8_1.1 r1 x5_8_1.toNatClampNeg)) dX3_follow_28 rfl ?_
      obtain ⟨r4, hc3, hf⟩ := bd_some hf
      try dsimp only at hf
      refine E_callVi (rest := []) (ci := 3) cv_RX3_67 dX3_follow_30 (MX3_usedBehind ho0 hc3) rfl sC_46 rfl (by decide) rfl rfl (fun _ => Nat.le_of_ble_eq_true rfl) ?_
      refine E_istore_n (ls' := [some (.ref 46), some (.ref o0), some (.ref r1), some (.int r4), some (.int x4_8_1), some (.int x5_8_1), some (.int (w_8_1.1 r1 x5_8_1.toNatClampNeg))]) dX3_follow_33 rfl rfl rfl ?_
      refine E_aload_n (v := o0) dX3_follow_34 rfl ?_
      refine E_getR fg_RX3_48 dX3_follow_35 (J_s0 ho0) rfl (J_r0_3 ho0) (Nat.succ_ne_zero _) ?_
      refine E_iload (v := (w_8_1.1 r1 x5_8_1.toNatClampNeg)) dX3_follow_38 rfl ?_
      obtain ⟨hi5, hf⟩ := gd_some hf
      refine E_iald (n := 6) dX3_follow_40 (J_s3 ho0) (by decide) (inb_in hi5) ?_
      obtain ⟨v6, ev6, hf⟩ := lw_some hf
      try dsimp only at hf
      rw [← ev6]
      refine E_istore (ls' := [some (.ref 46), some (.ref o0), some (.ref r1), some (.int r4), some (.int v6), some (.int x5_8_1), some (.int (w_8_1.1 r1 x5_8_1.toNatClampNeg))]) dX3_follow_41 rfl rfl rfl ?_
      refine E_aload_n (v := 46) dX3_follow_43 rfl ?_
      refine E_getR fg_RX3_15 dX3_follow_44 sC_46 rfl rC_46_1 (Nat.succ_ne_zero _) ?_
      refine E_iload (v := (w_8_1.1 r1 x5_8_1.toNatClampNeg)) dX3_follow_47 rfl ?_
      refine E_aload_n (v := 46) dX3_follow_49 rfl ?_
      refine E_iload_n (v := r4) dX3_follow_50 rfl ?_
      obtain ⟨r8, hc7, hf⟩ := bd_some hf
      try dsimp only at hf
      refine E_callVi (rest := [.int (w_8_1.1 r1 x5_8_1.toNatClampNeg), .ref 48]) (ci := 3) cv_RX3_71 dX3_follow_51 (MX3_dayAt hc7) rfl sC_46 rfl (by decide) rfl rfl (fun _ => Nat.le_of_ble_eq_true rfl) ?_
      obtain ⟨w9, ew9, hf⟩ := lw_some hf
      try dsimp only at hf
      refine E_iast (n := 6) dX3_follow_54 sC_48 (by decide) (inb_in hi5) ?_
      rw [← ew9]
      refine E_iinc (ls' := [some (.ref 46), some (.ref o0), some (.ref r1), some (.int r4), some (.int v6), some (.int (x5_8_1 + 1)), some (.int (w_8_1.1 r1 x5_8_1.toNatClampNeg))]) 1 dX3_follow_55 rfl ic_1 rfl rfl rfl ?_
      refine E_goto 8 dX3_follow_58 (by decide) ?_
      obtain rfl := Option.some.inj hf
      refine E.fewer (ls' := [some (.ref 46), some (.ref o0), some (.ref r1), some (.int r4), some (.int v6), some (.int (x5_8_1 + 1)), none]) ⟨Or.inr rfl, ⟨Or.inr rfl, ⟨Or.inr rfl, ⟨Or.inr rfl, ⟨Or.inr rfl, ⟨Or.inr rfl, ⟨Or.inl rfl, trivial⟩⟩⟩⟩⟩⟩⟩ ?_
      exact k9
  · skip
    obtain ⟨w11, hq9⟩ : ∃ a, a = q := ⟨_, rfl⟩
    subst hq9
    try dsimp only at hf
    show E (PC S) RX3 cX3_follow 7 3 61 [none, none, none, none, none, none, none] [] w11 Q
    obtain rfl := Option.some.inj hf
    exact E.done (by rw [eQ]; exact ⟨rfl, Or.inr ⟨rfl, rfl, dX3_follow_61, rfl⟩⟩)
set_option maxRecDepth 10000 in
set_option maxHeartbeats 2000000 in
theorem MX11_followPlan {N : Nat} {w : AW} {wZ : AW} (hf : fX11_followPlan N w = some wZ) : CallOK (PC S) yX11_followPlan cX11_followPlan 1 none 4 [.ref 0] w none wZ := by
  refine CallOK.of (ls := [some (.ref 0)]) (by decide) (by simp) rfl rfl ?_
  obtain ⟨Q, eQ⟩ : ∃ Q, Q = Qret cX11_followPlan none none wZ := ⟨_, rfl⟩
  rw [← eQ]
  unfold fX11_followPlan at hf
  refine E_aload_n (v := 0) dX11_followPlan_0 rfl ?_
  refine E_getR fg_RX11_43 dX11_followPlan_1 sC_0 rfl rC_0_6 (Nat.succ_ne_zero _) ?_
  refine E_aload_n (v := 0) dX11_followPlan_4 rfl ?_
  refine E_getR fg_RX11_10 dX11_followPlan_5 sC_0 rfl rC_0_0 (Nat.succ_ne_zero _) ?_
  refine E_iconst 0 dX11_followPlan_8 ic_0 ?_
  obtain ⟨w2, hc1, hf⟩ := bd_some hf
  try dsimp only at hf
  refine E_callVv (rest := []) (ci := 3) cv_RX11_208 dX11_followPlan_9 (MX3_measure B_is1 hc1) rfl sC_46 rfl (by decide) rfl rfl (fun _ => Nat.le_of_ble_eq_true rfl) ?_
  refine E_aload_n (v := 0) dX11_followPlan_12 rfl ?_
  refine E_getR fg_RX11_43 dX11_followPlan_13 sC_0 rfl rC_0_6 (Nat.succ_ne_zero _) ?_
  refine E_aload_n (v := 0) dX11_followPlan_16 rfl ?_
  refine E_getR fg_RX11_10 dX11_followPlan_17 sC_0 rfl rC_0_0 (Nat.succ_ne_zero _) ?_
  refine E_getR fg_RX11_130 dX11_followPlan_20 sC_1 rfl rC_1_0 (Nat.succ_ne_zero _) ?_
  refine E_aload_n (v := 0) dX11_followPlan_23 rfl ?_
  refine E_getR fg_RX11_10 dX11_followPlan_24 sC_0 rfl rC_0_0 (Nat.succ_ne_zero _) ?_
  refine E_getR fg_RX11_183 dX11_followPlan_27 sC_1 rfl rC_1_4 (Nat.succ_ne_zero _) ?_
  obtain ⟨w4, hc3, hf⟩ := bd_some hf
  try dsimp only at hf
  refine E_callVv (rest := []) (ci := 3) cv_RX11_366 dX11_followPlan_30 (MX3_follow J_is2 sC_11 hc3) rfl sC_46 rfl (by decide) rfl rfl (fun _ => Nat.le_of_ble_eq_true rfl) ?_
  obtain rfl := Option.some.inj hf
  exact E.done (by rw [eQ]; exact ⟨rfl, Or.inr ⟨rfl, rfl, dX11_followPlan_33, rfl⟩⟩)
set_option maxRecDepth 10000 in
set_option maxHeartbeats 2000000 in
theorem MX11_ends {N : Nat} {a0 : Int32} {w : AW} {rZ : Int32} {wZ : AW} (hf : fX11_ends N a0 w = some (rZ, wZ)) : CallOK (PC S) yX11_ends cX11_ends 2 (some .int) 5 [.ref 0, .int a0] w (some (.int rZ)) wZ := by
  refine CallOK.of (ls := [some (.ref 0), some (.int a0)]) (by decide) (by simp) rfl rfl ?_
  obtain ⟨Q, eQ⟩ : ∃ Q, Q = Qret cX11_ends (some .int) (some (.int rZ)) wZ := ⟨_, rfl⟩
  rw [← eQ]
  unfold fX11_ends at hf
  refine E_aload_n (v := 0) dX11_ends_0 rfl ?_
  refine E_getR fg_RX11_10 dX11_ends_1 sC_0 rfl rC_0_0 (Nat.succ_ne_zero _) ?_
  refine E_getR fg_RX11_130 dX11_ends_4 sC_1 rfl rC_1_0 (Nat.succ_ne_zero _) ?_
  refine E_iload_n (v := a0) dX11_ends_7 rfl ?_
  obtain ⟨r2, hc1, hf⟩ := bd_some hf
  try dsimp only at hf
  refine E_callVi (rest := []) (ci := 4) cv_RX11_140 dX11_ends_8 (MX4_has J_is2 hc1) rfl sC_2 rfl (by decide) rfl rfl (fun _ => Nat.le_of_ble_eq_true rfl) ?_
  refine E_if_ne 16 dX11_ends_11 (by decide) (fun hc3 => ?_) (fun hc3 => ?_)
  · rw [if_pos hc3] at hf
    refine E_iconst (-1) dX11_ends_14 ic_m1 ?_
    obtain ⟨rfl, rfl⟩ := ret2 hf
    exact E.done (by rw [eQ]; exact ⟨rfl, Or.inl ⟨_, _, rfl, rfl, dX11_ends_15, rfl, rfl⟩⟩)
  · rw [if_neg hc3] at hf
    refine E_aload_n (v := 0) dX11_ends_16 rfl ?_
    obtain ⟨w5, hc4, hf⟩ := bd_some hf
    try dsimp only at hf
    refine E_callVv (rest := []) (ci := 11) cv_RX11_194 dX11_ends_17 (MX11_followPlan hc4) rfl sC_0 rfl (by decide) rfl rfl (fun _ => Nat.le_of_ble_eq_true rfl) ?_
    refine E_aload_n (v := 0) dX11_ends_20 rfl ?_
    refine E_getR fg_RX11_43 dX11_ends_21 sC_0 rfl rC_0_6 (Nat.succ_ne_zero _) ?_
    refine E_getR fg_RX11_197 dX11_ends_24 sC_46 rfl rC_46_1 (Nat.succ_ne_zero _) ?_
    refine E_iload_n (v := a0) dX11_ends_27 rfl ?_
    obtain ⟨hi6, hf⟩ := gd_some hf
    refine E_iald (n := 6) dX11_ends_28 sC_48 (by decide) (inb_in hi6) ?_
    obtain ⟨rfl, rfl⟩ := ret2 hf
    exact E.done (by rw [eQ]; exact ⟨rfl, Or.inl ⟨_, _, rfl, rfl, dX11_ends_29, rfl, rfl⟩⟩)
set_option maxRecDepth 10000 in
set_option maxHeartbeats 2000000 in
theorem MX5_fewestLate {N : Nat} {o0 : Nat} {w : AW} {rZ : Int32} {wZ : AW} (ho0 : isJ o0) (hf : fX5_fewestLate N o0 w = some (rZ, wZ)) : CallOK (PC S) yX5_fewestLate cX5_fewestLate 2 (some .int) 13 [.ref 49, .ref o0] w (some (.int rZ)) wZ := by
  refine CallOK.of (ls := [some (.ref 49), some (.ref o0)]) (by decide) (by simp) rfl rfl ?_
  obtain ⟨Q, eQ⟩ : ∃ Q, Q = Qret cX5_fewestLate (some .int) (some (.int rZ)) wZ := ⟨_, rfl⟩
  rw [← eQ]
  unfold fX5_fewestLate at hf
  refine E_aload_n (v := 49) dX5_fewestLate_0 rfl ?_
  refine E_iconst 1 dX5_fewestLate_1 ic_1 ?_
  refine E_aload_n (v := o0) dX5_fewestLate_2 rfl ?_
  refine E_bipush (-9) dX5_fewestLate_3 bp_m9 ?_
  obtain ⟨r2, w3, hc1, hf⟩ := bd2_some hf
  try dsimp only at hf
  refine E_callVi (rest := []) (ci := 5) cv_RX5_41 dX5_fewestLate_5 (MX5_leastLost ho0 hc1) rfl sC_49 rfl (by decide) rfl rfl (fun _ => Nat.le_of_ble_eq_true rfl) ?_
  obtain ⟨rfl, rfl⟩ := ret2 hf
  exact E.done (by rw [eQ]; exact ⟨rfl, Or.inl ⟨_, _, rfl, rfl, dX5_fewestLate_8, rfl, rfl⟩⟩)
set_option maxRecDepth 10000 in
set_option maxHeartbeats 2000000 in
theorem MX11_fewest {N : Nat} {w : AW} {rZ : Int32} {wZ : AW} (hf : fX11_fewest N w = some (rZ, wZ)) : CallOK (PC S) yX11_fewest cX11_fewest 1 (some .int) 14 [.ref 0] w (some (.int rZ)) wZ := by
  refine CallOK.of (ls := [some (.ref 0)]) (by decide) (by simp) rfl rfl ?_
  obtain ⟨Q, eQ⟩ : ∃ Q, Q = Qret cX11_fewest (some .int) (some (.int rZ)) wZ := ⟨_, rfl⟩
  rw [← eQ]
  unfold fX11_fewest at hf
  refine E_aload_n (v := 0) dX11_fewest_0 rfl ?_
  refine E_getR fg_RX11_43 dX11_fewest_1 sC_0 rfl rC_0_6 (Nat.succ_ne_zero _) ?_
  refine E_aload_n (v := 0) dX11_fewest_4 rfl ?_
  refine E_getR fg_RX11_10 dX11_fewest_5 sC_0 rfl rC_0_0 (Nat.succ_ne_zero _) ?_
  refine E_iconst 0 dX11_fewest_8 ic_0 ?_
  obtain ⟨w2, hc1, hf⟩ := bd_some hf
  try dsimp only at hf
  refine E_callVv (rest := []) (ci := 3) cv_RX11_208 dX11_fewest_9 (MX3_measure B_is1 hc1) rfl sC_46 rfl (by decide) rfl rfl (fun _ => Nat.le_of_ble_eq_true rfl) ?_
  refine E_aload_n (v := 0) dX11_fewest_12 rfl ?_
  refine E_getR fg_RX11_52 dX11_fewest_13 sC_0 rfl rC_0_7 (Nat.succ_ne_zero _) ?_
  refine E_aload_n (v := 0) dX11_fewest_16 rfl ?_
  refine E_getR fg_RX11_10 dX11_fewest_17 sC_0 rfl rC_0_0 (Nat.succ_ne_zero _) ?_
  refine E_getR fg_RX11_130 dX11_fewest_20 sC_1 rfl rC_1_0 (Nat.succ_ne_zero _) ?_
  obtain ⟨r4, w5, hc3, hf⟩ := bd2_some hf
  try dsimp only at hf
  refine E_callVi (rest := []) (ci := 5) cv_RX11_223 dX11_fewest_23 (MX5_fewestLate J_is2 hc3) rfl sC_49 rfl (by decide) rfl rfl (fun _ => Nat.le_of_ble_eq_true rfl) ?_
  obtain ⟨rfl, rfl⟩ := ret2 hf
  exact E.done (by rw [eQ]; exact ⟨rfl, Or.inl ⟨_, _, rfl, rfl, dX11_fewest_26, rfl, rfl⟩⟩)
set_option maxRecDepth 10000 in
set_option maxHeartbeats 2000000 in
theorem MX11_isJob {a0 : Int32} {a1 : Int32} {a2 : Int32} {a3 : Int32} {a4 : Int32} {w : AW} {rZ : Int32} (hf : fX11_isJob a0 a1 a2 a3 a4 w = some rZ) : CallOK (PC S) yX11_isJob cX11_isJob 5 (some .boolean) 2 [.int a0, .int a1, .int a2, .int a3, .int a4] w (some (.int rZ)) w := by
  refine CallOK.of (ls := [some (.int a0), some (.int a1), some (.int a2), some (.int a3), some (.int a4)]) (by decide) (by simp) rfl rfl ?_
  obtain ⟨Q, eQ⟩ : ∃ Q, Q = Qret cX11_isJob (some .boolean) (some (.int rZ)) w := ⟨_, rfl⟩
  rw [← eQ]
  unfold fX11_isJob at hf
  refine E_iload_n (v := a0) dX11_isJob_0 rfl ?_
  refine E_iconst 0 dX11_isJob_1 ic_0 ?_
  refine E_iconst 5 dX11_isJob_2 ic_5 ?_
  obtain ⟨r2, hc1, hf⟩ := bd_some hf
  try dsimp only at hf
  refine E_callSi (rest := []) cs_RX11_100 dX11_isJob_3 (MX11_within hc1) rfl rfl rfl (fun _ => Nat.le_of_ble_eq_true rfl) ?_
  refine E_if_eq 53 dX11_isJob_6 (by decide) (fun hc3 => ?_) (fun hc3 => ?_)
  · rw [if_pos hc3] at hf
    refine E_iconst 0 dX11_isJob_53 ic_0 ?_
    obtain rfl := Option.some.inj hf
    exact E.done (by rw [eQ]; exact ⟨rfl, Or.inl ⟨_, _, rfl, rfl, dX11_isJob_54, rfl, rfl⟩⟩)
  · rw [if_neg hc3] at hf
    refine E_iload_n (v := a1) dX11_isJob_9 rfl ?_
    refine E_iconst 1 dX11_isJob_10 ic_1 ?_
    refine E_bipush 9 dX11_isJob_11 bp_9 ?_
    obtain ⟨r5, hc4, hf⟩ := bd_some hf
    try dsimp only at hf
    refine E_callSi (rest := []) cs_RX11_100 dX11_isJob_13 (MX11_within hc4) rfl rfl rfl (fun _ => Nat.le_of_ble_eq_true rfl) ?_
    refine E_if_eq 53 dX11_isJob_16 (by decide) (fun hc6 => ?_) (fun hc6 => ?_)
    · rw [if_pos hc6] at hf
      refine E_iconst 0 dX11_isJob_53 ic_0 ?_
      obtain rfl := Option.some.inj hf
      exact E.done (by rw [eQ]; exact ⟨rfl, Or.inl ⟨_, _, rfl, rfl, dX11_isJob_54, rfl, rfl⟩⟩)
    · rw [if_neg hc6] at hf
      refine E_iload_n (v := a2) dX11_isJob_19 rfl ?_
      refine E_iconst 0 dX11_isJob_20 ic_0 ?_
      refine E_iconst 1 dX11_isJob_21 ic_1 ?_
      obtain ⟨r8, hc7, hf⟩ := bd_some hf
      try dsimp only at hf
      refine E_callSi (rest := []) cs_RX11_100 dX11_isJob_22 (MX11_within hc7) rfl rfl rfl (fun _ => Nat.le_of_ble_eq_true rfl) ?_
      refine E_if_eq 53 dX11_isJob_25 (by decide) (fun hc9 => ?_) (fun hc9 => ?_)
      · rw [if_pos hc9] at hf
        refine E_iconst 0 dX11_isJob_53 ic_0 ?_
        obtain rfl := Option.some.inj hf
        exact E.done (by rw [eQ]; exact ⟨rfl, Or.inl ⟨_, _, rfl, rfl, dX11_isJob_54, rfl, rfl⟩⟩)
      · rw [if_neg hc9] at hf
        refine E_iload_n (v := a3) dX11_isJob_28 rfl ?_
        refine E_iconst 0 dX11_isJob_29 ic_0 ?_
        refine E_bipush 60 dX11_isJob_30 bp_60 ?_
        obtain ⟨r11, hc10, hf⟩ := bd_some hf
        try dsimp only at hf
        refine E_callSi (rest := []) cs_RX11_100 dX11_isJob_32 (MX11_within hc10) rfl rfl rfl (fun _ => Nat.le_of_ble_eq_true rfl) ?_
        refine E_if_eq 53 dX11_isJob_35 (by decide) (fun hc12 => ?_) (fun hc12 => ?_)
        · rw [if_pos hc12] at hf
          refine E_iconst 0 dX11_isJob_53 ic_0 ?_
          obtain rfl := Option.some.inj hf
          exact E.done (by rw [eQ]; exact ⟨rfl, Or.inl ⟨_, _, rfl, rfl, dX11_isJob_54, rfl, rfl⟩⟩)
        · rw [if_neg hc12] at hf
          refine E_iload (v := a4) dX11_isJob_38 rfl ?_
          refine E_iconst 0 dX11_isJob_40 ic_0 ?_
          refine E_bipush 99 dX11_isJob_41 bp_99 ?_
          obtain ⟨r14, hc13, hf⟩ := bd_some hf
          try dsimp only at hf
          refine E_callSi (rest := []) cs_RX11_100 dX11_isJob_43 (MX11_within hc13) rfl rfl rfl (fun _ => Nat.le_of_ble_eq_true rfl) ?_
          refine E_if_eq 53 dX11_isJob_46 (by decide) (fun hc15 => ?_) (fun hc15 => ?_)
          · rw [if_pos hc15] at hf
            refine E_iconst 0 dX11_isJob_53 ic_0 ?_
            obtain rfl := Option.some.inj hf
            exact E.done (by rw [eQ]; exact ⟨rfl, Or.inl ⟨_, _, rfl, rfl, dX11_isJob_54, rfl, rfl⟩⟩)
          · rw [if_neg hc15] at hf
            refine E_iconst 1 dX11_isJob_49 ic_1 ?_
            refine E_goto 54 dX11_isJob_50 (by decide) ?_
            obtain rfl := Option.some.inj hf
            exact E.done (by rw [eQ]; exact ⟨rfl, Or.inl ⟨_, _, rfl, rfl, dX11_isJob_54, rfl, rfl⟩⟩)
set_option maxRecDepth 10000 in
set_option maxHeartbeats 2000000 in
theorem MX4_add {o : Nat} {a0 : Int32} {a1 : Int32} {a2 : Int32} {a3 : Int32} {a4 : Int32} {w : AW} {wZ : AW} (ho : isJ o) (hf : fX4_add o a0 a1 a2 a3 a4 w = some wZ) : CallOK (PC S) yX4_add cX4_add 6 none 1 [.ref o, .int a0, .int a1, .int a2, .int a3, .int a4] w none wZ := by
  refine CallOK.of (ls := [some (.ref o), some (.int a0), some (.int a1), some (.int a2), some (.int a3), some (.int a4)]) (by decide) (by simp) rfl rfl ?_
  obtain ⟨Q, eQ⟩ : ∃ Q, Q = Qret cX4_add none none wZ := ⟨_, rfl⟩
  rw [← eQ]
  unfold fX4_add at hf
  refine E_aload_n (v := o) dX4_add_0 rfl ?_
  refine E_getI fg_RX4_9 dX4_add_1 (J_s0 ho) rfl ?_
  refine E_bipush 6 dX4_add_4 bp_6 ?_
  refine E_icmp_lt 10 dX4_add_6 (by decide) (fun hc1 => ?_) (fun hc1 => ?_)
  · rw [if_pos hc1] at hf
    refine E_aload_n (v := o) dX4_add_10 rfl ?_
    refine E_getR fg_RX4_15 dX4_add_11 (J_s0 ho) rfl (J_r0_1 ho) (Nat.succ_ne_zero _) ?_
    refine E_aload_n (v := o) dX4_add_14 rfl ?_
    refine E_getI fg_RX4_9 dX4_add_15 (J_s0 ho) rfl ?_
    refine E_iload_n (v := a0) dX4_add_18 rfl ?_
    obtain ⟨hi2, hf⟩ := gd_some hf
    obtain ⟨w3, ew3, hf⟩ := lw_some hf
    try dsimp only at hf
    refine E_iast (n := 6) dX4_add_19 (J_s1 ho) (by decide) (inb_in hi2) ?_
    rw [← ew3]
    refine E_aload_n (v := o) dX4_add_20 rfl ?_
    refine E_getR fg_RX4_19 dX4_add_21 (J_s0 ho) rfl (J_r0_2 ho) (Nat.succ_ne_zero _) ?_
    refine E_aload_n (v := o) dX4_add_24 rfl ?_
    refine E_getI fg_RX4_9 dX4_add_25 (J_s0 ho) rfl ?_
    refine E_iload_n (v := a0) dX4_add_28 rfl ?_
    refine E_iconst 5 dX4_add_29 ic_5 ?_
    refine E_icmp_ne 41 dX4_add_30 (by decide) (fun hc4 => ?_) (fun hc4 => ?_)
    · rw [if_pos hc4] at hf
      refine E_iload_n (v := a1) dX4_add_33 rfl ?_
      refine E_iconst 1 dX4_add_34 ic_1 ?_
      refine E_iadd dX4_add_35 ?_
      refine E_iconst 2 dX4_add_36 ic_2 ?_
      refine E_idiv dX4_add_37 (by decide) ?_
      refine E_goto 42 dX4_add_38 (by decide) ?_
      obtain ⟨hi5, hf⟩ := gd_some hf
      obtain ⟨w6, ew6, hf⟩ := lw_some hf
      try dsimp only at hf
      refine E_iast (n := 6) dX4_add_42 (J_s2 ho) (by decide) (inb_in hi5) ?_
      rw [← ew6]
      refine E_aload_n (v := o) dX4_add_43 rfl ?_
      refine E_getR fg_RX4_22 dX4_add_44 (J_s0 ho) rfl (J_r0_3 ho) (Nat.succ_ne_zero _) ?_
      refine E_aload_n (v := o) dX4_add_47 rfl ?_
      refine E_getI fg_RX4_9 dX4_add_48 (J_s0 ho) rfl ?_
      refine E_iload_n (v := a2) dX4_add_51 rfl ?_
      obtain ⟨hi7, hf⟩ := gd_some hf
      obtain ⟨w8, ew8, hf⟩ := lw_some hf
      try dsimp only at hf
      refine E_iast (n := 6) dX4_add_52 (J_s3 ho) (by decide) (inb_in hi7) ?_
      rw [← ew8]
      refine E_aload_n (v := o) dX4_add_53 rfl ?_
      refine E_getR fg_RX4_25 dX4_add_54 (J_s0 ho) rfl (J_r0_4 ho) (Nat.succ_ne_zero _) ?_
      refine E_aload_n (v := o) dX4_add_57 rfl ?_
      refine E_getI fg_RX4_9 dX4_add_58 (J_s0 ho) rfl ?_
      refine E_iload (v := a3) dX4_add_61 rfl ?_
      obtain ⟨hi9, hf⟩ := gd_some hf
      obtain ⟨w10, ew10, hf⟩ := lw_some hf
      try dsimp only at hf
      refine E_iast (n := 6) dX4_add_63 (J_s4 ho) (by decide) (inb_in hi9) ?_
      rw [← ew10]
      refine E_aload_n (v := o) dX4_add_64 rfl ?_
      refine E_getR fg_RX4_28 dX4_add_65 (J_s0 ho) rfl (J_r0_5 ho) (Nat.succ_ne_zero _) ?_
      refine E_aload_n (v := o) dX4_add_68 rfl ?_
      refine E_getI fg_RX4_9 dX4_add_69 (J_s0 ho) rfl ?_
      refine E_iload (v := a4) dX4_add_72 rfl ?_
      obtain ⟨hi11, hf⟩ := gd_some hf
      obtain ⟨w12, ew12, hf⟩ := lw_some hf
      try dsimp only at hf
      refine E_iast (n := 6) dX4_add_74 (J_s5 ho) (by decide) (inb_in hi11) ?_
      rw [← ew12]
      refine E_aload_n (v := o) dX4_add_75 rfl ?_
      refine E_dup_r dX4_add_76 ?_
      refine E_getI fg_RX4_9 dX4_add_77 (J_s0 ho) rfl ?_
      refine E_iconst 1 dX4_add_80 ic_1 ?_
      refine E_iadd dX4_add_81 ?_
      obtain ⟨w13, ew13, hf⟩ := lw_some hf
      try dsimp only at hf
      refine E_putI fp_RX4_9 dX4_add_82 (J_s0 ho) rfl rfl rfl ?_
      rw [← ew13]
      obtain rfl := Option.some.inj hf
      exact E.done (by rw [eQ]; exact ⟨rfl, Or.inr ⟨rfl, rfl, dX4_add_85, rfl⟩⟩)
    · rw [if_neg hc4] at hf
      refine E_iload_n (v := a1) dX4_add_41 rfl ?_
      obtain ⟨hi14, hf⟩ := gd_some hf
      obtain ⟨w15, ew15, hf⟩ := lw_some hf
      try dsimp only at hf
      refine E_iast (n := 6) dX4_add_42 (J_s2 ho) (by decide) (inb_in hi14) ?_
      rw [← ew15]
      refine E_aload_n (v := o) dX4_add_43 rfl ?_
      refine E_getR fg_RX4_22 dX4_add_44 (J_s0 ho) rfl (J_r0_3 ho) (Nat.succ_ne_zero _) ?_
      refine E_aload_n (v := o) dX4_add_47 rfl ?_
      refine E_getI fg_RX4_9 dX4_add_48 (J_s0 ho) rfl ?_
      refine E_iload_n (v := a2) dX4_add_51 rfl ?_
      obtain ⟨hi16, hf⟩ := gd_some hf
      obtain ⟨w17, ew17, hf⟩ := lw_some hf
      try dsimp only at hf
      refine E_iast (n := 6) dX4_add_52 (J_s3 ho) (by decide) (inb_in hi16) ?_
      rw [← ew17]
      refine E_aload_n (v := o) dX4_add_53 rfl ?_
      refine E_getR fg_RX4_25 dX4_add_54 (J_s0 ho) rfl (J_r0_4 ho) (Nat.succ_ne_zero _) ?_
      refine E_aload_n (v := o) dX4_add_57 rfl ?_
      refine E_getI fg_RX4_9 dX4_add_58 (J_s0 ho) rfl ?_
      refine E_iload (v := a3) dX4_add_61 rfl ?_
      obtain ⟨hi18, hf⟩ := gd_some hf
      obtain ⟨w19, ew19, hf⟩ := lw_some hf
      try dsimp only at hf
      refine E_iast (n := 6) dX4_add_63 (J_s4 ho) (by decide) (inb_in hi18) ?_
      rw [← ew19]
      refine E_aload_n (v := o) dX4_add_64 rfl ?_
      refine E_getR fg_RX4_28 dX4_add_65 (J_s0 ho) rfl (J_r0_5 ho) (Nat.succ_ne_zero _) ?_
      refine E_aload_n (v := o) dX4_add_68 rfl ?_
      refine E_getI fg_RX4_9 dX4_add_69 (J_s0 ho) rfl ?_
      refine E_iload (v := a4) dX4_add_72 rfl ?_
      obtain ⟨hi20, hf⟩ := gd_some hf
      obtain ⟨w21, ew21, hf⟩ := lw_some hf
      try dsimp only at hf
      refine E_iast (n := 6) dX4_add_74 (J_s5 ho) (by decide) (inb_in hi20) ?_
      rw [← ew21]
      refine E_aload_n (v := o) dX4_add_75 rfl ?_
      refine E_dup_r dX4_add_76 ?_
      refine E_getI fg_RX4_9 dX4_add_77 (J_s0 ho) rfl ?_
      refine E_iconst 1 dX4_add_80 ic_1 ?_
      refine E_iadd dX4_add_81 ?_
      obtain ⟨w22, ew22, hf⟩ := lw_some hf
      try dsimp only at hf
      refine E_putI fp_RX4_9 dX4_add_82 (J_s0 ho) rfl rfl rfl ?_
      rw [← ew22]
      obtain rfl := Option.some.inj hf
      exact E.done (by rw [eQ]; exact ⟨rfl, Or.inr ⟨rfl, rfl, dX4_add_85, rfl⟩⟩)
  · rw [if_neg hc1] at hf
    obtain rfl := Option.some.inj hf
    exact E.done (by rw [eQ]; exact ⟨rfl, Or.inr ⟨rfl, rfl, dX4_add_9, rfl⟩⟩)
set_option maxRecDepth 10000 in
set_option maxHeartbeats 2000000 in
theorem MX11_gain {N : Nat} {a0 : Int32} {a1 : Int32} {a2 : Int32} {a3 : Int32} {a4 : Int32} {w : AW} {rZ : Int32} {wZ : AW} (hf : fX11_gain N a0 a1 a2 a3 a4 w = some (rZ, wZ)) : CallOK (PC S) yX11_gain cX11_gain 7 (some .int) 14 [.ref 0, .int a0, .int a1, .int a2, .int a3, .int a4] w (some (.int rZ)) wZ := by
  refine CallOK.of (ls := [some (.ref 0), some (.int a0), some (.int a1), some (.int a2), some (.int a3), some (.int a4), none]) (by decide) (by simp) rfl rfl ?_
  obtain ⟨Q, eQ⟩ : ∃ Q, Q = Qret cX11_gain (some .int) (some (.int rZ)) wZ := ⟨_, rfl⟩
  rw [← eQ]
  unfold fX11_gain at hf
  refine E_iload_n (v := a0) dX11_gain_0 rfl ?_
  refine E_iload_n (v := a1) dX11_gain_1 rfl ?_
  refine E_iload_n (v := a2) dX11_gain_2 rfl ?_
  refine E_iload (v := a3) dX11_gain_3 rfl ?_
  refine E_iload (v := a4) dX11_gain_5 rfl ?_
  obtain ⟨r2, hc1, hf⟩ := bd_some hf
  try dsimp only at hf
  refine E_callSi (rest := []) cs_RX11_132 dX11_gain_7 (MX11_isJob hc1) rfl rfl rfl (fun _ => Nat.le_of_ble_eq_true rfl) ?_
  refine E_if_eq 28 dX11_gain_10 (by decide) (fun hc3 => ?_) (fun hc3 => ?_)
  · rw [if_pos hc3] at hf
    refine E_ldc (-2147483648) dX11_gain_28 wk_RX11_207 ?_
    obtain ⟨rfl, rfl⟩ := ret2 hf
    exact E.done (by rw [eQ]; exact ⟨rfl, Or.inl ⟨_, _, rfl, rfl, dX11_gain_30, rfl, rfl⟩⟩)
  · rw [if_neg hc3] at hf
    refine E_aload_n (v := 0) dX11_gain_13 rfl ?_
    refine E_getR fg_RX11_10 dX11_gain_14 sC_0 rfl rC_0_0 (Nat.succ_ne_zero _) ?_
    refine E_getR fg_RX11_130 dX11_gain_17 sC_1 rfl rC_1_0 (Nat.succ_ne_zero _) ?_
    refine E_getI fg_RX11_131 dX11_gain_20 sC_2 rfl ?_
    refine E_bipush 6 dX11_gain_23 bp_6 ?_
    refine E_icmp_lt 31 dX11_gain_25 (by decide) (fun hc4 => ?_) (fun hc4 => ?_)
    · rw [if_pos hc4] at hf
      refine E_aload_n (v := 0) dX11_gain_31 rfl ?_
      refine E_getR fg_RX11_43 dX11_gain_32 sC_0 rfl rC_0_6 (Nat.succ_ne_zero _) ?_
      refine E_aload_n (v := 0) dX11_gain_35 rfl ?_
      refine E_getR fg_RX11_10 dX11_gain_36 sC_0 rfl rC_0_0 (Nat.succ_ne_zero _) ?_
      refine E_iconst 0 dX11_gain_39 ic_0 ?_
      obtain ⟨w6, hc5, hf⟩ := bd_some hf
      try dsimp only at hf
      refine E_callVv (rest := []) (ci := 3) cv_RX11_208 dX11_gain_40 (MX3_measure B_is1 hc5) rfl sC_46 rfl (by decide) rfl rfl (fun _ => Nat.le_of_ble_eq_true rfl) ?_
      refine E_aload_n (v := 0) dX11_gain_43 rfl ?_
      refine E_getR fg_RX11_52 dX11_gain_44 sC_0 rfl rC_0_7 (Nat.succ_ne_zero _) ?_
      refine E_aload_n (v := 0) dX11_gain_47 rfl ?_
      refine E_getR fg_RX11_10 dX11_gain_48 sC_0 rfl rC_0_0 (Nat.succ_ne_zero _) ?_
      refine E_getR fg_RX11_130 dX11_gain_51 sC_1 rfl rC_1_0 (Nat.succ_ne_zero _) ?_
      refine E_bipush (-9) dX11_gain_54 bp_m9 ?_
      obtain ⟨r8, w9, hc7, hf⟩ := bd2_some hf
      try dsimp only at hf
      refine E_callVi (rest := []) (ci := 5) cv_RX11_212 dX11_gain_56 (MX5_mostWorth J_is2 hc7) rfl sC_49 rfl (by decide) rfl rfl (fun _ => Nat.le_of_ble_eq_true rfl) ?_
      refine E_istore (ls' := [some (.ref 0), some (.int a0), some (.int a1), some (.int a2), some (.int a3), some (.int a4), some (.int r8)]) dX11_gain_59 rfl rfl rfl ?_
      refine E_aload_n (v := 0) dX11_gain_61 rfl ?_
      refine E_getR fg_RX11_82 dX11_gain_62 sC_0 rfl rC_0_11 (Nat.succ_ne_zero _) ?_
      refine E_aload_n (v := 0) dX11_gain_65 rfl ?_
      refine E_getR fg_RX11_10 dX11_gain_66 sC_0 rfl rC_0_0 (Nat.succ_ne_zero _) ?_
      refine E_getR fg_RX11_130 dX11_gain_69 sC_1 rfl rC_1_0 (Nat.succ_ne_zero _) ?_
      obtain ⟨w12, hc11, hf⟩ := bd_some hf
      try dsimp only at hf
      refine E_callVv (rest := []) (ci := 4) cv_RX11_227 dX11_gain_72 (MX4_copy J_is61 J_is2 hc11) rfl sC_61 rfl (by decide) rfl rfl (fun _ => Nat.le_of_ble_eq_true rfl) ?_
      refine E_aload_n (v := 0) dX11_gain_75 rfl ?_
      refine E_getR fg_RX11_82 dX11_gain_76 sC_0 rfl rC_0_11 (Nat.succ_ne_zero _) ?_
      refine E_iload_n (v := a0) dX11_gain_79 rfl ?_
      refine E_iload_n (v := a1) dX11_gain_80 rfl ?_
      refine E_iload_n (v := a2) dX11_gain_81 rfl ?_
      refine E_iload (v := a3) dX11_gain_82 rfl ?_
      refine E_iload (v := a4) dX11_gain_84 rfl ?_
      obtain ⟨w14, hc13, hf⟩ := bd_some hf
      try dsimp only at hf
      refine E_callVv (rest := []) (ci := 4) cv_RX11_231 dX11_gain_86 (MX4_add J_is61 hc13) rfl sC_61 rfl (by decide) rfl rfl (fun _ => Nat.le_of_ble_eq_true rfl) ?_
      refine E_aload_n (v := 0) dX11_gain_89 rfl ?_
      refine E_getR fg_RX11_52 dX11_gain_90 sC_0 rfl rC_0_7 (Nat.succ_ne_zero _) ?_
      refine E_aload_n (v := 0) dX11_gain_93 rfl ?_
      refine E_getR fg_RX11_82 dX11_gain_94 sC_0 rfl rC_0_11 (Nat.succ_ne_zero _) ?_
      refine E_bipush (-9) dX11_gain_97 bp_m9 ?_
      obtain ⟨r16, w17, hc15, hf⟩ := bd2_some hf
      try dsimp only at hf
      refine E_callVi (rest := []) (ci := 5) cv_RX11_212 dX11_gain_99 (MX5_mostWorth J_is61 hc15) rfl sC_49 rfl (by decide) rfl rfl (fun _ => Nat.le_of_ble_eq_true rfl) ?_
      refine E_iload (v := r8) dX11_gain_102 rfl ?_
      refine E_isub dX11_gain_104 ?_
      obtain ⟨rfl, rfl⟩ := ret2 hf
      exact E.done (by rw [eQ]; exact ⟨rfl, Or.inl ⟨_, _, rfl, rfl, dX11_gain_105, rfl, rfl⟩⟩)
    · rw [if_neg hc4] at hf
      refine E_ldc (-2147483648) dX11_gain_28 wk_RX11_207 ?_
      obtain ⟨rfl, rfl⟩ := ret2 hf
      exact E.done (by rw [eQ]; exact ⟨rfl, Or.inl ⟨_, _, rfl, rfl, dX11_gain_30, rfl, rfl⟩⟩)
set_option maxRecDepth 10000 in
set_option maxHeartbeats 2000000 in
theorem BX1_workSlot_52 (N : Nat) (b : Nat) (p1_52 : Int32) (w : AW) (hb : isB b) (rZ : Int32) (wZ : AW) {Q : Nat → List (Option Value) → List Value → AW → Prop} (eQ : Q = Qret cX1_workSlot (some .boolean) (some (.int rZ)) wZ) (hf : bX1_workSlot_52 N b p1_52 w = some (rZ, wZ)) : E (PC S) RX1 cX1_workSlot 2 4 52 [some (.ref b), some (.int p1_52)] [] w Q := by
  unfold bX1_workSlot_52 at hf
  refine E_aload_n (v := b) dX1_workSlot_52 rfl ?_
  refine E_getI fg_RX1_38 dX1_workSlot_53 (B_s0 hb) rfl ?_
  refine E_if_le 71 dX1_workSlot_56 (by decide) (fun hc6 => ?_) (fun hc6 => ?_)
  · rw [if_pos hc6] at hf
    refine E_aload_n (v := b) dX1_workSlot_71 rfl ?_
    refine E_getR fg_RX1_12 dX1_workSlot_72 (B_s0 hb) rfl (B_r0_0 hb) (Nat.succ_ne_zero _) ?_
    refine E_getR fg_RX1_78 dX1_workSlot_75 (B_s1 hb) rfl (B_r1_2 hb) (Nat.succ_ne_zero _) ?_
    refine E_iload_n (v := p1_52) dX1_workSlot_78 rfl ?_
    refine E_dup2_ir dX1_workSlot_79 ?_
    obtain ⟨hi7, hf⟩ := gd_some hf
    refine E_iald (n := 6) dX1_workSlot_80 (B_s3 hb) (by decide) (inb_in hi7) ?_
    refine E_iconst 1 dX1_workSlot_81 ic_1 ?_
    refine E_isub dX1_workSlot_82 ?_
    obtain ⟨w8, ew8, hf⟩ := lw_some hf
    try dsimp only at hf
    refine E_iast (n := 6) dX1_workSlot_83 (B_s3 hb) (by decide) (inb_in hi7) ?_
    rw [← ew8]
    refine E_aload_n (v := b) dX1_workSlot_84 rfl ?_
    refine E_getR fg_RX1_12 dX1_workSlot_85 (B_s0 hb) rfl (B_r0_0 hb) (Nat.succ_ne_zero _) ?_
    refine E_getR fg_RX1_78 dX1_workSlot_88 (B_s1 hb) rfl (B_r1_2 hb) (Nat.succ_ne_zero _) ?_
    refine E_iload_n (v := p1_52) dX1_workSlot_91 rfl ?_
    refine E_iald (n := 6) dX1_workSlot_92 (B_s3 hb) (by decide) (inb_in hi7) ?_
    refine E_if_le 98 dX1_workSlot_93 (by decide) (fun hc9 => ?_) (fun hc9 => ?_)
    · rw [if_pos hc9] at hf
      refine E_aload_n (v := b) dX1_workSlot_98 rfl ?_
      refine E_dup_r dX1_workSlot_99 ?_
      refine E_getI fg_RX1_41 dX1_workSlot_100 (B_s0 hb) rfl ?_
      refine E_aload_n (v := b) dX1_workSlot_103 rfl ?_
      refine E_getR fg_RX1_12 dX1_workSlot_104 (B_s0 hb) rfl (B_r0_0 hb) (Nat.succ_ne_zero _) ?_
      refine E_iload_n (v := p1_52) dX1_workSlot_107 rfl ?_
      refine E_aload_n (v := b) dX1_workSlot_108 rfl ?_
      refine E_getI fg_RX1_31 dX1_workSlot_109 (B_s0 hb) rfl ?_
      refine E_aload_n (v := b) dX1_workSlot_112 rfl ?_
      refine E_getR fg_RX1_18 dX1_workSlot_113 (B_s0 hb) rfl (B_r0_1 hb) (Nat.succ_ne_zero _) ?_
      refine E_iconst 2 dX1_workSlot_116 ic_2 ?_
      refine E_iald (n := 4) dX1_workSlot_117 (B_s7 hb) (by decide) (inb_in (by decide)) ?_
      obtain ⟨r11, hc10, hf⟩ := bd_some hf
      try dsimp only at hf
      refine E_callVi (rest := [.int (w8.1 b 8), .ref b]) (ci := 4) cv_RX1_81 dX1_workSlot_118 (MX4_valueOf (B_j1 hb) hc10) rfl (B_s1 hb) rfl (by decide) rfl rfl (fun _ => Nat.le_of_ble_eq_true rfl) ?_
      refine E_iadd dX1_workSlot_121 ?_
      obtain ⟨w12, ew12, hf⟩ := lw_some hf
      try dsimp only at hf
      refine E_putI fp_RX1_41 dX1_workSlot_122 (B_s0 hb) rfl rfl rfl ?_
      rw [← ew12]
      refine E_aload_n (v := b) dX1_workSlot_125 rfl ?_
      refine E_iload_n (v := p1_52) dX1_workSlot_126 rfl ?_
      obtain ⟨w14, hc13, hf⟩ := bd_some hf
      try dsimp only at hf
      refine E_callVv (rest := []) (ci := 1) cv_RX1_85 dX1_workSlot_127 (MX1_leave hb hc13) rfl (B_s0 hb) rfl (by decide) rfl rfl (fun _ => Nat.le_of_ble_eq_true rfl) ?_
      refine E_iconst 1 dX1_workSlot_130 ic_1 ?_
      obtain ⟨rfl, rfl⟩ := ret2 hf
      exact E.done (by rw [eQ]; exact ⟨rfl, Or.inl ⟨_, _, rfl, rfl, dX1_workSlot_131, rfl, rfl⟩⟩)
    · rw [if_neg hc9] at hf
      refine E_iconst 0 dX1_workSlot_96 ic_0 ?_
      obtain ⟨rfl, rfl⟩ := ret2 hf
      exact E.done (by rw [eQ]; exact ⟨rfl, Or.inl ⟨_, _, rfl, rfl, dX1_workSlot_97, rfl, rfl⟩⟩)
  · rw [if_neg hc6] at hf
    refine E_aload_n (v := b) dX1_workSlot_59 rfl ?_
    refine E_dup_r dX1_workSlot_60 ?_
    refine E_getI fg_RX1_38 dX1_workSlot_61 (B_s0 hb) rfl ?_
    refine E_iconst 1 dX1_workSlot_64 ic_1 ?_
    refine E_isub dX1_workSlot_65 ?_
    obtain ⟨w15, ew15, hf⟩ := lw_some hf
    try dsimp only at hf
    refine E_putI fp_RX1_38 dX1_workSlot_66 (B_s0 hb) rfl rfl rfl ?_
    rw [← ew15]
    refine E_iconst 0 dX1_workSlot_69 ic_0 ?_
    obtain ⟨rfl, rfl⟩ := ret2 hf
    exact E.done (by rw [eQ]; exact ⟨rfl, Or.inl ⟨_, _, rfl, rfl, dX1_workSlot_70, rfl, rfl⟩⟩)
set_option maxRecDepth 10000 in
set_option maxHeartbeats 2000000 in
theorem MX1_workSlot {N : Nat} {b : Nat} {a0 : Int32} {w : AW} {rZ : Int32} {wZ : AW} (hb : isB b) (hf : fX1_workSlot N b a0 w = some (rZ, wZ)) : CallOK (PC S) yX1_workSlot cX1_workSlot 2 (some .boolean) 4 [.ref b, .int a0] w (some (.int rZ)) wZ := by
  refine CallOK.of (ls := [some (.ref b), some (.int a0)]) (by decide) (by simp) rfl rfl ?_
  obtain ⟨Q, eQ⟩ : ∃ Q, Q = Qret cX1_workSlot (some .boolean) (some (.int rZ)) wZ := ⟨_, rfl⟩
  rw [← eQ]
  unfold fX1_workSlot at hf
  refine E_aload_n (v := b) dX1_workSlot_0 rfl ?_
  refine E_getR fg_RX1_12 dX1_workSlot_1 (B_s0 hb) rfl (B_r0_0 hb) (Nat.succ_ne_zero _) ?_
  refine E_iload_n (v := a0) dX1_workSlot_4 rfl ?_
  obtain ⟨r2, hc1, hf⟩ := bd_some hf
  try dsimp only at hf
  refine E_callVi (rest := []) (ci := 4) cv_RX1_73 dX1_workSlot_5 (MX4_has (B_j1 hb) hc1) rfl (B_s1 hb) rfl (by decide) rfl rfl (fun _ => Nat.le_of_ble_eq_true rfl) ?_
  refine E_if_ne 13 dX1_workSlot_8 (by decide) (fun hc3 => ?_) (fun hc3 => ?_)
  · rw [if_pos hc3] at hf
    refine E_iconst 0 dX1_workSlot_11 ic_0 ?_
    obtain ⟨rfl, rfl⟩ := ret2 hf
    exact E.done (by rw [eQ]; exact ⟨rfl, Or.inl ⟨_, _, rfl, rfl, dX1_workSlot_12, rfl, rfl⟩⟩)
  · rw [if_neg hc3] at hf
    refine E_aload_n (v := b) dX1_workSlot_13 rfl ?_
    refine E_getR fg_RX1_12 dX1_workSlot_14 (B_s0 hb) rfl (B_r0_0 hb) (Nat.succ_ne_zero _) ?_
    refine E_getR fg_RX1_76 dX1_workSlot_17 (B_s1 hb) rfl (B_r1_3 hb) (Nat.succ_ne_zero _) ?_
    refine E_iload_n (v := a0) dX1_workSlot_20 rfl ?_
    obtain ⟨hi4, hf⟩ := gd_some hf
    refine E_iald (n := 6) dX1_workSlot_21 (B_s4 hb) (by decide) (inb_in hi4) ?_
    refine E_aload_n (v := b) dX1_workSlot_22 rfl ?_
    refine E_getI fg_RX1_35 dX1_workSlot_23 (B_s0 hb) rfl ?_
    refine E_icmp_eq 52 dX1_workSlot_26 (by decide) (fun hc5 => ?_) (fun hc5 => ?_)
    · rw [if_pos hc5] at hf
      exact BX1_workSlot_52 N b a0 w hb rZ wZ eQ hf
    · rw [if_neg hc5] at hf
      refine E_aload_n (v := b) dX1_workSlot_29 rfl ?_
      refine E_aload_n (v := b) dX1_workSlot_30 rfl ?_
      refine E_getR fg_RX1_12 dX1_workSlot_31 (B_s0 hb) rfl (B_r0_0 hb) (Nat.succ_ne_zero _) ?_
      refine E_getR fg_RX1_76 dX1_workSlot_34 (B_s1 hb) rfl (B_r1_3 hb) (Nat.succ_ne_zero _) ?_
      refine E_iload_n (v := a0) dX1_workSlot_37 rfl ?_
      refine E_iald (n := 6) dX1_workSlot_38 (B_s4 hb) (by decide) (inb_in hi4) ?_
      obtain ⟨w16, ew16, hf⟩ := lw_some hf
      try dsimp only at hf
      refine E_putI fp_RX1_35 dX1_workSlot_39 (B_s0 hb) rfl rfl rfl ?_
      rw [← ew16]
      refine E_aload_n (v := b) dX1_workSlot_42 rfl ?_
      refine E_aload_n (v := b) dX1_workSlot_43 rfl ?_
      refine E_getR fg_RX1_18 dX1_workSlot_44 (B_s0 hb) rfl (B_r0_1 hb) (Nat.succ_ne_zero _) ?_
      refine E_iconst 1 dX1_workSlot_47 ic_1 ?_
      refine E_iald (n := 4) dX1_workSlot_48 (B_s7 hb) (by decide) (inb_in (by decide)) ?_
      obtain ⟨w17, ew17, hf⟩ := lw_some hf
      try dsimp only at hf
      refine E_putI fp_RX1_38 dX1_workSlot_49 (B_s0 hb) rfl rfl rfl ?_
      rw [← ew17]
      exact BX1_workSlot_52 N b a0 w17 hb rZ wZ eQ hf
set_option maxRecDepth 10000 in
set_option maxHeartbeats 2000000 in
theorem MX1_workDay {N : Nat} {b : Nat} {w : AW} {rZ : Int32} {wZ : AW} (hb : isB b) (hf : fX1_workDay N b w = some (rZ, wZ)) : CallOK (PC S) yX1_workDay cX1_workDay 4 (some .int) 5 [.ref b] w (some (.int rZ)) wZ := by
  refine CallOK.of (ls := [some (.ref b), none, none, none]) (by decide) (by simp) rfl rfl ?_
  obtain ⟨Q, eQ⟩ : ∃ Q, Q = Qret cX1_workDay (some .int) (some (.int rZ)) wZ := ⟨_, rfl⟩
  rw [← eQ]
  unfold fX1_workDay at hf
  refine E_iconst 0 dX1_workDay_0 ic_0 ?_
  refine E_istore_n (ls' := [some (.ref b), some (.int 0), none, none]) dX1_workDay_1 rfl rfl rfl ?_
  refine E_aload_n (v := b) dX1_workDay_2 rfl ?_
  refine E_aload_n (v := b) dX1_workDay_3 rfl ?_
  refine E_getI fg_RX1_31 dX1_workDay_4 (B_s0 hb) rfl ?_
  obtain ⟨r2, hc1, hf⟩ := bd_some hf
  try dsimp only at hf
  refine E_callVi (rest := []) (ci := 1) cv_RX1_65 dX1_workDay_7 (MX1_slotsOn hb hc1) rfl (B_s0 hb) rfl (by decide) rfl rfl (fun _ => Nat.le_of_ble_eq_true rfl) ?_
  refine E_istore_n (ls' := [some (.ref b), some (.int 0), some (.int r2), none]) dX1_workDay_10 rfl rfl rfl ?_
  refine E_iconst 0 dX1_workDay_11 ic_0 ?_
  refine E_istore_n (ls' := [some (.ref b), some (.int 0), some (.int r2), some (.int 0)]) dX1_workDay_12 rfl rfl rfl ?_
  obtain ⟨q, hw10, hf⟩ := bd_some hf
  try dsimp only at hf
  show (fun (s : Int32 × Int32 × AW) => E (PC S) RX1 cX1_workDay 4 5 13 [some (.ref b), some (.int s.1), some (.int r2), some (.int s.2.1)] [] s.2.2 Q) (0, 0, w)
  refine wh_E (K := (fun (s : Int32 × Int32 × AW) => E (PC S) RX1 cX1_workDay 4 5 13 [some (.ref b), some (.int s.1), some (.int r2), some (.int s.2.1)] [] s.2.2 Q)) (X := (fun (s : Int32 × AW) => E (PC S) RX1 cX1_workDay 4 5 50 [some (.ref b), some (.int s.1), none, none] [] s.2 Q)) ?_ hw10 ?_
  · intro s9 z9 hf k9
    obtain ⟨x1_13_1, x3_13_1, w_13_1⟩ := s9
    dsimp only [lbX1_workDay_13_1] at hf
    show E (PC S) RX1 cX1_workDay 4 5 13 [some (.ref b), some (.int x1_13_1), some (.int r2), some (.int x3_13_1)] [] w_13_1 Q
    refine E_iload_n (v := x3_13_1) dX1_workDay_13 rfl ?_
    refine E_iload_n (v := r2) dX1_workDay_14 rfl ?_
    refine E_icmp_ge 50 dX1_workDay_15 (by decide) (fun hc3 => ?_) (fun hc3 => ?_)
    · rw [if_pos hc3] at hf
      obtain rfl := Option.some.inj hf
      refine E.fewer (ls' := [some (.ref b), some (.int x1_13_1), none, none]) ⟨Or.inr rfl, ⟨Or.inr rfl, ⟨Or.inl rfl, ⟨Or.inl rfl, trivial⟩⟩⟩⟩ ?_
      exact k9
    · rw [if_neg hc3] at hf
      refine E_aload_n (v := b) dX1_workDay_18 rfl ?_
      refine E_getR fg_RX1_12 dX1_workDay_19 (B_s0 hb) rfl (B_r0_0 hb) (Nat.succ_ne_zero _) ?_
      refine E_getI fg_RX1_54 dX1_workDay_22 (B_s1 hb) rfl ?_
      refine E_if_le 50 dX1_workDay_25 (by decide) (fun hc4 => ?_) (fun hc4 => ?_)
      · rw [if_pos hc4] at hf
        obtain rfl := Option.some.inj hf
        refine E.fewer (ls' := [some (.ref b), some (.int x1_13_1), none, none]) ⟨Or.inr rfl, ⟨Or.inr rfl, ⟨Or.inl rfl, ⟨Or.inl rfl, trivial⟩⟩⟩⟩ ?_
        exact k9
      · rw [if_neg hc4] at hf
        refine E_aload_n (v := b) dX1_workDay_28 rfl ?_
        refine E_aload_n (v := b) dX1_workDay_29 rfl ?_
        refine E_getR fg_RX1_28 dX1_workDay_30 (B_s0 hb) rfl (B_r0_4 hb) (Nat.succ_ne_zero _) ?_
        refine E_iconst 0 dX1_workDay_33 ic_0 ?_
        refine E_iald (n := 6) dX1_workDay_34 (B_s10 hb) (by decide) (inb_in (by decide)) ?_
        obtain ⟨r6, w7, hc5, hf⟩ := bd2_some hf
        try dsimp only at hf
        refine E_callVi (rest := []) (ci := 1) cv_RX1_69 dX1_workDay_35 (MX1_workSlot hb hc5) rfl (B_s0 hb) rfl (by decide) rfl rfl (fun _ => Nat.le_of_ble_eq_true rfl) ?_
        refine E_if_eq 44 dX1_workDay_38 (by decide) (fun hc9 => ?_) (fun hc9 => ?_)
        · rw [if_pos hc9] at hf
          refine E_iinc (ls' := [some (.ref b), some (.int x1_13_1), some (.int r2), some (.int (x3_13_1 + 1))]) 1 dX1_workDay_44 rfl ic_1 rfl rfl rfl ?_
          refine E_goto 13 dX1_workDay_47 (by decide) ?_
          obtain rfl := Option.some.inj hf
          exact k9
        · rw [if_neg hc9] at hf
          refine E_iinc (ls' := [some (.ref b), some (.int (x1_13_1 + 1)), some (.int r2), some (.int x3_13_1)]) 1 dX1_workDay_41 rfl ic_1 rfl rfl rfl ?_
          refine E_iinc (ls' := [some (.ref b), some (.int (x1_13_1 + 1)), some (.int r2), some (.int (x3_13_1 + 1))]) 1 dX1_workDay_44 rfl ic_1 rfl rfl rfl ?_
          refine E_goto 13 dX1_workDay_47 (by decide) ?_
          obtain rfl := Option.some.inj hf
          exact k9
  · skip
    obtain ⟨y11, w12⟩ := q
    try dsimp only at hf
    show E (PC S) RX1 cX1_workDay 4 5 50 [some (.ref b), some (.int y11), none, none] [] w12 Q
    refine E_aload_n (v := b) dX1_workDay_50 rfl ?_
    refine E_dup_r dX1_workDay_51 ?_
    refine E_getI fg_RX1_31 dX1_workDay_52 (B_s0 hb) rfl ?_
    refine E_iconst 1 dX1_workDay_55 ic_1 ?_
    refine E_iadd dX1_workDay_56 ?_
    obtain ⟨w13, ew13, hf⟩ := lw_some hf
    try dsimp only at hf
    refine E_putI fp_RX1_31 dX1_workDay_57 (B_s0 hb) rfl rfl rfl ?_
    rw [← ew13]
    refine E_iload_n (v := y11) dX1_workDay_60 rfl ?_
    obtain ⟨rfl, rfl⟩ := ret2 hf
    exact E.done (by rw [eQ]; exact ⟨rfl, Or.inl ⟨_, _, rfl, rfl, dX1_workDay_61, rfl, rfl⟩⟩)
set_option maxRecDepth 10000 in
set_option maxHeartbeats 2000000 in
theorem MX11_goes {N : Nat} {w : AW} {rZ : Int32} {wZ : AW} (hf : fX11_goes N w = some (rZ, wZ)) : CallOK (PC S) yX11_goes cX11_goes 1 (some .int) 6 [.ref 0] w (some (.int rZ)) wZ := by
  refine CallOK.of (ls := [some (.ref 0)]) (by decide) (by simp) rfl rfl ?_
  obtain ⟨Q, eQ⟩ : ∃ Q, Q = Qret cX11_goes (some .int) (some (.int rZ)) wZ := ⟨_, rfl⟩
  rw [← eQ]
  unfold fX11_goes at hf
  refine E_aload_n (v := 0) dX11_goes_0 rfl ?_
  refine E_getR fg_RX11_10 dX11_goes_1 sC_0 rfl rC_0_0 (Nat.succ_ne_zero _) ?_
  refine E_getI fg_RX11_186 dX11_goes_4 sC_1 rfl ?_
  refine E_bipush 60 dX11_goes_7 bp_60 ?_
  refine E_icmp_lt 15 dX11_goes_9 (by decide) (fun hc1 => ?_) (fun hc1 => ?_)
  · rw [if_pos hc1] at hf
    refine E_aload_n (v := 0) dX11_goes_15 rfl ?_
    refine E_getR fg_RX11_10 dX11_goes_16 sC_0 rfl rC_0_0 (Nat.succ_ne_zero _) ?_
    obtain ⟨r3, w4, hc2, hf⟩ := bd2_some hf
    try dsimp only at hf
    refine E_callVi (rest := []) (ci := 1) cv_RX11_281 dX11_goes_19 (MX1_workDay B_is1 hc2) rfl sC_1 rfl (by decide) rfl rfl (fun _ => Nat.le_of_ble_eq_true rfl) ?_
    obtain ⟨rfl, rfl⟩ := ret2 hf
    exact E.done (by rw [eQ]; exact ⟨rfl, Or.inl ⟨_, _, rfl, rfl, dX11_goes_22, rfl, rfl⟩⟩)
  · rw [if_neg hc1] at hf
    refine E_bipush (-4) dX11_goes_12 bp_m4 ?_
    obtain ⟨rfl, rfl⟩ := ret2 hf
    exact E.done (by rw [eQ]; exact ⟨rfl, Or.inl ⟨_, _, rfl, rfl, dX11_goes_14, rfl, rfl⟩⟩)
set_option maxRecDepth 10000 in
set_option maxHeartbeats 2000000 in
theorem MX1_come {b : Nat} {a0 : Int32} {a1 : Int32} {a2 : Int32} {a3 : Int32} {a4 : Int32} {w : AW} {rZ : Int32} {wZ : AW} (hb : isB b) (hf : fX1_come b a0 a1 a2 a3 a4 w = some (rZ, wZ)) : CallOK (PC S) yX1_come cX1_come 6 (some .int) 2 [.ref b, .int a0, .int a1, .int a2, .int a3, .int a4] w (some (.int rZ)) wZ := by
  refine CallOK.of (ls := [some (.ref b), some (.int a0), some (.int a1), some (.int a2), some (.int a3), some (.int a4)]) (by decide) (by simp) rfl rfl ?_
  obtain ⟨Q, eQ⟩ : ∃ Q, Q = Qret cX1_come (some .int) (some (.int rZ)) wZ := ⟨_, rfl⟩
  rw [← eQ]
  unfold fX1_come at hf
  refine E_aload_n (v := b) dX1_come_0 rfl ?_
  refine E_getR fg_RX1_12 dX1_come_1 (B_s0 hb) rfl (B_r0_0 hb) (Nat.succ_ne_zero _) ?_
  refine E_getI fg_RX1_54 dX1_come_4 (B_s1 hb) rfl ?_
  refine E_bipush 6 dX1_come_7 bp_6 ?_
  refine E_icmp_lt 15 dX1_come_9 (by decide) (fun hc1 => ?_) (fun hc1 => ?_)
  · rw [if_pos hc1] at hf
    refine E_aload_n (v := b) dX1_come_15 rfl ?_
    refine E_getR fg_RX1_28 dX1_come_16 (B_s0 hb) rfl (B_r0_4 hb) (Nat.succ_ne_zero _) ?_
    refine E_aload_n (v := b) dX1_come_19 rfl ?_
    refine E_getR fg_RX1_12 dX1_come_20 (B_s0 hb) rfl (B_r0_0 hb) (Nat.succ_ne_zero _) ?_
    refine E_getI fg_RX1_54 dX1_come_23 (B_s1 hb) rfl ?_
    refine E_aload_n (v := b) dX1_come_26 rfl ?_
    refine E_getR fg_RX1_12 dX1_come_27 (B_s0 hb) rfl (B_r0_0 hb) (Nat.succ_ne_zero _) ?_
    refine E_getI fg_RX1_54 dX1_come_30 (B_s1 hb) rfl ?_
    obtain ⟨hi2, hf⟩ := gd_some hf
    obtain ⟨w3, ew3, hf⟩ := lw_some hf
    try dsimp only at hf
    refine E_iast (n := 6) dX1_come_33 (B_s10 hb) (by decide) (inb_in hi2) ?_
    rw [← ew3]
    refine E_aload_n (v := b) dX1_come_34 rfl ?_
    refine E_getR fg_RX1_12 dX1_come_35 (B_s0 hb) rfl (B_r0_0 hb) (Nat.succ_ne_zero _) ?_
    refine E_iload_n (v := a0) dX1_come_38 rfl ?_
    refine E_iload_n (v := a1) dX1_come_39 rfl ?_
    refine E_iload_n (v := a2) dX1_come_40 rfl ?_
    refine E_iload (v := a3) dX1_come_41 rfl ?_
    refine E_iload (v := a4) dX1_come_43 rfl ?_
    obtain ⟨w5, hc4, hf⟩ := bd_some hf
    try dsimp only at hf
    refine E_callVv (rest := []) (ci := 4) cv_RX1_57 dX1_come_45 (MX4_add (B_j1 hb) hc4) rfl (B_s1 hb) rfl (by decide) rfl rfl (fun _ => Nat.le_of_ble_eq_true rfl) ?_
    refine E_aload_n (v := b) dX1_come_48 rfl ?_
    refine E_getR fg_RX1_12 dX1_come_49 (B_s0 hb) rfl (B_r0_0 hb) (Nat.succ_ne_zero _) ?_
    refine E_getI fg_RX1_54 dX1_come_52 (B_s1 hb) rfl ?_
    refine E_iconst 1 dX1_come_55 ic_1 ?_
    refine E_isub dX1_come_56 ?_
    obtain ⟨rfl, rfl⟩ := ret2 hf
    exact E.done (by rw [eQ]; exact ⟨rfl, Or.inl ⟨_, _, rfl, rfl, dX1_come_57, rfl, rfl⟩⟩)
  · rw [if_neg hc1] at hf
    refine E_bipush (-2) dX1_come_12 bp_m2 ?_
    obtain ⟨rfl, rfl⟩ := ret2 hf
    exact E.done (by rw [eQ]; exact ⟨rfl, Or.inl ⟨_, _, rfl, rfl, dX1_come_14, rfl, rfl⟩⟩)
set_option maxRecDepth 10000 in
set_option maxHeartbeats 2000000 in
theorem MX11_job {a0 : Int32} {a1 : Int32} {a2 : Int32} {a3 : Int32} {a4 : Int32} {w : AW} {rZ : Int32} {wZ : AW} (hf : fX11_job a0 a1 a2 a3 a4 w = some (rZ, wZ)) : CallOK (PC S) yX11_job cX11_job 6 (some .int) 3 [.ref 0, .int a0, .int a1, .int a2, .int a3, .int a4] w (some (.int rZ)) wZ := by
  refine CallOK.of (ls := [some (.ref 0), some (.int a0), some (.int a1), some (.int a2), some (.int a3), some (.int a4)]) (by decide) (by simp) rfl rfl ?_
  obtain ⟨Q, eQ⟩ : ∃ Q, Q = Qret cX11_job (some .int) (some (.int rZ)) wZ := ⟨_, rfl⟩
  rw [← eQ]
  unfold fX11_job at hf
  refine E_iload_n (v := a0) dX11_job_0 rfl ?_
  refine E_iload_n (v := a1) dX11_job_1 rfl ?_
  refine E_iload_n (v := a2) dX11_job_2 rfl ?_
  refine E_iload (v := a3) dX11_job_3 rfl ?_
  refine E_iload (v := a4) dX11_job_5 rfl ?_
  obtain ⟨r2, hc1, hf⟩ := bd_some hf
  try dsimp only at hf
  refine E_callSi (rest := []) cs_RX11_132 dX11_job_7 (MX11_isJob hc1) rfl rfl rfl (fun _ => Nat.le_of_ble_eq_true rfl) ?_
  refine E_if_ne 15 dX11_job_10 (by decide) (fun hc3 => ?_) (fun hc3 => ?_)
  · rw [if_pos hc3] at hf
    refine E_iconst (-1) dX11_job_13 ic_m1 ?_
    obtain ⟨rfl, rfl⟩ := ret2 hf
    exact E.done (by rw [eQ]; exact ⟨rfl, Or.inl ⟨_, _, rfl, rfl, dX11_job_14, rfl, rfl⟩⟩)
  · rw [if_neg hc3] at hf
    refine E_aload_n (v := 0) dX11_job_15 rfl ?_
    refine E_getR fg_RX11_10 dX11_job_16 sC_0 rfl rC_0_0 (Nat.succ_ne_zero _) ?_
    refine E_iload_n (v := a0) dX11_job_19 rfl ?_
    refine E_iload_n (v := a1) dX11_job_20 rfl ?_
    refine E_iload_n (v := a2) dX11_job_21 rfl ?_
    refine E_iload (v := a3) dX11_job_22 rfl ?_
    refine E_iload (v := a4) dX11_job_24 rfl ?_
    obtain ⟨r5, w6, hc4, hf⟩ := bd2_some hf
    try dsimp only at hf
    refine E_callVi (rest := []) (ci := 1) cv_RX11_136 dX11_job_26 (MX1_come B_is1 hc4) rfl sC_1 rfl (by decide) rfl rfl (fun _ => Nat.le_of_ble_eq_true rfl) ?_
    obtain ⟨rfl, rfl⟩ := ret2 hf
    exact E.done (by rw [eQ]; exact ⟨rfl, Or.inl ⟨_, _, rfl, rfl, dX11_job_29, rfl, rfl⟩⟩)
set_option maxRecDepth 10000 in
set_option maxHeartbeats 2000000 in
theorem MX6_firstWrong {N : Nat} {o0 : Nat} {w : AW} {rZ : Int32} (ho0 : isJ o0) (hf : fX6_firstWrong N o0 w = some rZ) : CallOK (PC S) yX6_firstWrong cX6_firstWrong 8 (some .int) 3 [.ref 59, .ref o0] w (some (.int rZ)) w := by
  refine CallOK.of (ls := [some (.ref 59), some (.ref o0), none, none, none, none, none, none]) (by decide) (by simp) rfl rfl ?_
  obtain ⟨Q, eQ⟩ : ∃ Q, Q = Qret cX6_firstWrong (some .int) (some (.int rZ)) w := ⟨_, rfl⟩
  rw [← eQ]
  unfold fX6_firstWrong at hf
  refine E_iconst 0 dX6_firstWrong_0 ic_0 ?_
  refine E_istore_n (ls' := [some (.ref 59), some (.ref o0), some (.int 0), none, none, none, none, none]) dX6_firstWrong_1 rfl rfl rfl ?_
  refine E_iconst 0 dX6_firstWrong_2 ic_0 ?_
  refine E_istore_n (ls' := [some (.ref 59), some (.ref o0), some (.int 0), some (.int 0), none, none, none, none]) dX6_firstWrong_3 rfl rfl rfl ?_
  refine E_iconst 0 dX6_firstWrong_4 ic_0 ?_
  refine E_istore (ls' := [some (.ref 59), some (.ref o0), some (.int 0), some (.int 0), some (.int 0), none, none, none]) dX6_firstWrong_5 rfl rfl rfl ?_
  refine E_iconst 0 dX6_firstWrong_7 ic_0 ?_
  refine E_istore (ls' := [some (.ref 59), some (.ref o0), some (.int 0), some (.int 0), some (.int 0), some (.int 0), none, none]) dX6_firstWrong_8 rfl rfl rfl ?_
  obtain ⟨q, hw19, hf⟩ := bd_some hf
  try dsimp only at hf
  show (fun (s : Int32 × Int32 × Int32 × Int32) => E (PC S) RX6 cX6_firstWrong 8 3 10 [some (.ref 59), some (.ref o0), some (.int s.1), some (.int s.2.1), some (.int s.2.2.1), some (.int s.2.2.2), none, none] [] w Q) (0, 0, 0, 0)
  refine wh_E (K := (fun (s : Int32 × Int32 × Int32 × Int32) => E (PC S) RX6 cX6_firstWrong 8 3 10 [some (.ref 59), some (.ref o0), some (.int s.1), some (.int s.2.1), some (.int s.2.2.1), some (.int s.2.2.2), none, none] [] w Q)) (X := (se (fun (s : Unit) => E (PC S) RX6 cX6_firstWrong 8 3 155 [some (.ref 59), some (.ref o0), none, none, none, none, none, none] [] w Q) (se (fun (s : Int32) => E (PC S) RX6 cX6_firstWrong 8 3 49 [none, none, none, none, none, some (.int s), none, none] [] w Q) (se (fun (s : Int32) => E (PC S) RX6 cX6_firstWrong 8 3 110 [none, none, none, none, none, some (.int s), none, none] [] w Q) (fun (s : Int32) => E (PC S) RX6 cX6_firstWrong 8 3 144 [none, none, none, none, none, some (.int s), none, none] [] w Q))))) ?_ hw19 ?_
  · intro s9 z9 hf k9
    obtain ⟨x2_10_1, x3_10_1, x4_10_1, x5_10_1⟩ := s9
    dsimp only [lbX6_firstWrong_10_1] at hf
    show E (PC S) RX6 cX6_firstWrong 8 3 10 [some (.ref 59), some (.ref o0), some (.int x2_10_1), some (.int x3_10_1), some (.int x4_10_1), some (.int x5_10_1), none, none] [] w Q
    refine E_iload (v := x5_10_1) dX6_firstWrong_10 rfl ?_
    refine E_aload_n (v := 59) dX6_firstWrong_12 rfl ?_
    refine E_getI fg_RX6_15 dX6_firstWrong_13 sC_59 rfl ?_
    refine E_icmp_ge 155 dX6_firstWrong_16 (by decide) (fun hc1 => ?_) (fun hc1 => ?_)
    · rw [if_pos hc1] at hf
      obtain rfl := Option.some.inj hf
      refine E.fewer (ls' := [some (.ref 59), some (.ref o0), none, none, none, none, none, none]) ⟨Or.inr rfl, ⟨Or.inr rfl, ⟨Or.inl rfl, ⟨Or.inl rfl, ⟨Or.inl rfl, ⟨Or.inl rfl, ⟨Or.inl rfl, ⟨Or.inl rfl, trivial⟩⟩⟩⟩⟩⟩⟩⟩ ?_
      exact k9
    · rw [if_neg hc1] at hf
      refine E_aload_n (v := 59) dX6_firstWrong_19 rfl ?_
      refine E_getR fg_RX6_11 dX6_firstWrong_20 sC_59 rfl rC_59_1 (Nat.succ_ne_zero _) ?_
      refine E_iload (v := x5_10_1) dX6_firstWrong_23 rfl ?_
      refine E_iconst 3 dX6_firstWrong_25 ic_3 ?_
      refine E_imul dX6_firstWrong_26 ?_
      obtain ⟨hi2, hf⟩ := gd_some hf
      refine E_iald (n := 18) dX6_firstWrong_27 sC_60 (by decide) (inb_in hi2) ?_
      obtain ⟨v3, ev3, hf⟩ := lw_some hf
      try dsimp only at hf
      rw [← ev3]
      refine E_istore (ls' := [some (.ref 59), some (.ref o0), some (.int x2_10_1), some (.int x3_10_1), some (.int x4_10_1), some (.int x5_10_1), some (.int v3), none]) dX6_firstWrong_28 rfl rfl rfl ?_
      refine E_aload_n (v := o0) dX6_firstWrong_30 rfl ?_
      refine E_iload (v := v3) dX6_firstWrong_31 rfl ?_
      obtain ⟨r5, hc4, hf⟩ := bd_some hf
      try dsimp only at hf
      refine E_callVi (rest := []) (ci := 4) cv_RX6_46 dX6_firstWrong_33 (MX4_has ho0 hc4) rfl (J_s0 ho0) rfl (by decide) rfl rfl (fun _ => Nat.le_of_ble_eq_true rfl) ?_
      refine E_if_eq 49 dX6_firstWrong_36 (by decide) (fun hc6 => ?_) (fun hc6 => ?_)
      · rw [if_pos hc6] at hf
        obtain rfl := Option.some.inj hf
        refine E.fewer (ls' := [none, none, none, none, none, some (.int x5_10_1), none, none]) ⟨Or.inl rfl, ⟨Or.inl rfl, ⟨Or.inl rfl, ⟨Or.inl rfl, ⟨Or.inl rfl, ⟨Or.inr rfl, ⟨Or.inl rfl, ⟨Or.inl rfl, trivial⟩⟩⟩⟩⟩⟩⟩⟩ ?_
        exact k9
      · rw [if_neg hc6] at hf
        refine E_iload (v := x4_10_1) dX6_firstWrong_39 rfl ?_
        refine E_iload (v := v3) dX6_firstWrong_41 rfl ?_
        refine E_ishr dX6_firstWrong_43 ?_
        refine E_iconst 1 dX6_firstWrong_44 ic_1 ?_
        refine E_iand dX6_firstWrong_45 ?_
        refine E_if_eq 54 dX6_firstWrong_46 (by decide) (fun hc7 => ?_) (fun hc7 => ?_)
        · rw [if_pos hc7] at hf
          refine E_iload (v := x4_10_1) dX6_firstWrong_54 rfl ?_
          refine E_iconst 1 dX6_firstWrong_56 ic_1 ?_
          refine E_iload (v := v3) dX6_firstWrong_57 rfl ?_
          refine E_ishl dX6_firstWrong_59 ?_
          refine E_ior dX6_firstWrong_60 ?_
          refine E_istore (ls' := [some (.ref 59), some (.ref o0), some (.int x2_10_1), some (.int x3_10_1), some (.int (x4_10_1 ||| (1 <<< (v3 &&& 31)))), some (.int x5_10_1), some (.int v3), none]) dX6_firstWrong_61 rfl rfl rfl ?_
          refine E_aload_n (v := 59) dX6_firstWrong_63 rfl ?_
          refine E_getR fg_RX6_19 dX6_firstWrong_64 sC_59 rfl rC_59_0 (Nat.succ_ne_zero _) ?_
          refine E_iload_n (v := x2_10_1) dX6_firstWrong_67 rfl ?_
          refine E_iload_n (v := x3_10_1) dX6_firstWrong_68 rfl ?_
          refine E_aload_n (v := o0) dX6_firstWrong_69 rfl ?_
          refine E_iload (v := v3) dX6_firstWrong_70 rfl ?_
          obtain ⟨r9, hc8, hf⟩ := bd_some hf
          try dsimp only at hf
          refine E_callVi (rest := []) (ci := 3) cv_RX6_50 dX6_firstWrong_72 (MX3_usedBehind ho0 hc8) rfl sC_46 rfl (by decide) rfl rfl (fun _ => Nat.le_of_ble_eq_true rfl) ?_
          refine E_istore_n (ls' := [some (.ref 59), some (.ref o0), some (.int r9), some (.int x3_10_1), some (.int (x4_10_1 ||| (1 <<< (v3 &&& 31)))), some (.int x5_10_1), some (.int v3), none]) dX6_firstWrong_75 rfl rfl rfl ?_
          refine E_aload_n (v := o0) dX6_firstWrong_76 rfl ?_
          refine E_getR fg_RX6_54 dX6_firstWrong_77 (J_s0 ho0) rfl (J_r0_3 ho0) (Nat.succ_ne_zero _) ?_
          refine E_iload (v := v3) dX6_firstWrong_80 rfl ?_
          obtain ⟨hi10, hf⟩ := gd_some hf
          refine E_iald (n := 6) dX6_firstWrong_82 (J_s3 ho0) (by decide) (inb_in hi10) ?_
          refine E_istore_n (ls' := [some (.ref 59), some (.ref o0), some (.int r9), some (.int (w.1 (o0 + 3) v3.toNatClampNeg)), some (.int (x4_10_1 ||| (1 <<< (v3 &&& 31)))), some (.int x5_10_1), some (.int v3), none]) dX6_firstWrong_83 rfl rfl rfl ?_
          refine E_aload_n (v := 59) dX6_firstWrong_84 rfl ?_
          refine E_getR fg_RX6_19 dX6_firstWrong_85 sC_59 rfl rC_59_0 (Nat.succ_ne_zero _) ?_
          refine E_iload_n (v := r9) dX6_firstWrong_88 rfl ?_
          obtain ⟨r12, hc11, hf⟩ := bd_some hf
          try dsimp only at hf
          refine E_callVi (rest := []) (ci := 3) cv_RX6_57 dX6_firstWrong_89 (MX3_dayAt hc11) rfl sC_46 rfl (by decide) rfl rfl (fun _ => Nat.le_of_ble_eq_true rfl) ?_
          refine E_istore (ls' := [some (.ref 59), some (.ref o0), some (.int r9), some (.int (w.1 (o0 + 3) v3.toNatClampNeg)), some (.int (x4_10_1 ||| (1 <<< (v3 &&& 31)))), some (.int x5_10_1), some (.int v3), some (.int r12)]) dX6_firstWrong_92 rfl rfl rfl ?_
          refine E_aload_n (v := 59) dX6_firstWrong_94 rfl ?_
          refine E_getR fg_RX6_11 dX6_firstWrong_95 sC_59 rfl rC_59_1 (Nat.succ_ne_zero _) ?_
          refine E_iload (v := x5_10_1) dX6_firstWrong_98 rfl ?_
          refine E_iconst 3 dX6_firstWrong_100 ic_3 ?_
          refine E_imul dX6_firstWrong_101 ?_
          refine E_iconst 1 dX6_firstWrong_102 ic_1 ?_
          refine E_iadd dX6_firstWrong_103 ?_
          obtain ⟨hi13, hf⟩ := gd_some hf
          refine E_iald (n := 18) dX6_firstWrong_104 sC_60 (by decide) (inb_in hi13) ?_
          refine E_iload (v := r12) dX6_firstWrong_105 rfl ?_
          refine E_icmp_eq 115 dX6_firstWrong_107 (by decide) (fun hc14 => ?_) (fun hc14 => ?_)
          · rw [if_pos hc14] at hf
            refine E_aload_n (v := 59) dX6_firstWrong_115 rfl ?_
            refine E_getR fg_RX6_11 dX6_firstWrong_116 sC_59 rfl rC_59_1 (Nat.succ_ne_zero _) ?_
            refine E_iload (v := x5_10_1) dX6_firstWrong_119 rfl ?_
            refine E_iconst 3 dX6_firstWrong_121 ic_3 ?_
            refine E_imul dX6_firstWrong_122 ?_
            refine E_iconst 2 dX6_firstWrong_123 ic_2 ?_
            refine E_iadd dX6_firstWrong_124 ?_
            obtain ⟨hi15, hf⟩ := gd_some hf
            refine E_iald (n := 18) dX6_firstWrong_125 sC_60 (by decide) (inb_in hi15) ?_
            refine E_aload_n (v := o0) dX6_firstWrong_126 rfl ?_
            refine E_iload (v := v3) dX6_firstWrong_127 rfl ?_
            refine E_iload (v := r12) dX6_firstWrong_129 rfl ?_
            refine E_aload_n (v := 59) dX6_firstWrong_131 rfl ?_
            refine E_getR fg_RX6_19 dX6_firstWrong_132 sC_59 rfl rC_59_0 (Nat.succ_ne_zero _) ?_
            refine E_getI fg_RX6_39 dX6_firstWrong_135 sC_46 rfl ?_
            obtain ⟨r17, hc16, hf⟩ := bd_some hf
            try dsimp only at hf
            refine E_callVi (rest := [.int (w.1 60 ((x5_10_1 * 3) + 2).toNatClampNeg)]) (ci := 4) cv_RX6_42 dX6_firstWrong_138 (MX4_valueOf ho0 hc16) rfl (J_s0 ho0) rfl (by decide) rfl rfl (fun _ => Nat.le_of_ble_eq_true rfl) ?_
            refine E_icmp_eq 149 dX6_firstWrong_141 (by decide) (fun hc18 => ?_) (fun hc18 => ?_)
            · rw [if_pos hc18] at hf
              refine E_iinc (ls' := [some (.ref 59), some (.ref o0), some (.int r9), some (.int (w.1 (o0 + 3) v3.toNatClampNeg)), some (.int (x4_10_1 ||| (1 <<< (v3 &&& 31)))), some (.int (x5_10_1 + 1)), some (.int v3), some (.int r12)]) 1 dX6_firstWrong_149 rfl ic_1 rfl rfl rfl ?_
              refine E_goto 10 dX6_firstWrong_152 (by decide) ?_
              obtain rfl := Option.some.inj hf
              refine E.fewer (ls' := [some (.ref 59), some (.ref o0), some (.int r9), some (.int (w.1 (o0 + 3) v3.toNatClampNeg)), some (.int (x4_10_1 ||| (1 <<< (v3 &&& 31)))), some (.int (x5_10_1 + 1)), none, none]) ⟨Or.inr rfl, ⟨Or.inr rfl, ⟨Or.inr rfl, ⟨Or.inr rfl, ⟨Or.inr rfl, ⟨Or.inr rfl, ⟨Or.inl rfl, ⟨Or.inl rfl, trivial⟩⟩⟩⟩⟩⟩⟩⟩ ?_
              exact k9
            · rw [if_neg hc18] at hf
              obtain rfl := Option.some.inj hf
              refine E.fewer (ls' := [none, none, none, none, none, some (.int x5_10_1), none, none]) ⟨Or.inl rfl, ⟨Or.inl rfl, ⟨Or.inl rfl, ⟨Or.inl rfl, ⟨Or.inl rfl, ⟨Or.inr rfl, ⟨Or.inl rfl, ⟨Or.inl rfl, trivial⟩⟩⟩⟩⟩⟩⟩⟩ ?_
              exact k9
          · rw [if_neg hc14] at hf
            obtain rfl := Option.some.inj hf
            refine E.fewer (ls' := [none, none, none, none, none, some (.int x5_10_1), none, none]) ⟨Or.inl rfl, ⟨Or.inl rfl, ⟨Or.inl rfl, ⟨Or.inl rfl, ⟨Or.inl rfl, ⟨Or.inr rfl, ⟨Or.inl rfl, ⟨Or.inl rfl, trivial⟩⟩⟩⟩⟩⟩⟩⟩ ?_
            exact k9
        · rw [if_neg hc7] at hf
          obtain rfl := Option.some.inj hf
          refine E.fewer (ls' := [none, none, none, none, none, some (.int x5_10_1), none, none]) ⟨Or.inl rfl, ⟨Or.inl rfl, ⟨Or.inl rfl, ⟨Or.inl rfl, ⟨Or.inl rfl, ⟨Or.inr rfl, ⟨Or.inl rfl, ⟨Or.inl rfl, trivial⟩⟩⟩⟩⟩⟩⟩⟩ ?_
          exact k9
  · skip
    rcases q with q | q
    · dsimp only [se] at hf
      try dsimp only at hf
      show E (PC S) RX6 cX6_firstWrong 8 3 155 [some (.ref 59), some (.ref o0), none, none, none, none, none, none] [] w Q
      refine E_aload_n (v := 59) dX6_firstWrong_155 rfl ?_
      refine E_getI fg_RX6_15 dX6_firstWrong_156 sC_59 rfl ?_
      refine E_aload_n (v := o0) dX6_firstWrong_159 rfl ?_
      refine E_getI fg_RX6_33 dX6_firstWrong_160 (J_s0 ho0) rfl ?_
      refine E_icmp_ge 172 dX6_firstWrong_163 (by decide) (fun hc20 => ?_) (fun hc20 => ?_)
      · rw [if_pos hc20] at hf
        refine E_iconst 0 dX6_firstWrong_172 ic_0 ?_
        obtain rfl := Option.some.inj hf
        exact E.done (by rw [eQ]; exact ⟨rfl, Or.inl ⟨_, _, rfl, rfl, dX6_firstWrong_173, rfl, rfl⟩⟩)
      · rw [if_neg hc20] at hf
        refine E_sipush 222 dX6_firstWrong_166 sp_222 ?_
        refine E_goto 173 dX6_firstWrong_169 (by decide) ?_
        obtain rfl := Option.some.inj hf
        exact E.done (by rw [eQ]; exact ⟨rfl, Or.inl ⟨_, _, rfl, rfl, dX6_firstWrong_173, rfl, rfl⟩⟩)
    · dsimp only [se] at hf
      rcases q with q | q
      · dsimp only [se] at hf
        obtain ⟨y21, hq9⟩ : ∃ a, a = q := ⟨_, rfl⟩
        subst hq9
        try dsimp only at hf
        show E (PC S) RX6 cX6_firstWrong 8 3 49 [none, none, none, none, none, some (.int y21), none, none] [] w Q
        refine E_iload (v := y21) dX6_firstWrong_49 rfl ?_
        refine E_iconst 1 dX6_firstWrong_51 ic_1 ?_
        refine E_iadd dX6_firstWrong_52 ?_
        obtain rfl := Option.some.inj hf
        exact E.done (by rw [eQ]; exact ⟨rfl, Or.inl ⟨_, _, rfl, rfl, dX6_firstWrong_53, rfl, rfl⟩⟩)
      · dsimp only [se] at hf
        rcases q with q | q
        · dsimp only [se] at hf
          obtain ⟨y22, hq9⟩ : ∃ a, a = q := ⟨_, rfl⟩
          subst hq9
          try dsimp only at hf
          show E (PC S) RX6 cX6_firstWrong 8 3 110 [none, none, none, none, none, some (.int y22), none, none] [] w Q
          refine E_iload (v := y22) dX6_firstWrong_110 rfl ?_
          refine E_iconst 1 dX6_firstWrong_112 ic_1 ?_
          refine E_iadd dX6_firstWrong_113 ?_
          obtain rfl := Option.some.inj hf
          exact E.done (by rw [eQ]; exact ⟨rfl, Or.inl ⟨_, _, rfl, rfl, dX6_firstWrong_114, rfl, rfl⟩⟩)
        · dsimp only [se] at hf
          obtain ⟨y23, hq9⟩ : ∃ a, a = q := ⟨_, rfl⟩
          subst hq9
          try dsimp only at hf
          show E (PC S) RX6 cX6_firstWrong 8 3 144 [none, none, none, none, none, some (.int y23), none, none] [] w Q
          refine E_iload (v := y23) dX6_firstWrong_144 rfl ?_
          refine E_iconst 1 dX6_firstWrong_146 ic_1 ?_
          refine E_iadd dX6_firstWrong_147 ?_
          obtain rfl := Option.some.inj hf
          exact E.done (by rw [eQ]; exact ⟨rfl, Or.inl ⟨_, _, rfl, rfl, dX6_firstWrong_148, rfl, rfl⟩⟩)
set_option maxRecDepth 10000 in
set_option maxHeartbeats 2000000 in
theorem MX11_judge {N : Nat} {w : AW} {rZ : Int32} {wZ : AW} (hf : fX11_judge N w = some (rZ, wZ)) : CallOK (PC S) yX11_judge cX11_judge 1 (some .int) 4 [.ref 0] w (some (.int rZ)) wZ := by
  refine CallOK.of (ls := [some (.ref 0)]) (by decide) (by simp) rfl rfl ?_
  obtain ⟨Q, eQ⟩ : ∃ Q, Q = Qret cX11_judge (some .int) (some (.int rZ)) wZ := ⟨_, rfl⟩
  rw [← eQ]
  unfold fX11_judge at hf
  refine E_aload_n (v := 0) dX11_judge_0 rfl ?_
  refine E_getR fg_RX11_43 dX11_judge_1 sC_0 rfl rC_0_6 (Nat.succ_ne_zero _) ?_
  refine E_aload_n (v := 0) dX11_judge_4 rfl ?_
  refine E_getR fg_RX11_10 dX11_judge_5 sC_0 rfl rC_0_0 (Nat.succ_ne_zero _) ?_
  refine E_iconst 0 dX11_judge_8 ic_0 ?_
  obtain ⟨w2, hc1, hf⟩ := bd_some hf
  try dsimp only at hf
  refine E_callVv (rest := []) (ci := 3) cv_RX11_208 dX11_judge_9 (MX3_measure B_is1 hc1) rfl sC_46 rfl (by decide) rfl rfl (fun _ => Nat.le_of_ble_eq_true rfl) ?_
  refine E_aload_n (v := 0) dX11_judge_12 rfl ?_
  refine E_getR fg_RX11_75 dX11_judge_13 sC_0 rfl rC_0_10 (Nat.succ_ne_zero _) ?_
  refine E_aload_n (v := 0) dX11_judge_16 rfl ?_
  refine E_getR fg_RX11_10 dX11_judge_17 sC_0 rfl rC_0_0 (Nat.succ_ne_zero _) ?_
  refine E_getR fg_RX11_130 dX11_judge_20 sC_1 rfl rC_1_0 (Nat.succ_ne_zero _) ?_
  obtain ⟨r4, hc3, hf⟩ := bd_some hf
  try dsimp only at hf
  refine E_callVi (rest := []) (ci := 6) cv_RX11_296 dX11_judge_23 (MX6_firstWrong J_is2 hc3) rfl sC_59 rfl (by decide) rfl rfl (fun _ => Nat.le_of_ble_eq_true rfl) ?_
  obtain ⟨rfl, rfl⟩ := ret2 hf
  exact E.done (by rw [eQ]; exact ⟨rfl, Or.inl ⟨_, _, rfl, rfl, dX11_judge_26, rfl, rfl⟩⟩)
set_option maxRecDepth 10000 in
set_option maxHeartbeats 2000000 in
theorem MX11_keep {N : Nat} {w : AW} {rZ : Int32} {wZ : AW} (hf : fX11_keep N w = some (rZ, wZ)) : CallOK (PC S) yX11_keep cX11_keep 1 (some .int) 3 [.ref 0] w (some (.int rZ)) wZ := by
  refine CallOK.of (ls := [some (.ref 0)]) (by decide) (by simp) rfl rfl ?_
  obtain ⟨Q, eQ⟩ : ∃ Q, Q = Qret cX11_keep (some .int) (some (.int rZ)) wZ := ⟨_, rfl⟩
  rw [← eQ]
  unfold fX11_keep at hf
  refine E_aload_n (v := 0) dX11_keep_0 rfl ?_
  refine E_getR fg_RX11_16 dX11_keep_1 sC_0 rfl rC_0_1 (Nat.succ_ne_zero _) ?_
  refine E_aload_n (v := 0) dX11_keep_4 rfl ?_
  refine E_getR fg_RX11_10 dX11_keep_5 sC_0 rfl rC_0_0 (Nat.succ_ne_zero _) ?_
  obtain ⟨w2, hc1, hf⟩ := bd_some hf
  try dsimp only at hf
  refine E_callVv (rest := []) (ci := 1) cv_RX11_360 dX11_keep_8 (MX1_copy B_is12 B_is1 hc1) rfl sC_12 rfl (by decide) rfl rfl (fun _ => Nat.le_of_ble_eq_true rfl) ?_
  refine E_aload_n (v := 0) dX11_keep_11 rfl ?_
  refine E_getR fg_RX11_26 dX11_keep_12 sC_0 rfl rC_0_3 (Nat.succ_ne_zero _) ?_
  refine E_aload_n (v := 0) dX11_keep_15 rfl ?_
  refine E_getR fg_RX11_22 dX11_keep_16 sC_0 rfl rC_0_2 (Nat.succ_ne_zero _) ?_
  obtain ⟨w4, hc3, hf⟩ := bd_some hf
  try dsimp only at hf
  refine E_callVv (rest := []) (ci := 10) cv_RX11_363 dX11_keep_19 (MX10_copy T_is30 T_is23 hc3) rfl sC_30 rfl (by decide) rfl rfl (fun _ => Nat.le_of_ble_eq_true rfl) ?_
  refine E_aload_n (v := 0) dX11_keep_22 rfl ?_
  refine E_iconst 1 dX11_keep_23 ic_1 ?_
  obtain ⟨w5, ew5, hf⟩ := lw_some hf
  try dsimp only at hf
  refine E_putI fp_RX11_29 dX11_keep_24 sC_0 rfl rfl rfl ?_
  rw [← ew5]
  refine E_iconst 1 dX11_keep_27 ic_1 ?_
  obtain ⟨rfl, rfl⟩ := ret2 hf
  exact E.done (by rw [eQ]; exact ⟨rfl, Or.inl ⟨_, _, rfl, rfl, dX11_keep_28, rfl, rfl⟩⟩)
set_option maxRecDepth 10000 in
set_option maxHeartbeats 2000000 in
theorem MX11_late {N : Nat} {w : AW} {rZ : Int32} {wZ : AW} (hf : fX11_late N w = some (rZ, wZ)) : CallOK (PC S) yX11_late cX11_late 3 (some .int) 5 [.ref 0] w (some (.int rZ)) wZ := by
  refine CallOK.of (ls := [some (.ref 0), none, none]) (by decide) (by simp) rfl rfl ?_
  obtain ⟨Q, eQ⟩ : ∃ Q, Q = Qret cX11_late (some .int) (some (.int rZ)) wZ := ⟨_, rfl⟩
  rw [← eQ]
  unfold fX11_late at hf
  refine E_aload_n (v := 0) dX11_late_0 rfl ?_
  obtain ⟨w2, hc1, hf⟩ := bd_some hf
  try dsimp only at hf
  refine E_callVv (rest := []) (ci := 11) cv_RX11_194 dX11_late_1 (MX11_followPlan hc1) rfl sC_0 rfl (by decide) rfl rfl (fun _ => Nat.le_of_ble_eq_true rfl) ?_
  refine E_iconst 0 dX11_late_4 ic_0 ?_
  refine E_istore_n (ls' := [some (.ref 0), some (.int 0), none]) dX11_late_5 rfl rfl rfl ?_
  refine E_iconst 0 dX11_late_6 ic_0 ?_
  refine E_istore_n (ls' := [some (.ref 0), some (.int 0), some (.int 0)]) dX11_late_7 rfl rfl rfl ?_
  obtain ⟨q, hw6, hf⟩ := bd_some hf
  try dsimp only at hf
  show (fun (s : Int32 × Int32) => E (PC S) RX11 cX11_late 3 5 8 [some (.ref 0), some (.int s.1), some (.int s.2)] [] w2 Q) (0, 0)
  refine wh_E (K := (fun (s : Int32 × Int32) => E (PC S) RX11 cX11_late 3 5 8 [some (.ref 0), some (.int s.1), some (.int s.2)] [] w2 Q)) (X := (fun (s : Int32) => E (PC S) RX11 cX11_late 3 5 58 [none, some (.int s), none] [] w2 Q)) ?_ hw6 ?_
  · intro s9 z9 hf k9
    obtain ⟨x1_8_1, x2_8_1⟩ := s9
    dsimp only [lbX11_late_8_1] at hf
    show E (PC S) RX11 cX11_late 3 5 8 [some (.ref 0), some (.int x1_8_1), some (.int x2_8_1)] [] w2 Q
    refine E_iload_n (v := x2_8_1) dX11_late_8 rfl ?_
    refine E_aload_n (v := 0) dX11_late_9 rfl ?_
    refine E_getR fg_RX11_10 dX11_late_10 sC_0 rfl rC_0_0 (Nat.succ_ne_zero _) ?_
    refine E_getR fg_RX11_130 dX11_late_13 sC_1 rfl rC_1_0 (Nat.succ_ne_zero _) ?_
    refine E_getI fg_RX11_131 dX11_late_16 sC_2 rfl ?_
    refine E_icmp_ge 58 dX11_late_19 (by decide) (fun hc3 => ?_) (fun hc3 => ?_)
    · rw [if_pos hc3] at hf
      obtain rfl := Option.some.inj hf
      refine E.fewer (ls' := [none, some (.int x1_8_1), none]) ⟨Or.inl rfl, ⟨Or.inr rfl, ⟨Or.inl rfl, trivial⟩⟩⟩ ?_
      exact k9
    · rw [if_neg hc3] at hf
      refine E_aload_n (v := 0) dX11_late_22 rfl ?_
      refine E_getR fg_RX11_43 dX11_late_23 sC_0 rfl rC_0_6 (Nat.succ_ne_zero _) ?_
      refine E_getR fg_RX11_197 dX11_late_26 sC_46 rfl rC_46_1 (Nat.succ_ne_zero _) ?_
      refine E_iload_n (v := x2_8_1) dX11_late_29 rfl ?_
      obtain ⟨hi4, hf⟩ := gd_some hf
      refine E_iald (n := 6) dX11_late_30 sC_48 (by decide) (inb_in hi4) ?_
      refine E_aload_n (v := 0) dX11_late_31 rfl ?_
      refine E_getR fg_RX11_10 dX11_late_32 sC_0 rfl rC_0_0 (Nat.succ_ne_zero _) ?_
      refine E_getR fg_RX11_130 dX11_late_35 sC_1 rfl rC_1_0 (Nat.succ_ne_zero _) ?_
      refine E_getR fg_RX11_153 dX11_late_38 sC_2 rfl rC_2_4 (Nat.succ_ne_zero _) ?_
      refine E_iload_n (v := x2_8_1) dX11_late_41 rfl ?_
      refine E_iald (n := 6) dX11_late_42 sC_6 (by decide) (inb_in hi4) ?_
      refine E_icmp_le 52 dX11_late_43 (by decide) (fun hc5 => ?_) (fun hc5 => ?_)
      · rw [if_pos hc5] at hf
        refine E_iinc (ls' := [some (.ref 0), some (.int x1_8_1), some (.int (x2_8_1 + 1))]) 1 dX11_late_52 rfl ic_1 rfl rfl rfl ?_
        refine E_goto 8 dX11_late_55 (by decide) ?_
        obtain rfl := Option.some.inj hf
        exact k9
      · rw [if_neg hc5] at hf
        refine E_iload_n (v := x1_8_1) dX11_late_46 rfl ?_
        refine E_iconst 1 dX11_late_47 ic_1 ?_
        refine E_iload_n (v := x2_8_1) dX11_late_48 rfl ?_
        refine E_ishl dX11_late_49 ?_
        refine E_ior dX11_late_50 ?_
        refine E_istore_n (ls' := [some (.ref 0), some (.int (x1_8_1 ||| (1 <<< (x2_8_1 &&& 31)))), some (.int x2_8_1)]) dX11_late_51 rfl rfl rfl ?_
        refine E_iinc (ls' := [some (.ref 0), some (.int (x1_8_1 ||| (1 <<< (x2_8_1 &&& 31)))), some (.int (x2_8_1 + 1))]) 1 dX11_late_52 rfl ic_1 rfl rfl rfl ?_
        refine E_goto 8 dX11_late_55 (by decide) ?_
        obtain rfl := Option.some.inj hf
        exact k9
  · skip
    obtain ⟨y7, hq9⟩ : ∃ a, a = q := ⟨_, rfl⟩
    subst hq9
    try dsimp only at hf
    show E (PC S) RX11 cX11_late 3 5 58 [none, some (.int y7), none] [] w2 Q
    refine E_iload_n (v := y7) dX11_late_58 rfl ?_
    obtain ⟨rfl, rfl⟩ := ret2 hf
    exact E.done (by rw [eQ]; exact ⟨rfl, Or.inl ⟨_, _, rfl, rfl, dX11_late_59, rfl, rfl⟩⟩)
set_option maxRecDepth 10000 in
set_option maxHeartbeats 2000000 in
theorem MX11_lose {a0 : Int32} {a1 : Int32} {w : AW} {rZ : Int32} {wZ : AW} (hf : fX11_lose a0 a1 w = some (rZ, wZ)) : CallOK (PC S) yX11_lose cX11_lose 4 (some .int) 2 [.ref 0, .int a0, .int a1] w (some (.int rZ)) wZ := by
  refine CallOK.of (ls := [some (.ref 0), some (.int a0), some (.int a1), none]) (by decide) (by simp) rfl rfl ?_
  obtain ⟨Q, eQ⟩ : ∃ Q, Q = Qret cX11_lose (some .int) (some (.int rZ)) wZ := ⟨_, rfl⟩
  rw [← eQ]
  unfold fX11_lose at hf
  refine E_iload_n (v := a0) dX11_lose_0 rfl ?_
  refine E_iconst 0 dX11_lose_1 ic_0 ?_
  refine E_bipush 60 dX11_lose_2 bp_60 ?_
  obtain ⟨r2, hc1, hf⟩ := bd_some hf
  try dsimp only at hf
  refine E_callSi (rest := []) cs_RX11_100 dX11_lose_4 (MX11_within hc1) rfl rfl rfl (fun _ => Nat.le_of_ble_eq_true rfl) ?_
  refine E_if_eq 20 dX11_lose_7 (by decide) (fun hc3 => ?_) (fun hc3 => ?_)
  · rw [if_pos hc3] at hf
    refine E_iconst (-1) dX11_lose_20 ic_m1 ?_
    obtain ⟨rfl, rfl⟩ := ret2 hf
    exact E.done (by rw [eQ]; exact ⟨rfl, Or.inl ⟨_, _, rfl, rfl, dX11_lose_21, rfl, rfl⟩⟩)
  · rw [if_neg hc3] at hf
    refine E_iload_n (v := a1) dX11_lose_10 rfl ?_
    refine E_iconst 0 dX11_lose_11 ic_0 ?_
    refine E_bipush 9 dX11_lose_12 bp_9 ?_
    obtain ⟨r5, hc4, hf⟩ := bd_some hf
    try dsimp only at hf
    refine E_callSi (rest := []) cs_RX11_100 dX11_lose_14 (MX11_within hc4) rfl rfl rfl (fun _ => Nat.le_of_ble_eq_true rfl) ?_
    refine E_if_ne 22 dX11_lose_17 (by decide) (fun hc6 => ?_) (fun hc6 => ?_)
    · rw [if_pos hc6] at hf
      refine E_iconst (-1) dX11_lose_20 ic_m1 ?_
      obtain ⟨rfl, rfl⟩ := ret2 hf
      exact E.done (by rw [eQ]; exact ⟨rfl, Or.inl ⟨_, _, rfl, rfl, dX11_lose_21, rfl, rfl⟩⟩)
    · rw [if_neg hc6] at hf
      refine E_aload_n (v := 0) dX11_lose_22 rfl ?_
      refine E_getR fg_RX11_10 dX11_lose_23 sC_0 rfl rC_0_0 (Nat.succ_ne_zero _) ?_
      refine E_getR fg_RX11_170 dX11_lose_26 sC_1 rfl rC_1_2 (Nat.succ_ne_zero _) ?_
      refine E_iload_n (v := a0) dX11_lose_29 rfl ?_
      obtain ⟨hi7, hf⟩ := gd_some hf
      refine E_iald (n := 61) dX11_lose_30 sC_9 (by decide) (inb_in hi7) ?_
      refine E_istore_n (ls' := [some (.ref 0), some (.int a0), some (.int a1), some (.int (w.1 9 a0.toNatClampNeg))]) dX11_lose_31 rfl rfl rfl ?_
      refine E_aload_n (v := 0) dX11_lose_32 rfl ?_
      refine E_getR fg_RX11_10 dX11_lose_33 sC_0 rfl rC_0_0 (Nat.succ_ne_zero _) ?_
      refine E_getR fg_RX11_170 dX11_lose_36 sC_1 rfl rC_1_2 (Nat.succ_ne_zero _) ?_
      refine E_iload_n (v := a0) dX11_lose_39 rfl ?_
      refine E_iload_n (v := a1) dX11_lose_40 rfl ?_
      obtain ⟨w8, ew8, hf⟩ := lw_some hf
      try dsimp only at hf
      refine E_iast (n := 61) dX11_lose_41 sC_9 (by decide) (inb_in hi7) ?_
      rw [← ew8]
      refine E_iload_n (v := (w.1 9 a0.toNatClampNeg)) dX11_lose_42 rfl ?_
      obtain ⟨rfl, rfl⟩ := ret2 hf
      exact E.done (by rw [eQ]; exact ⟨rfl, Or.inl ⟨_, _, rfl, rfl, dX11_lose_43, rfl, rfl⟩⟩)
set_option maxRecDepth 10000 in
set_option maxHeartbeats 2000000 in
theorem MX11_many {a0 : Int32} {w : AW} {rZ : Int32} (hf : fX11_many a0 w = some rZ) : CallOK (PC S) yX11_many cX11_many 2 (some .int) 1 [.ref 0, .int a0] w (some (.int rZ)) w := by
  refine CallOK.of (ls := [some (.ref 0), some (.int a0)]) (by decide) (by simp) rfl rfl ?_
  obtain ⟨Q, eQ⟩ : ∃ Q, Q = Qret cX11_many (some .int) (some (.int rZ)) w := ⟨_, rfl⟩
  rw [← eQ]
  unfold fX11_many at hf
  refine E_iload_n (v := a0) dX11_many_0 rfl ?_
  by_cases hc1 : a0 = 0
  · rw [if_pos hc1] at hf
    refine E_tableIn 36 dX11_many_1 (by rw [hc1]; decide) (by rw [hc1]; decide) (by rw [hc1]; rfl) (by decide) ?_
    refine E_aload_n (v := 0) dX11_many_36 rfl ?_
    refine E_getR fg_RX11_10 dX11_many_37 sC_0 rfl rC_0_0 (Nat.succ_ne_zero _) ?_
    refine E_getR fg_RX11_130 dX11_many_40 sC_1 rfl rC_1_0 (Nat.succ_ne_zero _) ?_
    refine E_getI fg_RX11_131 dX11_many_43 sC_2 rfl ?_
    obtain rfl := Option.some.inj hf
    exact E.done (by rw [eQ]; exact ⟨rfl, Or.inl ⟨_, _, rfl, rfl, dX11_many_46, rfl, rfl⟩⟩)
  · rw [if_neg hc1] at hf
    by_cases hc2 : a0 = 1
    · rw [if_pos hc2] at hf
      refine E_tableIn 47 dX11_many_1 (by rw [hc2]; decide) (by rw [hc2]; decide) (by rw [hc2]; rfl) (by decide) ?_
      refine E_aload_n (v := 0) dX11_many_47 rfl ?_
      refine E_getR fg_RX11_22 dX11_many_48 sC_0 rfl rC_0_2 (Nat.succ_ne_zero _) ?_
      refine E_getI fg_RX11_258 dX11_many_51 sC_23 rfl ?_
      obtain rfl := Option.some.inj hf
      exact E.done (by rw [eQ]; exact ⟨rfl, Or.inl ⟨_, _, rfl, rfl, dX11_many_54, rfl, rfl⟩⟩)
    · rw [if_neg hc2] at hf
      by_cases hc3 : a0 = 2
      · rw [if_pos hc3] at hf
        refine E_tableIn 55 dX11_many_1 (by rw [hc3]; decide) (by rw [hc3]; decide) (by rw [hc3]; rfl) (by decide) ?_
        refine E_aload_n (v := 0) dX11_many_55 rfl ?_
        refine E_getR fg_RX11_75 dX11_many_56 sC_0 rfl rC_0_10 (Nat.succ_ne_zero _) ?_
        refine E_getI fg_RX11_126 dX11_many_59 sC_59 rfl ?_
        obtain rfl := Option.some.inj hf
        exact E.done (by rw [eQ]; exact ⟨rfl, Or.inl ⟨_, _, rfl, rfl, dX11_many_62, rfl, rfl⟩⟩)
      · rw [if_neg hc3] at hf
        by_cases hc4 : a0 = 3
        · rw [if_pos hc4] at hf
          refine E_tableIn 63 dX11_many_1 (by rw [hc4]; decide) (by rw [hc4]; decide) (by rw [hc4]; rfl) (by decide) ?_
          refine E_aload_n (v := 0) dX11_many_63 rfl ?_
          refine E_getR fg_RX11_36 dX11_many_64 sC_0 rfl rC_0_5 (Nat.succ_ne_zero _) ?_
          refine E_getI fg_RX11_359 dX11_many_67 sC_37 rfl ?_
          obtain rfl := Option.some.inj hf
          exact E.done (by rw [eQ]; exact ⟨rfl, Or.inl ⟨_, _, rfl, rfl, dX11_many_70, rfl, rfl⟩⟩)
        · rw [if_neg hc4] at hf
          by_cases hc5 : a0 = 4
          · rw [if_pos hc5] at hf
            refine E_tableIn 71 dX11_many_1 (by rw [hc5]; decide) (by rw [hc5]; decide) (by rw [hc5]; rfl) (by decide) ?_
            refine E_aload_n (v := 0) dX11_many_71 rfl ?_
            refine E_getR fg_RX11_96 dX11_many_72 sC_0 rfl rC_0_13 (Nat.succ_ne_zero _) ?_
            refine E_getI fg_RX11_353 dX11_many_75 sC_74 rfl ?_
            obtain rfl := Option.some.inj hf
            exact E.done (by rw [eQ]; exact ⟨rfl, Or.inl ⟨_, _, rfl, rfl, dX11_many_78, rfl, rfl⟩⟩)
          · rw [if_neg hc5] at hf
            refine E_tableOut 79 dX11_many_1 (tb_0_4 hc1 hc2 hc3 hc4 hc5) (by decide) ?_
            refine E_iconst (-1) dX11_many_79 ic_m1 ?_
            obtain rfl := Option.some.inj hf
            exact E.done (by rw [eQ]; exact ⟨rfl, Or.inl ⟨_, _, rfl, rfl, dX11_many_80, rfl, rfl⟩⟩)
set_option maxRecDepth 10000 in
set_option maxHeartbeats 2000000 in
theorem MX11_partOf {N : Nat} {a0 : Int32} {a1 : Int32} {a2 : Int32} {w : AW} {rZ : Int32} (hf : fX11_partOf N a0 a1 a2 w = some rZ) : CallOK (PC S) yX11_partOf cX11_partOf 5 (some .int) 1 [.int a0, .int a1, .int a2] w (some (.int rZ)) w := by
  refine CallOK.of (ls := [some (.int a0), some (.int a1), some (.int a2), none, none]) (by decide) (by simp) rfl rfl ?_
  obtain ⟨Q, eQ⟩ : ∃ Q, Q = Qret cX11_partOf (some .int) (some (.int rZ)) w := ⟨_, rfl⟩
  rw [← eQ]
  unfold fX11_partOf at hf
  refine E_iload_n (v := a1) dX11_partOf_0 rfl ?_
  refine E_istore_n (ls' := [some (.int a0), some (.int a1), some (.int a2), some (.int a1), none]) dX11_partOf_1 rfl rfl rfl ?_
  refine E_iload_n (v := a0) dX11_partOf_2 rfl ?_
  refine E_istore (ls' := [some (.int a0), some (.int a1), some (.int a2), some (.int a1), some (.int a0)]) dX11_partOf_3 rfl rfl rfl ?_
  obtain ⟨q, hw3, hf⟩ := bd_some hf
  try dsimp only at hf
  refine E.fewer (ls' := [none, none, some (.int a2), some (.int a1), some (.int a0)]) ⟨Or.inl rfl, ⟨Or.inl rfl, ⟨Or.inr rfl, ⟨Or.inr rfl, ⟨Or.inr rfl, trivial⟩⟩⟩⟩⟩ ?_
  show (fun (s : Int32 × Int32) => E (PC S) RX11 cX11_partOf 5 1 5 [none, none, some (.int a2), some (.int s.1), some (.int s.2)] [] w Q) (a1, a0)
  refine wh_E (K := (fun (s : Int32 × Int32) => E (PC S) RX11 cX11_partOf 5 1 5 [none, none, some (.int a2), some (.int s.1), some (.int s.2)] [] w Q)) (X := (fun (s : Int32 × Int32) => E (PC S) RX11 cX11_partOf 5 1 28 [none, none, some (.int a2), some (.int s.1), some (.int s.2)] [] w Q)) ?_ hw3 ?_
  · intro s9 z9 hf k9
    obtain ⟨x3_5_1, x4_5_1⟩ := s9
    dsimp only [lbX11_partOf_5_1] at hf
    show E (PC S) RX11 cX11_partOf 5 1 5 [none, none, some (.int a2), some (.int x3_5_1), some (.int x4_5_1)] [] w Q
    refine E_iload_n (v := x3_5_1) dX11_partOf_5 rfl ?_
    refine E_if_le 28 dX11_partOf_6 (by decide) (fun hc1 => ?_) (fun hc1 => ?_)
    · rw [if_pos hc1] at hf
      obtain rfl := Option.some.inj hf
      exact k9
    · rw [if_neg hc1] at hf
      refine E_iload (v := x4_5_1) dX11_partOf_9 rfl ?_
      refine E_iconst 2 dX11_partOf_11 ic_2 ?_
      refine E_irem dX11_partOf_12 (by decide) ?_
      refine E_if_ne 28 dX11_partOf_13 (by decide) (fun hc2 => ?_) (fun hc2 => ?_)
      · rw [if_pos hc2] at hf
        refine E_iload (v := x4_5_1) dX11_partOf_16 rfl ?_
        refine E_iconst 2 dX11_partOf_18 ic_2 ?_
        refine E_idiv dX11_partOf_19 (by decide) ?_
        refine E_istore (ls' := [none, none, some (.int a2), some (.int x3_5_1), some (.int (x4_5_1 / 2))]) dX11_partOf_20 rfl rfl rfl ?_
        refine E_iinc (ls' := [none, none, some (.int a2), some (.int (x3_5_1 + (-1))), some (.int (x4_5_1 / 2))]) (-1) dX11_partOf_22 rfl ic_m1 rfl rfl rfl ?_
        refine E_goto 5 dX11_partOf_25 (by decide) ?_
        obtain rfl := Option.some.inj hf
        exact k9
      · rw [if_neg hc2] at hf
        obtain rfl := Option.some.inj hf
        exact k9
  · skip
    obtain ⟨y4, y5⟩ := q
    try dsimp only at hf
    show E (PC S) RX11 cX11_partOf 5 1 28 [none, none, some (.int a2), some (.int y4), some (.int y5)] [] w Q
    refine E_iload_n (v := a2) dX11_partOf_28 rfl ?_
    refine E_if_ne 37 dX11_partOf_29 (by decide) (fun hc6 => ?_) (fun hc6 => ?_)
    · rw [if_pos hc6] at hf
      refine E_iload (v := y5) dX11_partOf_32 rfl ?_
      refine E_goto 40 dX11_partOf_34 (by decide) ?_
      obtain rfl := Option.some.inj hf
      exact E.done (by rw [eQ]; exact ⟨rfl, Or.inl ⟨_, _, rfl, rfl, dX11_partOf_40, rfl, rfl⟩⟩)
    · rw [if_neg hc6] at hf
      refine E_iconst 1 dX11_partOf_37 ic_1 ?_
      refine E_iload_n (v := y4) dX11_partOf_38 rfl ?_
      refine E_ishl dX11_partOf_39 ?_
      obtain rfl := Option.some.inj hf
      exact E.done (by rw [eQ]; exact ⟨rfl, Or.inl ⟨_, _, rfl, rfl, dX11_partOf_40, rfl, rfl⟩⟩)
set_option maxRecDepth 10000 in
set_option maxHeartbeats 2000000 in
theorem MX2_begin {a0 : Int32} {w : AW} {wZ : AW} (hf : fX2_begin a0 w = some wZ) : CallOK (PC S) yX2_begin cX2_begin 2 none 1 [.ref 52, .int a0] w none wZ := by
  refine CallOK.of (ls := [some (.ref 52), some (.int a0)]) (by decide) (by simp) rfl rfl ?_
  obtain ⟨Q, eQ⟩ : ∃ Q, Q = Qret cX2_begin none none wZ := ⟨_, rfl⟩
  rw [← eQ]
  unfold fX2_begin at hf
  refine E_aload_n (v := 52) dX2_begin_0 rfl ?_
  refine E_iload_n (v := a0) dX2_begin_1 rfl ?_
  obtain ⟨hb2, hf⟩ := gd_some hf
  obtain ⟨w1, ew1, hf⟩ := lw_some hf
  try dsimp only at hf
  refine E_putI fp_RX2_27 dX2_begin_2 sC_52 rfl (isb_n hb2) (isb_f hb2) ?_
  rw [← ew1]
  refine E_aload_n (v := 52) dX2_begin_5 rfl ?_
  refine E_getR fg_RX2_11 dX2_begin_6 sC_52 rfl rC_52_1 (Nat.succ_ne_zero _) ?_
  refine E_iconst 1 dX2_begin_9 ic_1 ?_
  refine E_iconst 0 dX2_begin_10 ic_0 ?_
  obtain ⟨w3, ew3, hf⟩ := lw_some hf
  try dsimp only at hf
  refine E_iast (n := 128) dX2_begin_11 sC_53 (by decide) (inb_in (by decide)) ?_
  rw [← ew3]
  refine E_aload_n (v := 52) dX2_begin_12 rfl ?_
  refine E_getR fg_RX2_15 dX2_begin_13 sC_52 rfl rC_52_2 (Nat.succ_ne_zero _) ?_
  refine E_iconst 1 dX2_begin_16 ic_1 ?_
  refine E_iconst 1 dX2_begin_17 ic_1 ?_
  obtain ⟨w4, ew4, hf⟩ := lw_some hf
  try dsimp only at hf
  refine E_iast (n := 128) dX2_begin_18 sC_54 (by decide) (inb_in (by decide)) ?_
  rw [← ew4]
  refine E_aload_n (v := 52) dX2_begin_19 rfl ?_
  refine E_getR fg_RX2_18 dX2_begin_20 sC_52 rfl rC_52_3 (Nat.succ_ne_zero _) ?_
  refine E_iconst 0 dX2_begin_23 ic_0 ?_
  refine E_iconst 1 dX2_begin_24 ic_1 ?_
  obtain ⟨w5, ew5, hf⟩ := lw_some hf
  try dsimp only at hf
  refine E_iast (n := 7) dX2_begin_25 sC_55 (by decide) (inb_in (by decide)) ?_
  rw [← ew5]
  obtain rfl := Option.some.inj hf
  exact E.done (by rw [eQ]; exact ⟨rfl, Or.inr ⟨rfl, rfl, dX2_begin_26, rfl⟩⟩)
set_option maxRecDepth 10000 in
set_option maxHeartbeats 2000000 in
theorem MX2_spread {N : Nat} {o0 : Nat} {a1 : Int32} {a2 : Int32} {a3 : Int32} {w : AW} {rZ : Int32} {wZ : AW} (ho0 : isJ o0) (hf : fX2_spread N o0 a1 a2 a3 w = some (rZ, wZ)) : CallOK (PC S) yX2_spread cX2_spread 14 (some .int) 3 [.ref 52, .ref o0, .int a1, .int a2, .int a3] w (some (.int rZ)) wZ := by
  refine CallOK.of (ls := [some (.ref 52), some (.ref o0), some (.int a1), some (.int a2), some (.int a3), none, none, none, none, none, none, none, none, none]) (by decide) (by simp) rfl rfl ?_
  obtain ⟨Q, eQ⟩ : ∃ Q, Q = Qret cX2_spread (some .int) (some (.int rZ)) wZ := ⟨_, rfl⟩
  rw [← eQ]
  unfold fX2_spread at hf
  refine E_iconst 1 dX2_spread_0 ic_1 ?_
  refine E_iload_n (v := a1) dX2_spread_1 rfl ?_
  refine E_ishl dX2_spread_2 ?_
  refine E_istore (ls' := [some (.ref 52), some (.ref o0), some (.int a1), some (.int a2), some (.int a3), some (.int (1 <<< (a1 &&& 31))), none, none, none, none, none, none, none, none]) dX2_spread_3 rfl rfl rfl ?_
  refine E_iload (v := (1 <<< (a1 &&& 31))) dX2_spread_5 rfl ?_
  refine E_iconst 2 dX2_spread_7 ic_2 ?_
  refine E_imul dX2_spread_8 ?_
  refine E_istore (ls' := [some (.ref 52), some (.ref o0), some (.int a1), some (.int a2), some (.int a3), some (.int (1 <<< (a1 &&& 31))), some (.int ((1 <<< (a1 &&& 31)) * 2)), none, none, none, none, none, none, none]) dX2_spread_9 rfl rfl rfl ?_
  refine E_iconst 0 dX2_spread_11 ic_0 ?_
  refine E_istore (ls' := [some (.ref 52), some (.ref o0), some (.int a1), some (.int a2), some (.int a3), some (.int (1 <<< (a1 &&& 31))), some (.int ((1 <<< (a1 &&& 31)) * 2)), some (.int 0), none, none, none, none, none, none]) dX2_spread_12 rfl rfl rfl ?_
  refine E_iconst 0 dX2_spread_14 ic_0 ?_
  refine E_istore (ls' := [some (.ref 52), some (.ref o0), some (.int a1), some (.int a2), some (.int a3), some (.int (1 <<< (a1 &&& 31))), some (.int ((1 <<< (a1 &&& 31)) * 2)), some (.int 0), some (.int 0), none, none, none, none, none]) dX2_spread_15 rfl rfl rfl ?_
  refine E_aload_n (v := 52) dX2_spread_17 rfl ?_
  refine E_iconst 0 dX2_spread_18 ic_0 ?_
  obtain ⟨w1, ew1, hf⟩ := lw_some hf
  try dsimp only at hf
  refine E_putI fp_RX2_31 dX2_spread_19 sC_52 rfl rfl rfl ?_
  rw [← ew1]
  refine E_iconst 0 dX2_spread_22 ic_0 ?_
  refine E_istore (ls' := [some (.ref 52), some (.ref o0), some (.int a1), some (.int a2), some (.int a3), some (.int (1 <<< (a1 &&& 31))), some (.int ((1 <<< (a1 &&& 31)) * 2)), some (.int 0), some (.int 0), some (.int 0), none, none, none, none]) dX2_spread_23 rfl rfl rfl ?_
  obtain ⟨q, hw64, hf⟩ := bd_some hf
  try dsimp only at hf
  show (fun (s : Int32 × Int32 × Int32 × AW) => E (PC S) RX2 cX2_spread 14 3 25 [some (.ref 52), some (.ref o0), some (.int a1), some (.int a2), some (.int a3), some (.int (1 <<< (a1 &&& 31))), some (.int ((1 <<< (a1 &&& 31)) * 2)), some (.int s.1), some (.int s.2.1), some (.int s.2.2.1), none, none, none, none] [] s.2.2.2 Q) (0, 0, 0, w1)
  refine wh_E (K := (fun (s : Int32 × Int32 × Int32 × AW) => E (PC S) RX2 cX2_spread 14 3 25 [some (.ref 52), some (.ref o0), some (.int a1), some (.int a2), some (.int a3), some (.int (1 <<< (a1 &&& 31))), some (.int ((1 <<< (a1 &&& 31)) * 2)), some (.int s.1), some (.int s.2.1), some (.int s.2.2.1), none, none, none, none] [] s.2.2.2 Q)) (X := (fun (s : Int32 × Int32 × AW) => E (PC S) RX2 cX2_spread 14 3 225 [some (.ref 52), none, some (.int a1), none, none, none, none, some (.int s.1), some (.int s.2.1), none, none, none, none, none] [] s.2.2 Q)) ?_ hw64 ?_
  · intro s9 z9 hf k9
    obtain ⟨x7_25_1, x8_25_1, x9_25_1, w_25_1⟩ := s9
    dsimp only [lbX2_spread_25_1] at hf
    show E (PC S) RX2 cX2_spread 14 3 25 [some (.ref 52), some (.ref o0), some (.int a1), some (.int a2), some (.int a3), some (.int (1 <<< (a1 &&& 31))), some (.int ((1 <<< (a1 &&& 31)) * 2)), some (.int x7_25_1), some (.int x8_25_1), some (.int x9_25_1), none, none, none, none] [] w_25_1 Q
    refine E_iload (v := x9_25_1) dX2_spread_25 rfl ?_
    refine E_aload_n (v := 52) dX2_spread_27 rfl ?_
    refine E_getR fg_RX2_18 dX2_spread_28 sC_52 rfl rC_52_3 (Nat.succ_ne_zero _) ?_
    refine E_iload_n (v := a1) dX2_spread_31 rfl ?_
    obtain ⟨hi2, hf⟩ := gd_some hf
    refine E_iald (n := 7) dX2_spread_32 sC_55 (by decide) (inb_in hi2) ?_
    refine E_icmp_ge 225 dX2_spread_33 (by decide) (fun hc3 => ?_) (fun hc3 => ?_)
    · rw [if_pos hc3] at hf
      obtain rfl := Option.some.inj hf
      refine E.fewer (ls' := [some (.ref 52), none, some (.int a1), none, none, none, none, some (.int x7_25_1), some (.int x8_25_1), none, none, none, none, none]) ⟨Or.inr rfl, ⟨Or.inl rfl, ⟨Or.inr rfl, ⟨Or.inl rfl, ⟨Or.inl rfl, ⟨Or.inl rfl, ⟨Or.inl rfl, ⟨Or.inr rfl, ⟨Or.inr rfl, ⟨Or.inl rfl, ⟨Or.inl rfl, ⟨Or.inl rfl, ⟨Or.inl rfl, ⟨Or.inl rfl, trivial⟩⟩⟩⟩⟩⟩⟩⟩⟩⟩⟩⟩⟩⟩ ?_
      exact k9
    · rw [if_neg hc3] at hf
      refine E_aload_n (v := 52) dX2_spread_36 rfl ?_
      refine E_getR fg_RX2_38 dX2_spread_37 sC_52 rfl rC_52_0 (Nat.succ_ne_zero _) ?_
      refine E_aload_n (v := 52) dX2_spread_40 rfl ?_
      refine E_getR fg_RX2_11 dX2_spread_41 sC_52 rfl rC_52_1 (Nat.succ_ne_zero _) ?_
      refine E_iload (v := (1 <<< (a1 &&& 31))) dX2_spread_44 rfl ?_
      refine E_iload (v := x9_25_1) dX2_spread_46 rfl ?_
      refine E_iadd dX2_spread_48 ?_
      obtain ⟨hi4, hf⟩ := gd_some hf
      refine E_iald (n := 128) dX2_spread_49 sC_53 (by decide) (inb_in hi4) ?_
      refine E_iload_n (v := a2) dX2_spread_50 rfl ?_
      refine E_aload_n (v := o0) dX2_spread_51 rfl ?_
      refine E_iload (v := a3) dX2_spread_52 rfl ?_
      obtain ⟨r6, hc5, hf⟩ := bd_some hf
      try dsimp only at hf
      refine E_callVi (rest := []) (ci := 3) cv_RX2_68 dX2_spread_54 (MX3_usedBehind ho0 hc5) rfl sC_46 rfl (by decide) rfl rfl (fun _ => Nat.le_of_ble_eq_true rfl) ?_
      refine E_istore (ls' := [some (.ref 52), some (.ref o0), some (.int a1), some (.int a2), some (.int a3), some (.int (1 <<< (a1 &&& 31))), some (.int ((1 <<< (a1 &&& 31)) * 2)), some (.int x7_25_1), some (.int x8_25_1), some (.int x9_25_1), some (.int r6), none, none, none]) dX2_spread_57 rfl rfl rfl ?_
      refine E_iconst 0 dX2_spread_59 ic_0 ?_
      refine E_istore (ls' := [some (.ref 52), some (.ref o0), some (.int a1), some (.int a2), some (.int a3), some (.int (1 <<< (a1 &&& 31))), some (.int ((1 <<< (a1 &&& 31)) * 2)), some (.int x7_25_1), some (.int x8_25_1), some (.int x9_25_1), some (.int r6), some (.int 0), none, none]) dX2_spread_60 rfl rfl rfl ?_
      obtain ⟨q, hw60, hf⟩ := bd_some hf
      try dsimp only at hf
      show (fun (s : Int32 × Int32 × Int32 × Int32 × AW) => E (PC S) RX2 cX2_spread 14 3 62 [some (.ref 52), some (.ref o0), some (.int a1), some (.int a2), some (.int a3), some (.int (1 <<< (a1 &&& 31))), some (.int ((1 <<< (a1 &&& 31)) * 2)), some (.int s.1), some (.int s.2.1), some (.int x9_25_1), some (.int s.2.2.1), some (.int s.2.2.2.1), none, none] [] s.2.2.2.2 Q) (x7_25_1, x8_25_1, r6, 0, w_25_1)
      refine wh_E (K := (fun (s : Int32 × Int32 × Int32 × Int32 × AW) => E (PC S) RX2 cX2_spread 14 3 62 [some (.ref 52), some (.ref o0), some (.int a1), some (.int a2), some (.int a3), some (.int (1 <<< (a1 &&& 31))), some (.int ((1 <<< (a1 &&& 31)) * 2)), some (.int s.1), some (.int s.2.1), some (.int x9_25_1), some (.int s.2.2.1), some (.int s.2.2.2.1), none, none] [] s.2.2.2.2 Q)) (X := (fun (s : Int32 × Int32 × AW) => E (PC S) RX2 cX2_spread 14 3 219 [some (.ref 52), some (.ref o0), some (.int a1), some (.int a2), some (.int a3), some (.int (1 <<< (a1 &&& 31))), some (.int ((1 <<< (a1 &&& 31)) * 2)), some (.int s.1), some (.int s.2.1), some (.int x9_25_1), none, none, none, none] [] s.2.2 Q)) ?_ hw60 ?_
      · intro s9 z9 hf k9
        obtain ⟨x7_62_2, x8_62_2, x10_62_2, x11_62_2, w_62_2⟩ := s9
        dsimp only [lbX2_spread_62_2] at hf
        show E (PC S) RX2 cX2_spread 14 3 62 [some (.ref 52), some (.ref o0), some (.int a1), some (.int a2), some (.int a3), some (.int (1 <<< (a1 &&& 31))), some (.int ((1 <<< (a1 &&& 31)) * 2)), some (.int x7_62_2), some (.int x8_62_2), some (.int x9_25_1), some (.int x10_62_2), some (.int x11_62_2), none, none] [] w_62_2 Q
        refine E_iload (v := x11_62_2) dX2_spread_62 rfl ?_
        refine E_iconst 2 dX2_spread_64 ic_2 ?_
        refine E_icmp_ge 219 dX2_spread_65 (by decide) (fun hc7 => ?_) (fun hc7 => ?_)
        · rw [if_pos hc7] at hf
          obtain rfl := Option.some.inj hf
          refine E.fewer (ls' := [some (.ref 52), some (.ref o0), some (.int a1), some (.int a2), some (.int a3), some (.int (1 <<< (a1 &&& 31))), some (.int ((1 <<< (a1 &&& 31)) * 2)), some (.int x7_62_2), some (.int x8_62_2), some (.int x9_25_1), none, none, none, none]) ⟨Or.inr rfl, ⟨Or.inr rfl, ⟨Or.inr rfl, ⟨Or.inr rfl, ⟨Or.inr rfl, ⟨Or.inr rfl, ⟨Or.inr rfl, ⟨Or.inr rfl, ⟨Or.inr rfl, ⟨Or.inr rfl, ⟨Or.inl rfl, ⟨Or.inl rfl, ⟨Or.inl rfl, ⟨Or.inl rfl, trivial⟩⟩⟩⟩⟩⟩⟩⟩⟩⟩⟩⟩⟩⟩ ?_
          exact k9
        · rw [if_neg hc7] at hf
          refine E_aload_n (v := 52) dX2_spread_68 rfl ?_
          refine E_getR fg_RX2_15 dX2_spread_69 sC_52 rfl rC_52_2 (Nat.succ_ne_zero _) ?_
          refine E_iload (v := (1 <<< (a1 &&& 31))) dX2_spread_72 rfl ?_
          refine E_iload (v := x9_25_1) dX2_spread_74 rfl ?_
          refine E_iadd dX2_spread_76 ?_
          obtain ⟨hi8, hf⟩ := gd_some hf
          refine E_iald (n := 128) dX2_spread_77 sC_54 (by decide) (inb_in hi8) ?_
          refine E_iload (v := x11_62_2) dX2_spread_78 rfl ?_
          refine E_if_ne 95 dX2_spread_80 (by decide) (fun hc9 => ?_) (fun hc9 => ?_)
          · rw [if_pos hc9] at hf
            refine E_iconst 4 dX2_spread_83 ic_4 ?_
            refine E_aload_n (v := 52) dX2_spread_84 rfl ?_
            refine E_getR fg_RX2_38 dX2_spread_85 sC_52 rfl rC_52_0 (Nat.succ_ne_zero _) ?_
            refine E_getI fg_RX2_74 dX2_spread_88 sC_46 rfl ?_
            refine E_isub dX2_spread_91 ?_
            refine E_goto 102 dX2_spread_92 (by decide) ?_
            refine E_imul dX2_spread_102 ?_
            obtain ⟨v10, ev10, hf⟩ := lw_some hf
            try dsimp only at hf
            rw [← ev10]
            refine E_istore (ls' := [some (.ref 52), some (.ref o0), some (.int a1), some (.int a2), some (.int a3), some (.int (1 <<< (a1 &&& 31))), some (.int ((1 <<< (a1 &&& 31)) * 2)), some (.int x7_62_2), some (.int x8_62_2), some (.int x9_25_1), some (.int x10_62_2), some (.int x11_62_2), some (.int v10), none]) dX2_spread_103 rfl rfl rfl ?_
            refine E_aload_n (v := 52) dX2_spread_105 rfl ?_
            refine E_getR fg_RX2_38 dX2_spread_106 sC_52 rfl rC_52_0 (Nat.succ_ne_zero _) ?_
            refine E_iload (v := x10_62_2) dX2_spread_109 rfl ?_
            obtain ⟨r12, hc11, hf⟩ := bd_some hf
            try dsimp only at hf
            refine E_callVi (rest := []) (ci := 3) cv_RX2_77 dX2_spread_111 (MX3_dayAt hc11) rfl sC_46 rfl (by decide) rfl rfl (fun _ => Nat.le_of_ble_eq_true rfl) ?_
            refine E_istore (ls' := [some (.ref 52), some (.ref o0), some (.int a1), some (.int a2), some (.int a3), some (.int (1 <<< (a1 &&& 31))), some (.int ((1 <<< (a1 &&& 31)) * 2)), some (.int x7_62_2), some (.int x8_62_2), some (.int x9_25_1), some (.int x10_62_2), some (.int x11_62_2), some (.int v10), some (.int r12)]) dX2_spread_114 rfl rfl rfl ?_
            refine E_iload (v := v10) dX2_spread_116 rfl ?_
            refine E_if_le 201 dX2_spread_118 (by decide) (fun hc13 => ?_) (fun hc13 => ?_)
            · rw [if_pos hc13] at hf
              refine E_iload (v := x10_62_2) dX2_spread_201 rfl ?_
              refine E_aload_n (v := o0) dX2_spread_203 rfl ?_
              refine E_getR fg_RX2_91 dX2_spread_204 (J_s0 ho0) rfl (J_r0_2 ho0) (Nat.succ_ne_zero _) ?_
              refine E_iload (v := a3) dX2_spread_207 rfl ?_
              obtain ⟨hi14, hf⟩ := gd_some hf
              refine E_iald (n := 6) dX2_spread_209 (J_s2 ho0) (by decide) (inb_in hi14) ?_
              refine E_iadd dX2_spread_210 ?_
              obtain ⟨v15, ev15, hf⟩ := lw_some hf
              try dsimp only at hf
              rw [← ev15]
              refine E_istore (ls' := [some (.ref 52), some (.ref o0), some (.int a1), some (.int a2), some (.int a3), some (.int (1 <<< (a1 &&& 31))), some (.int ((1 <<< (a1 &&& 31)) * 2)), some (.int x7_62_2), some (.int x8_62_2), some (.int x9_25_1), some (.int v15), some (.int x11_62_2), some (.int v10), some (.int r12)]) dX2_spread_211 rfl rfl rfl ?_
              refine E_iinc (ls' := [some (.ref 52), some (.ref o0), some (.int a1), some (.int a2), some (.int a3), some (.int (1 <<< (a1 &&& 31))), some (.int ((1 <<< (a1 &&& 31)) * 2)), some (.int x7_62_2), some (.int x8_62_2), some (.int x9_25_1), some (.int v15), some (.int (x11_62_2 + 1)), some (.int v10), some (.int r12)]) 1 dX2_spread_213 rfl ic_1 rfl rfl rfl ?_
              refine E_goto 62 dX2_spread_216 (by decide) ?_
              obtain rfl := Option.some.inj hf
              refine E.fewer (ls' := [some (.ref 52), some (.ref o0), some (.int a1), some (.int a2), some (.int a3), some (.int (1 <<< (a1 &&& 31))), some (.int ((1 <<< (a1 &&& 31)) * 2)), some (.int x7_62_2), some (.int x8_62_2), some (.int x9_25_1), some (.int v15), some (.int (x11_62_2 + 1)), none, none]) ⟨Or.inr rfl, ⟨Or.inr rfl, ⟨Or.inr rfl, ⟨Or.inr rfl, ⟨Or.inr rfl, ⟨Or.inr rfl, ⟨Or.inr rfl, ⟨Or.inr rfl, ⟨Or.inr rfl, ⟨Or.inr rfl, ⟨Or.inr rfl, ⟨Or.inr rfl, ⟨Or.inl rfl, ⟨Or.inl rfl, trivial⟩⟩⟩⟩⟩⟩⟩⟩⟩⟩⟩⟩⟩⟩ ?_
              exact k9
            · rw [if_neg hc13] at hf
              refine E_aload_n (v := 52) dX2_spread_121 rfl ?_
              refine E_getI fg_RX2_27 dX2_spread_122 sC_52 rfl ?_
              refine E_if_ne 140 dX2_spread_125 (by decide) (fun hc16 => ?_) (fun hc16 => ?_)
              · rw [if_pos hc16] at hf
                refine E_iload (v := r12) dX2_spread_128 rfl ?_
                refine E_aload_n (v := o0) dX2_spread_130 rfl ?_
                refine E_getR fg_RX2_81 dX2_spread_131 (J_s0 ho0) rfl (J_r0_4 ho0) (Nat.succ_ne_zero _) ?_
                refine E_iload (v := a3) dX2_spread_134 rfl ?_
                obtain ⟨hi17, hf⟩ := gd_some hf
                refine E_iald (n := 6) dX2_spread_136 (J_s4 ho0) (by decide) (inb_in hi17) ?_
                refine E_icmp_gt 201 dX2_spread_137 (by decide) (fun hc18 => ?_) (fun hc18 => ?_)
                · rw [if_pos hc18] at hf
                  refine E_iload (v := x10_62_2) dX2_spread_201 rfl ?_
                  refine E_aload_n (v := o0) dX2_spread_203 rfl ?_
                  refine E_getR fg_RX2_91 dX2_spread_204 (J_s0 ho0) rfl (J_r0_2 ho0) (Nat.succ_ne_zero _) ?_
                  refine E_iload (v := a3) dX2_spread_207 rfl ?_
                  refine E_iald (n := 6) dX2_spread_209 (J_s2 ho0) (by decide) (inb_in hi17) ?_
                  refine E_iadd dX2_spread_210 ?_
                  obtain ⟨v19, ev19, hf⟩ := lw_some hf
                  try dsimp only at hf
                  rw [← ev19]
                  refine E_istore (ls' := [some (.ref 52), some (.ref o0), some (.int a1), some (.int a2), some (.int a3), some (.int (1 <<< (a1 &&& 31))), some (.int ((1 <<< (a1 &&& 31)) * 2)), some (.int x7_62_2), some (.int x8_62_2), some (.int x9_25_1), some (.int v19), some (.int x11_62_2), some (.int v10), some (.int r12)]) dX2_spread_211 rfl rfl rfl ?_
                  refine E_iinc (ls' := [some (.ref 52), some (.ref o0), some (.int a1), some (.int a2), some (.int a3), some (.int (1 <<< (a1 &&& 31))), some (.int ((1 <<< (a1 &&& 31)) * 2)), some (.int x7_62_2), some (.int x8_62_2), some (.int x9_25_1), some (.int v19), some (.int (x11_62_2 + 1)), some (.int v10), some (.int r12)]) 1 dX2_spread_213 rfl ic_1 rfl rfl rfl ?_
                  refine E_goto 62 dX2_spread_216 (by decide) ?_
                  obtain rfl := Option.some.inj hf
                  refine E.fewer (ls' := [some (.ref 52), some (.ref o0), some (.int a1), some (.int a2), some (.int a3), some (.int (1 <<< (a1 &&& 31))), some (.int ((1 <<< (a1 &&& 31)) * 2)), some (.int x7_62_2), some (.int x8_62_2), some (.int x9_25_1), some (.int v19), some (.int (x11_62_2 + 1)), none, none]) ⟨Or.inr rfl, ⟨Or.inr rfl, ⟨Or.inr rfl, ⟨Or.inr rfl, ⟨Or.inr rfl, ⟨Or.inr rfl, ⟨Or.inr rfl, ⟨Or.inr rfl, ⟨Or.inr rfl, ⟨Or.inr rfl, ⟨Or.inr rfl, ⟨Or.inr rfl, ⟨Or.inl rfl, ⟨Or.inl rfl, trivial⟩⟩⟩⟩⟩⟩⟩⟩⟩⟩⟩⟩⟩⟩ ?_
                  exact k9
                · rw [if_neg hc18] at hf
                  refine E_aload_n (v := 52) dX2_spread_140 rfl ?_
                  refine E_getR fg_RX2_11 dX2_spread_141 sC_52 rfl rC_52_1 (Nat.succ_ne_zero _) ?_
                  refine E_iload (v := ((1 <<< (a1 &&& 31)) * 2)) dX2_spread_144 rfl ?_
                  refine E_iload (v := x7_62_2) dX2_spread_146 rfl ?_
                  refine E_iadd dX2_spread_148 ?_
                  refine E_iload (v := x10_62_2) dX2_spread_149 rfl ?_
                  obtain ⟨hi20, hf⟩ := gd_some hf
                  obtain ⟨w21, ew21, hf⟩ := lw_some hf
                  try dsimp only at hf
                  refine E_iast (n := 128) dX2_spread_151 sC_53 (by decide) (inb_in hi20) ?_
                  rw [← ew21]
                  refine E_aload_n (v := 52) dX2_spread_152 rfl ?_
                  refine E_getR fg_RX2_15 dX2_spread_153 sC_52 rfl rC_52_2 (Nat.succ_ne_zero _) ?_
                  refine E_iload (v := ((1 <<< (a1 &&& 31)) * 2)) dX2_spread_156 rfl ?_
                  refine E_iload (v := x7_62_2) dX2_spread_158 rfl ?_
                  refine E_iadd dX2_spread_160 ?_
                  refine E_iload (v := v10) dX2_spread_161 rfl ?_
                  obtain ⟨w22, ew22, hf⟩ := lw_some hf
                  try dsimp only at hf
                  refine E_iast (n := 128) dX2_spread_163 sC_54 (by decide) (inb_in hi20) ?_
                  rw [← ew22]
                  refine E_iinc (ls' := [some (.ref 52), some (.ref o0), some (.int a1), some (.int a2), some (.int a3), some (.int (1 <<< (a1 &&& 31))), some (.int ((1 <<< (a1 &&& 31)) * 2)), some (.int (x7_62_2 + 1)), some (.int x8_62_2), some (.int x9_25_1), some (.int x10_62_2), some (.int x11_62_2), some (.int v10), some (.int r12)]) 1 dX2_spread_164 rfl ic_1 rfl rfl rfl ?_
                  refine E_iload (v := x8_62_2) dX2_spread_167 rfl ?_
                  refine E_iload (v := v10) dX2_spread_169 rfl ?_
                  refine E_iadd dX2_spread_171 ?_
                  refine E_istore (ls' := [some (.ref 52), some (.ref o0), some (.int a1), some (.int a2), some (.int a3), some (.int (1 <<< (a1 &&& 31))), some (.int ((1 <<< (a1 &&& 31)) * 2)), some (.int (x7_62_2 + 1)), some (.int (x8_62_2 + v10)), some (.int x9_25_1), some (.int x10_62_2), some (.int x11_62_2), some (.int v10), some (.int r12)]) dX2_spread_172 rfl rfl rfl ?_
                  refine E_aload_n (v := 52) dX2_spread_174 rfl ?_
                  refine E_dup_r dX2_spread_175 ?_
                  refine E_getI fg_RX2_31 dX2_spread_176 sC_52 rfl ?_
                  refine E_iload (v := v10) dX2_spread_179 rfl ?_
                  refine E_aload_n (v := o0) dX2_spread_181 rfl ?_
                  refine E_iload (v := a3) dX2_spread_182 rfl ?_
                  refine E_iload (v := r12) dX2_spread_184 rfl ?_
                  refine E_aload_n (v := 52) dX2_spread_186 rfl ?_
                  refine E_getR fg_RX2_38 dX2_spread_187 sC_52 rfl rC_52_0 (Nat.succ_ne_zero _) ?_
                  refine E_getI fg_RX2_84 dX2_spread_190 sC_46 rfl ?_
                  obtain ⟨r24, hc23, hf⟩ := bd_some hf
                  try dsimp only at hf
                  refine E_callVi (rest := [.int v10, .int (w22.1 52 7), .ref 52]) (ci := 4) cv_RX2_87 dX2_spread_193 (MX4_valueOf ho0 hc23) rfl (J_s0 ho0) rfl (by decide) rfl rfl (fun _ => Nat.le_of_ble_eq_true rfl) ?_
                  refine E_imul dX2_spread_196 ?_
                  refine E_iadd dX2_spread_197 ?_
                  obtain ⟨w25, ew25, hf⟩ := lw_some hf
                  try dsimp only at hf
                  refine E_putI fp_RX2_31 dX2_spread_198 sC_52 rfl rfl rfl ?_
                  rw [← ew25]
                  refine E_iload (v := x10_62_2) dX2_spread_201 rfl ?_
                  refine E_aload_n (v := o0) dX2_spread_203 rfl ?_
                  refine E_getR fg_RX2_91 dX2_spread_204 (J_s0 ho0) rfl (J_r0_2 ho0) (Nat.succ_ne_zero _) ?_
                  refine E_iload (v := a3) dX2_spread_207 rfl ?_
                  refine E_iald (n := 6) dX2_spread_209 (J_s2 ho0) (by decide) (inb_in hi17) ?_
                  refine E_iadd dX2_spread_210 ?_
                  obtain ⟨v26, ev26, hf⟩ := lw_some hf
                  try dsimp only at hf
                  rw [← ev26]
                  refine E_istore (ls' := [some (.ref 52), some (.ref o0), some (.int a1), some (.int a2), some (.int a3), some (.int (1 <<< (a1 &&& 31))), some (.int ((1 <<< (a1 &&& 31)) * 2)), some (.int (x7_62_2 + 1)), some (.int (x8_62_2 + v10)), some (.int x9_25_1), some (.int v26), some (.int x11_62_2), some (.int v10), some (.int r12)]) dX2_spread_211 rfl rfl rfl ?_
                  refine E_iinc (ls' := [some (.ref 52), some (.ref o0), some (.int a1), some (.int a2), some (.int a3), some (.int (1 <<< (a1 &&& 31))), some (.int ((1 <<< (a1 &&& 31)) * 2)), some (.int (x7_62_2 + 1)), some (.int (x8_62_2 + v10)), some (.int x9_25_1), some (.int v26), some (.int (x11_62_2 + 1)), some (.int v10), some (.int r12)]) 1 dX2_spread_213 rfl ic_1 rfl rfl rfl ?_
                  refine E_goto 62 dX2_spread_216 (by decide) ?_
                  obtain rfl := Option.some.inj hf
                  refine E.fewer (ls' := [some (.ref 52), some (.ref o0), some (.int a1), some (.int a2), some (.int a3), some (.int (1 <<< (a1 &&& 31))), some (.int ((1 <<< (a1 &&& 31)) * 2)), some (.int (x7_62_2 + 1)), some (.int (x8_62_2 + v10)), some (.int x9_25_1), some (.int v26), some (.int (x11_62_2 + 1)), none, none]) ⟨Or.inr rfl, ⟨Or.inr rfl, ⟨Or.inr rfl, ⟨Or.inr rfl, ⟨Or.inr rfl, ⟨Or.inr rfl, ⟨Or.inr rfl, ⟨Or.inr rfl, ⟨Or.inr rfl, ⟨Or.inr rfl, ⟨Or.inr rfl, ⟨Or.inr rfl, ⟨Or.inl rfl, ⟨Or.inl rfl, trivial⟩⟩⟩⟩⟩⟩⟩⟩⟩⟩⟩⟩⟩⟩ ?_
                  exact k9
              · rw [if_neg hc16] at hf
                refine E_aload_n (v := 52) dX2_spread_140 rfl ?_
                refine E_getR fg_RX2_11 dX2_spread_141 sC_52 rfl rC_52_1 (Nat.succ_ne_zero _) ?_
                refine E_iload (v := ((1 <<< (a1 &&& 31)) * 2)) dX2_spread_144 rfl ?_
                refine E_iload (v := x7_62_2) dX2_spread_146 rfl ?_
                refine E_iadd dX2_spread_148 ?_
                refine E_iload (v := x10_62_2) dX2_spread_149 rfl ?_
                obtain ⟨hi27, hf⟩ := gd_some hf
                obtain ⟨w28, ew28, hf⟩ := lw_some hf
                try dsimp only at hf
                refine E_iast (n := 128) dX2_spread_151 sC_53 (by decide) (inb_in hi27) ?_
                rw [← ew28]
                refine E_aload_n (v := 52) dX2_spread_152 rfl ?_
                refine E_getR fg_RX2_15 dX2_spread_153 sC_52 rfl rC_52_2 (Nat.succ_ne_zero _) ?_
                refine E_iload (v := ((1 <<< (a1 &&& 31)) * 2)) dX2_spread_156 rfl ?_
                refine E_iload (v := x7_62_2) dX2_spread_158 rfl ?_
                refine E_iadd dX2_spread_160 ?_
                refine E_iload (v := v10) dX2_spread_161 rfl ?_
                obtain ⟨w29, ew29, hf⟩ := lw_some hf
                try dsimp only at hf
                refine E_iast (n := 128) dX2_spread_163 sC_54 (by decide) (inb_in hi27) ?_
                rw [← ew29]
                refine E_iinc (ls' := [some (.ref 52), some (.ref o0), some (.int a1), some (.int a2), some (.int a3), some (.int (1 <<< (a1 &&& 31))), some (.int ((1 <<< (a1 &&& 31)) * 2)), some (.int (x7_62_2 + 1)), some (.int x8_62_2), some (.int x9_25_1), some (.int x10_62_2), some (.int x11_62_2), some (.int v10), some (.int r12)]) 1 dX2_spread_164 rfl ic_1 rfl rfl rfl ?_
                refine E_iload (v := x8_62_2) dX2_spread_167 rfl ?_
                refine E_iload (v := v10) dX2_spread_169 rfl ?_
                refine E_iadd dX2_spread_171 ?_
                refine E_istore (ls' := [some (.ref 52), some (.ref o0), some (.int a1), some (.int a2), some (.int a3), some (.int (1 <<< (a1 &&& 31))), some (.int ((1 <<< (a1 &&& 31)) * 2)), some (.int (x7_62_2 + 1)), some (.int (x8_62_2 + v10)), some (.int x9_25_1), some (.int x10_62_2), some (.int x11_62_2), some (.int v10), some (.int r12)]) dX2_spread_172 rfl rfl rfl ?_
                refine E_aload_n (v := 52) dX2_spread_174 rfl ?_
                refine E_dup_r dX2_spread_175 ?_
                refine E_getI fg_RX2_31 dX2_spread_176 sC_52 rfl ?_
                refine E_iload (v := v10) dX2_spread_179 rfl ?_
                refine E_aload_n (v := o0) dX2_spread_181 rfl ?_
                refine E_iload (v := a3) dX2_spread_182 rfl ?_
                refine E_iload (v := r12) dX2_spread_184 rfl ?_
                refine E_aload_n (v := 52) dX2_spread_186 rfl ?_
                refine E_getR fg_RX2_38 dX2_spread_187 sC_52 rfl rC_52_0 (Nat.succ_ne_zero _) ?_
                refine E_getI fg_RX2_84 dX2_spread_190 sC_46 rfl ?_
                obtain ⟨r31, hc30, hf⟩ := bd_some hf
                try dsimp only at hf
                refine E_callVi (rest := [.int v10, .int (w29.1 52 7), .ref 52]) (ci := 4) cv_RX2_87 dX2_spread_193 (MX4_valueOf ho0 hc30) rfl (J_s0 ho0) rfl (by decide) rfl rfl (fun _ => Nat.le_of_ble_eq_true rfl) ?_
                refine E_imul dX2_spread_196 ?_
                refine E_iadd dX2_spread_197 ?_
                obtain ⟨w32, ew32, hf⟩ := lw_some hf
                try dsimp only at hf
                refine E_putI fp_RX2_31 dX2_spread_198 sC_52 rfl rfl rfl ?_
                rw [← ew32]
                refine E_iload (v := x10_62_2) dX2_spread_201 rfl ?_
                refine E_aload_n (v := o0) dX2_spread_203 rfl ?_
                refine E_getR fg_RX2_91 dX2_spread_204 (J_s0 ho0) rfl (J_r0_2 ho0) (Nat.succ_ne_zero _) ?_
                refine E_iload (v := a3) dX2_spread_207 rfl ?_
                obtain ⟨hi33, hf⟩ := gd_some hf
                refine E_iald (n := 6) dX2_spread_209 (J_s2 ho0) (by decide) (inb_in hi33) ?_
                refine E_iadd dX2_spread_210 ?_
                obtain ⟨v34, ev34, hf⟩ := lw_some hf
                try dsimp only at hf
                rw [← ev34]
                refine E_istore (ls' := [some (.ref 52), some (.ref o0), some (.int a1), some (.int a2), some (.int a3), some (.int (1 <<< (a1 &&& 31))), some (.int ((1 <<< (a1 &&& 31)) * 2)), some (.int (x7_62_2 + 1)), some (.int (x8_62_2 + v10)), some (.int x9_25_1), some (.int v34), some (.int x11_62_2), some (.int v10), some (.int r12)]) dX2_spread_211 rfl rfl rfl ?_
                refine E_iinc (ls' := [some (.ref 52), some (.ref o0), some (.int a1), some (.int a2), some (.int a3), some (.int (1 <<< (a1 &&& 31))), some (.int ((1 <<< (a1 &&& 31)) * 2)), some (.int (x7_62_2 + 1)), some (.int (x8_62_2 + v10)), some (.int x9_25_1), some (.int v34), some (.int (x11_62_2 + 1)), some (.int v10), some (.int r12)]) 1 dX2_spread_213 rfl ic_1 rfl rfl rfl ?_
                refine E_goto 62 dX2_spread_216 (by decide) ?_
                obtain rfl := Option.some.inj hf
                refine E.fewer (ls' := [some (.ref 52), some (.ref o0), some (.int a1), some (.int a2), some (.int a3), some (.int (1 <<< (a1 &&& 31))), some (.int ((1 <<< (a1 &&& 31)) * 2)), some (.int (x7_62_2 + 1)), some (.int (x8_62_2 + v10)), some (.int x9_25_1), some (.int v34), some (.int (x11_62_2 + 1)), none, none]) ⟨Or.inr rfl, ⟨Or.inr rfl, ⟨Or.inr rfl, ⟨Or.inr rfl, ⟨Or.inr rfl, ⟨Or.inr rfl, ⟨Or.inr rfl, ⟨Or.inr rfl, ⟨Or.inr rfl, ⟨Or.inr rfl, ⟨Or.inr rfl, ⟨Or.inr rfl, ⟨Or.inl rfl, ⟨Or.inl rfl, trivial⟩⟩⟩⟩⟩⟩⟩⟩⟩⟩⟩⟩⟩⟩ ?_
                exact k9
          · rw [if_neg hc9] at hf
            refine E_aload_n (v := 52) dX2_spread_95 rfl ?_
            refine E_getR fg_RX2_38 dX2_spread_96 sC_52 rfl rC_52_0 (Nat.succ_ne_zero _) ?_
            refine E_getI fg_RX2_74 dX2_spread_99 sC_46 rfl ?_
            refine E_imul dX2_spread_102 ?_
            obtain ⟨v35, ev35, hf⟩ := lw_some hf
            try dsimp only at hf
            rw [← ev35]
            refine E_istore (ls' := [some (.ref 52), some (.ref o0), some (.int a1), some (.int a2), some (.int a3), some (.int (1 <<< (a1 &&& 31))), some (.int ((1 <<< (a1 &&& 31)) * 2)), some (.int x7_62_2), some (.int x8_62_2), some (.int x9_25_1), some (.int x10_62_2), some (.int x11_62_2), some (.int v35), none]) dX2_spread_103 rfl rfl rfl ?_
            refine E_aload_n (v := 52) dX2_spread_105 rfl ?_
            refine E_getR fg_RX2_38 dX2_spread_106 sC_52 rfl rC_52_0 (Nat.succ_ne_zero _) ?_
            refine E_iload (v := x10_62_2) dX2_spread_109 rfl ?_
            obtain ⟨r37, hc36, hf⟩ := bd_some hf
            try dsimp only at hf
            refine E_callVi (rest := []) (ci := 3) cv_RX2_77 dX2_spread_111 (MX3_dayAt hc36) rfl sC_46 rfl (by decide) rfl rfl (fun _ => Nat.le_of_ble_eq_true rfl) ?_
            refine E_istore (ls' := [some (.ref 52), some (.ref o0), some (.int a1), some (.int a2), some (.int a3), some (.int (1 <<< (a1 &&& 31))), some (.int ((1 <<< (a1 &&& 31)) * 2)), some (.int x7_62_2), some (.int x8_62_2), some (.int x9_25_1), some (.int x10_62_2), some (.int x11_62_2), some (.int v35), some (.int r37)]) dX2_spread_114 rfl rfl rfl ?_
            refine E_iload (v := v35) dX2_spread_116 rfl ?_
            refine E_if_le 201 dX2_spread_118 (by decide) (fun hc38 => ?_) (fun hc38 => ?_)
            · rw [if_pos hc38] at hf
              refine E_iload (v := x10_62_2) dX2_spread_201 rfl ?_
              refine E_aload_n (v := o0) dX2_spread_203 rfl ?_
              refine E_getR fg_RX2_91 dX2_spread_204 (J_s0 ho0) rfl (J_r0_2 ho0) (Nat.succ_ne_zero _) ?_
              refine E_iload (v := a3) dX2_spread_207 rfl ?_
              obtain ⟨hi39, hf⟩ := gd_some hf
              refine E_iald (n := 6) dX2_spread_209 (J_s2 ho0) (by decide) (inb_in hi39) ?_
              refine E_iadd dX2_spread_210 ?_
              obtain ⟨v40, ev40, hf⟩ := lw_some hf
              try dsimp only at hf
              rw [← ev40]
              refine E_istore (ls' := [some (.ref 52), some (.ref o0), some (.int a1), some (.int a2), some (.int a3), some (.int (1 <<< (a1 &&& 31))), some (.int ((1 <<< (a1 &&& 31)) * 2)), some (.int x7_62_2), some (.int x8_62_2), some (.int x9_25_1), some (.int v40), some (.int x11_62_2), some (.int v35), some (.int r37)]) dX2_spread_211 rfl rfl rfl ?_
              refine E_iinc (ls' := [some (.ref 52), some (.ref o0), some (.int a1), some (.int a2), some (.int a3), some (.int (1 <<< (a1 &&& 31))), some (.int ((1 <<< (a1 &&& 31)) * 2)), some (.int x7_62_2), some (.int x8_62_2), some (.int x9_25_1), some (.int v40), some (.int (x11_62_2 + 1)), some (.int v35), some (.int r37)]) 1 dX2_spread_213 rfl ic_1 rfl rfl rfl ?_
              refine E_goto 62 dX2_spread_216 (by decide) ?_
              obtain rfl := Option.some.inj hf
              refine E.fewer (ls' := [some (.ref 52), some (.ref o0), some (.int a1), some (.int a2), some (.int a3), some (.int (1 <<< (a1 &&& 31))), some (.int ((1 <<< (a1 &&& 31)) * 2)), some (.int x7_62_2), some (.int x8_62_2), some (.int x9_25_1), some (.int v40), some (.int (x11_62_2 + 1)), none, none]) ⟨Or.inr rfl, ⟨Or.inr rfl, ⟨Or.inr rfl, ⟨Or.inr rfl, ⟨Or.inr rfl, ⟨Or.inr rfl, ⟨Or.inr rfl, ⟨Or.inr rfl, ⟨Or.inr rfl, ⟨Or.inr rfl, ⟨Or.inr rfl, ⟨Or.inr rfl, ⟨Or.inl rfl, ⟨Or.inl rfl, trivial⟩⟩⟩⟩⟩⟩⟩⟩⟩⟩⟩⟩⟩⟩ ?_
              exact k9
            · rw [if_neg hc38] at hf
              refine E_aload_n (v := 52) dX2_spread_121 rfl ?_
              refine E_getI fg_RX2_27 dX2_spread_122 sC_52 rfl ?_
              refine E_if_ne 140 dX2_spread_125 (by decide) (fun hc41 => ?_) (fun hc41 => ?_)
              · rw [if_pos hc41] at hf
                refine E_iload (v := r37) dX2_spread_128 rfl ?_
                refine E_aload_n (v := o0) dX2_spread_130 rfl ?_
                refine E_getR fg_RX2_81 dX2_spread_131 (J_s0 ho0) rfl (J_r0_4 ho0) (Nat.succ_ne_zero _) ?_
                refine E_iload (v := a3) dX2_spread_134 rfl ?_
                obtain ⟨hi42, hf⟩ := gd_some hf
                refine E_iald (n := 6) dX2_spread_136 (J_s4 ho0) (by decide) (inb_in hi42) ?_
                refine E_icmp_gt 201 dX2_spread_137 (by decide) (fun hc43 => ?_) (fun hc43 => ?_)
                · rw [if_pos hc43] at hf
                  refine E_iload (v := x10_62_2) dX2_spread_201 rfl ?_
                  refine E_aload_n (v := o0) dX2_spread_203 rfl ?_
                  refine E_getR fg_RX2_91 dX2_spread_204 (J_s0 ho0) rfl (J_r0_2 ho0) (Nat.succ_ne_zero _) ?_
                  refine E_iload (v := a3) dX2_spread_207 rfl ?_
                  refine E_iald (n := 6) dX2_spread_209 (J_s2 ho0) (by decide) (inb_in hi42) ?_
                  refine E_iadd dX2_spread_210 ?_
                  obtain ⟨v44, ev44, hf⟩ := lw_some hf
                  try dsimp only at hf
                  rw [← ev44]
                  refine E_istore (ls' := [some (.ref 52), some (.ref o0), some (.int a1), some (.int a2), some (.int a3), some (.int (1 <<< (a1 &&& 31))), some (.int ((1 <<< (a1 &&& 31)) * 2)), some (.int x7_62_2), some (.int x8_62_2), some (.int x9_25_1), some (.int v44), some (.int x11_62_2), some (.int v35), some (.int r37)]) dX2_spread_211 rfl rfl rfl ?_
                  refine E_iinc (ls' := [some (.ref 52), some (.ref o0), some (.int a1), some (.int a2), some (.int a3), some (.int (1 <<< (a1 &&& 31))), some (.int ((1 <<< (a1 &&& 31)) * 2)), some (.int x7_62_2), some (.int x8_62_2), some (.int x9_25_1), some (.int v44), some (.int (x11_62_2 + 1)), some (.int v35), some (.int r37)]) 1 dX2_spread_213 rfl ic_1 rfl rfl rfl ?_
                  refine E_goto 62 dX2_spread_216 (by decide) ?_
                  obtain rfl := Option.some.inj hf
                  refine E.fewer (ls' := [some (.ref 52), some (.ref o0), some (.int a1), some (.int a2), some (.int a3), some (.int (1 <<< (a1 &&& 31))), some (.int ((1 <<< (a1 &&& 31)) * 2)), some (.int x7_62_2), some (.int x8_62_2), some (.int x9_25_1), some (.int v44), some (.int (x11_62_2 + 1)), none, none]) ⟨Or.inr rfl, ⟨Or.inr rfl, ⟨Or.inr rfl, ⟨Or.inr rfl, ⟨Or.inr rfl, ⟨Or.inr rfl, ⟨Or.inr rfl, ⟨Or.inr rfl, ⟨Or.inr rfl, ⟨Or.inr rfl, ⟨Or.inr rfl, ⟨Or.inr rfl, ⟨Or.inl rfl, ⟨Or.inl rfl, trivial⟩⟩⟩⟩⟩⟩⟩⟩⟩⟩⟩⟩⟩⟩ ?_
                  exact k9
                · rw [if_neg hc43] at hf
                  refine E_aload_n (v := 52) dX2_spread_140 rfl ?_
                  refine E_getR fg_RX2_11 dX2_spread_141 sC_52 rfl rC_52_1 (Nat.succ_ne_zero _) ?_
                  refine E_iload (v := ((1 <<< (a1 &&& 31)) * 2)) dX2_spread_144 rfl ?_
                  refine E_iload (v := x7_62_2) dX2_spread_146 rfl ?_
                  refine E_iadd dX2_spread_148 ?_
                  refine E_iload (v := x10_62_2) dX2_spread_149 rfl ?_
                  obtain ⟨hi45, hf⟩ := gd_some hf
                  obtain ⟨w46, ew46, hf⟩ := lw_some hf
                  try dsimp only at hf
                  refine E_iast (n := 128) dX2_spread_151 sC_53 (by decide) (inb_in hi45) ?_
                  rw [← ew46]
                  refine E_aload_n (v := 52) dX2_spread_152 rfl ?_
                  refine E_getR fg_RX2_15 dX2_spread_153 sC_52 rfl rC_52_2 (Nat.succ_ne_zero _) ?_
                  refine E_iload (v := ((1 <<< (a1 &&& 31)) * 2)) dX2_spread_156 rfl ?_
                  refine E_iload (v := x7_62_2) dX2_spread_158 rfl ?_
                  refine E_iadd dX2_spread_160 ?_
                  refine E_iload (v := v35) dX2_spread_161 rfl ?_
                  obtain ⟨w47, ew47, hf⟩ := lw_some hf
                  try dsimp only at hf
                  refine E_iast (n := 128) dX2_spread_163 sC_54 (by decide) (inb_in hi45) ?_
                  rw [← ew47]
                  refine E_iinc (ls' := [some (.ref 52), some (.ref o0), some (.int a1), some (.int a2), some (.int a3), some (.int (1 <<< (a1 &&& 31))), some (.int ((1 <<< (a1 &&& 31)) * 2)), some (.int (x7_62_2 + 1)), some (.int x8_62_2), some (.int x9_25_1), some (.int x10_62_2), some (.int x11_62_2), some (.int v35), some (.int r37)]) 1 dX2_spread_164 rfl ic_1 rfl rfl rfl ?_
                  refine E_iload (v := x8_62_2) dX2_spread_167 rfl ?_
                  refine E_iload (v := v35) dX2_spread_169 rfl ?_
                  refine E_iadd dX2_spread_171 ?_
                  refine E_istore (ls' := [some (.ref 52), some (.ref o0), some (.int a1), some (.int a2), some (.int a3), some (.int (1 <<< (a1 &&& 31))), some (.int ((1 <<< (a1 &&& 31)) * 2)), some (.int (x7_62_2 + 1)), some (.int (x8_62_2 + v35)), some (.int x9_25_1), some (.int x10_62_2), some (.int x11_62_2), some (.int v35), some (.int r37)]) dX2_spread_172 rfl rfl rfl ?_
                  refine E_aload_n (v := 52) dX2_spread_174 rfl ?_
                  refine E_dup_r dX2_spread_175 ?_
                  refine E_getI fg_RX2_31 dX2_spread_176 sC_52 rfl ?_
                  refine E_iload (v := v35) dX2_spread_179 rfl ?_
                  refine E_aload_n (v := o0) dX2_spread_181 rfl ?_
                  refine E_iload (v := a3) dX2_spread_182 rfl ?_
                  refine E_iload (v := r37) dX2_spread_184 rfl ?_
                  refine E_aload_n (v := 52) dX2_spread_186 rfl ?_
                  refine E_getR fg_RX2_38 dX2_spread_187 sC_52 rfl rC_52_0 (Nat.succ_ne_zero _) ?_
                  refine E_getI fg_RX2_84 dX2_spread_190 sC_46 rfl ?_
                  obtain ⟨r49, hc48, hf⟩ := bd_some hf
                  try dsimp only at hf
                  refine E_callVi (rest := [.int v35, .int (w47.1 52 7), .ref 52]) (ci := 4) cv_RX2_87 dX2_spread_193 (MX4_valueOf ho0 hc48) rfl (J_s0 ho0) rfl (by decide) rfl rfl (fun _ => Nat.le_of_ble_eq_true rfl) ?_
                  refine E_imul dX2_spread_196 ?_
                  refine E_iadd dX2_spread_197 ?_
                  obtain ⟨w50, ew50, hf⟩ := lw_some hf
                  try dsimp only at hf
                  refine E_putI fp_RX2_31 dX2_spread_198 sC_52 rfl rfl rfl ?_
                  rw [← ew50]
                  refine E_iload (v := x10_62_2) dX2_spread_201 rfl ?_
                  refine E_aload_n (v := o0) dX2_spread_203 rfl ?_
                  refine E_getR fg_RX2_91 dX2_spread_204 (J_s0 ho0) rfl (J_r0_2 ho0) (Nat.succ_ne_zero _) ?_
                  refine E_iload (v := a3) dX2_spread_207 rfl ?_
                  refine E_iald (n := 6) dX2_spread_209 (J_s2 ho0) (by decide) (inb_in hi42) ?_
                  refine E_iadd dX2_spread_210 ?_
                  obtain ⟨v51, ev51, hf⟩ := lw_some hf
                  try dsimp only at hf
                  rw [← ev51]
                  refine E_istore (ls' := [some (.ref 52), some (.ref o0), some (.int a1), some (.int a2), some (.int a3), some (.int (1 <<< (a1 &&& 31))), some (.int ((1 <<< (a1 &&& 31)) * 2)), some (.int (x7_62_2 + 1)), some (.int (x8_62_2 + v35)), some (.int x9_25_1), some (.int v51), some (.int x11_62_2), some (.int v35), some (.int r37)]) dX2_spread_211 rfl rfl rfl ?_
                  refine E_iinc (ls' := [some (.ref 52), some (.ref o0), some (.int a1), some (.int a2), some (.int a3), some (.int (1 <<< (a1 &&& 31))), some (.int ((1 <<< (a1 &&& 31)) * 2)), some (.int (x7_62_2 + 1)), some (.int (x8_62_2 + v35)), some (.int x9_25_1), some (.int v51), some (.int (x11_62_2 + 1)), some (.int v35), some (.int r37)]) 1 dX2_spread_213 rfl ic_1 rfl rfl rfl ?_
                  refine E_goto 62 dX2_spread_216 (by decide) ?_
                  obtain rfl := Option.some.inj hf
                  refine E.fewer (ls' := [some (.ref 52), some (.ref o0), some (.int a1), some (.int a2), some (.int a3), some (.int (1 <<< (a1 &&& 31))), some (.int ((1 <<< (a1 &&& 31)) * 2)), some (.int (x7_62_2 + 1)), some (.int (x8_62_2 + v35)), some (.int x9_25_1), some (.int v51), some (.int (x11_62_2 + 1)), none, none]) ⟨Or.inr rfl, ⟨Or.inr rfl, ⟨Or.inr rfl, ⟨Or.inr rfl, ⟨Or.inr rfl, ⟨Or.inr rfl, ⟨Or.inr rfl, ⟨Or.inr rfl, ⟨Or.inr rfl, ⟨Or.inr rfl, ⟨Or.inr rfl, ⟨Or.inr rfl, ⟨Or.inl rfl, ⟨Or.inl rfl, trivial⟩⟩⟩⟩⟩⟩⟩⟩⟩⟩⟩⟩⟩⟩ ?_
                  exact k9
              · rw [if_neg hc41] at hf
                refine E_aload_n (v := 52) dX2_spread_140 rfl ?_
                refine E_getR fg_RX2_11 dX2_spread_141 sC_52 rfl rC_52_1 (Nat.succ_ne_zero _) ?_
                refine E_iload (v := ((1 <<< (a1 &&& 31)) * 2)) dX2_spread_144 rfl ?_
                refine E_iload (v := x7_62_2) dX2_spread_146 rfl ?_
                refine E_iadd dX2_spread_148 ?_
                refine E_iload (v := x10_62_2) dX2_spread_149 rfl ?_
                obtain ⟨hi52, hf⟩ := gd_some hf
                obtain ⟨w53, ew53, hf⟩ := lw_some hf
                try dsimp only at hf
                refine E_iast (n := 128) dX2_spread_151 sC_53 (by decide) (inb_in hi52) ?_
                rw [← ew53]
                refine E_aload_n (v := 52) dX2_spread_152 rfl ?_
                refine E_getR fg_RX2_15 dX2_spread_153 sC_52 rfl rC_52_2 (Nat.succ_ne_zero _) ?_
                refine E_iload (v := ((1 <<< (a1 &&& 31)) * 2)) dX2_spread_156 rfl ?_
                refine E_iload (v := x7_62_2) dX2_spread_158 rfl ?_
                refine E_iadd dX2_spread_160 ?_
                refine E_iload (v := v35) dX2_spread_161 rfl ?_
                obtain ⟨w54, ew54, hf⟩ := lw_some hf
                try dsimp only at hf
                refine E_iast (n := 128) dX2_spread_163 sC_54 (by decide) (inb_in hi52) ?_
                rw [← ew54]
                refine E_iinc (ls' := [some (.ref 52), some (.ref o0), some (.int a1), some (.int a2), some (.int a3), some (.int (1 <<< (a1 &&& 31))), some (.int ((1 <<< (a1 &&& 31)) * 2)), some (.int (x7_62_2 + 1)), some (.int x8_62_2), some (.int x9_25_1), some (.int x10_62_2), some (.int x11_62_2), some (.int v35), some (.int r37)]) 1 dX2_spread_164 rfl ic_1 rfl rfl rfl ?_
                refine E_iload (v := x8_62_2) dX2_spread_167 rfl ?_
                refine E_iload (v := v35) dX2_spread_169 rfl ?_
                refine E_iadd dX2_spread_171 ?_
                refine E_istore (ls' := [some (.ref 52), some (.ref o0), some (.int a1), some (.int a2), some (.int a3), some (.int (1 <<< (a1 &&& 31))), some (.int ((1 <<< (a1 &&& 31)) * 2)), some (.int (x7_62_2 + 1)), some (.int (x8_62_2 + v35)), some (.int x9_25_1), some (.int x10_62_2), some (.int x11_62_2), some (.int v35), some (.int r37)]) dX2_spread_172 rfl rfl rfl ?_
                refine E_aload_n (v := 52) dX2_spread_174 rfl ?_
                refine E_dup_r dX2_spread_175 ?_
                refine E_getI fg_RX2_31 dX2_spread_176 sC_52 rfl ?_
                refine E_iload (v := v35) dX2_spread_179 rfl ?_
                refine E_aload_n (v := o0) dX2_spread_181 rfl ?_
                refine E_iload (v := a3) dX2_spread_182 rfl ?_
                refine E_iload (v := r37) dX2_spread_184 rfl ?_
                refine E_aload_n (v := 52) dX2_spread_186 rfl ?_
                refine E_getR fg_RX2_38 dX2_spread_187 sC_52 rfl rC_52_0 (Nat.succ_ne_zero _) ?_
                refine E_getI fg_RX2_84 dX2_spread_190 sC_46 rfl ?_
                obtain ⟨r56, hc55, hf⟩ := bd_some hf
                try dsimp only at hf
                refine E_callVi (rest := [.int v35, .int (w54.1 52 7), .ref 52]) (ci := 4) cv_RX2_87 dX2_spread_193 (MX4_valueOf ho0 hc55) rfl (J_s0 ho0) rfl (by decide) rfl rfl (fun _ => Nat.le_of_ble_eq_true rfl) ?_
                refine E_imul dX2_spread_196 ?_
                refine E_iadd dX2_spread_197 ?_
                obtain ⟨w57, ew57, hf⟩ := lw_some hf
                try dsimp only at hf
                refine E_putI fp_RX2_31 dX2_spread_198 sC_52 rfl rfl rfl ?_
                rw [← ew57]
                refine E_iload (v := x10_62_2) dX2_spread_201 rfl ?_
                refine E_aload_n (v := o0) dX2_spread_203 rfl ?_
                refine E_getR fg_RX2_91 dX2_spread_204 (J_s0 ho0) rfl (J_r0_2 ho0) (Nat.succ_ne_zero _) ?_
                refine E_iload (v := a3) dX2_spread_207 rfl ?_
                obtain ⟨hi58, hf⟩ := gd_some hf
                refine E_iald (n := 6) dX2_spread_209 (J_s2 ho0) (by decide) (inb_in hi58) ?_
                refine E_iadd dX2_spread_210 ?_
                obtain ⟨v59, ev59, hf⟩ := lw_some hf
                try dsimp only at hf
                rw [← ev59]
                refine E_istore (ls' := [some (.ref 52), some (.ref o0), some (.int a1), some (.int a2), some (.int a3), some (.int (1 <<< (a1 &&& 31))), some (.int ((1 <<< (a1 &&& 31)) * 2)), some (.int (x7_62_2 + 1)), some (.int (x8_62_2 + v35)), some (.int x9_25_1), some (.int v59), some (.int x11_62_2), some (.int v35), some (.int r37)]) dX2_spread_211 rfl rfl rfl ?_
                refine E_iinc (ls' := [some (.ref 52), some (.ref o0), some (.int a1), some (.int a2), some (.int a3), some (.int (1 <<< (a1 &&& 31))), some (.int ((1 <<< (a1 &&& 31)) * 2)), some (.int (x7_62_2 + 1)), some (.int (x8_62_2 + v35)), some (.int x9_25_1), some (.int v59), some (.int (x11_62_2 + 1)), some (.int v35), some (.int r37)]) 1 dX2_spread_213 rfl ic_1 rfl rfl rfl ?_
                refine E_goto 62 dX2_spread_216 (by decide) ?_
                obtain rfl := Option.some.inj hf
                refine E.fewer (ls' := [some (.ref 52), some (.ref o0), some (.int a1), some (.int a2), some (.int a3), some (.int (1 <<< (a1 &&& 31))), some (.int ((1 <<< (a1 &&& 31)) * 2)), some (.int (x7_62_2 + 1)), some (.int (x8_62_2 + v35)), some (.int x9_25_1), some (.int v59), some (.int (x11_62_2 + 1)), none, none]) ⟨Or.inr rfl, ⟨Or.inr rfl, ⟨Or.inr rfl, ⟨Or.inr rfl, ⟨Or.inr rfl, ⟨Or.inr rfl, ⟨Or.inr rfl, ⟨Or.inr rfl, ⟨Or.inr rfl, ⟨Or.inr rfl, ⟨Or.inr rfl, ⟨Or.inr rfl, ⟨Or.inl rfl, ⟨Or.inl rfl, trivial⟩⟩⟩⟩⟩⟩⟩⟩⟩⟩⟩⟩⟩⟩ ?_
                exact k9
      · skip
        obtain ⟨y61, y62, w63⟩ := q
        try dsimp only at hf
        show E (PC S) RX2 cX2_spread 14 3 219 [some (.ref 52), some (.ref o0), some (.int a1), some (.int a2), some (.int a3), some (.int (1 <<< (a1 &&& 31))), some (.int ((1 <<< (a1 &&& 31)) * 2)), some (.int y61), some (.int y62), some (.int x9_25_1), none, none, none, none] [] w63 Q
        refine E_iinc (ls' := [some (.ref 52), some (.ref o0), some (.int a1), some (.int a2), some (.int a3), some (.int (1 <<< (a1 &&& 31))), some (.int ((1 <<< (a1 &&& 31)) * 2)), some (.int y61), some (.int y62), some (.int (x9_25_1 + 1)), none, none, none, none]) 1 dX2_spread_219 rfl ic_1 rfl rfl rfl ?_
        refine E_goto 25 dX2_spread_222 (by decide) ?_
        obtain rfl := Option.some.inj hf
        exact k9
  · skip
    obtain ⟨y65, y66, w67⟩ := q
    try dsimp only at hf
    show E (PC S) RX2 cX2_spread 14 3 225 [some (.ref 52), none, some (.int a1), none, none, none, none, some (.int y65), some (.int y66), none, none, none, none, none] [] w67 Q
    refine E_aload_n (v := 52) dX2_spread_225 rfl ?_
    refine E_getR fg_RX2_18 dX2_spread_226 sC_52 rfl rC_52_3 (Nat.succ_ne_zero _) ?_
    refine E_iload_n (v := a1) dX2_spread_229 rfl ?_
    refine E_iconst 1 dX2_spread_230 ic_1 ?_
    refine E_iadd dX2_spread_231 ?_
    refine E_iload (v := y65) dX2_spread_232 rfl ?_
    obtain ⟨hi68, hf⟩ := gd_some hf
    obtain ⟨w69, ew69, hf⟩ := lw_some hf
    try dsimp only at hf
    refine E_iast (n := 7) dX2_spread_234 sC_55 (by decide) (inb_in hi68) ?_
    rw [← ew69]
    refine E_iload (v := y66) dX2_spread_235 rfl ?_
    obtain ⟨rfl, rfl⟩ := ret2 hf
    exact E.done (by rw [eQ]; exact ⟨rfl, Or.inl ⟨_, _, rfl, rfl, dX2_spread_237, rfl, rfl⟩⟩)
