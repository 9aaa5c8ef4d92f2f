set_option maxRecDepth 10000 in
set_option maxHeartbeats 2000000 in
theorem MX12_typeIts {a0 : Int32} {a1 : Int32} {w : AW} {rZ : Int32} (hf : fX12_typeIts a0 a1 w = some rZ) : CallOK PM yX12_typeIts cX12_typeIts 3 (some .int) 1 [.ref 0, .int a0, .int a1] w (some (.int rZ)) w := by
  refine CallOK.of (ls := [some (.ref 0), some (.int a0), some (.int a1)]) (by decide) (by simp) rfl rfl ?_
  obtain ⟨Q, eQ⟩ : ∃ Q, Q = Qret cX12_typeIts (some .int) (some (.int rZ)) w := ⟨_, rfl⟩
  rw [← eQ]
  unfold fX12_typeIts at hf
  refine E_aload_n (v := 0) dX12_typeIts_0 rfl ?_
  refine E_getR fg_RX12_31 dX12_typeIts_1 sM_0 rfl rM_0_13 (Nat.succ_ne_zero _) ?_
  refine E_bipush 6 dX12_typeIts_4 bp_6 ?_
  refine E_iload_n (v := a0) dX12_typeIts_6 rfl ?_
  refine E_imul dX12_typeIts_7 ?_
  refine E_iload_n (v := a1) dX12_typeIts_8 rfl ?_
  refine E_iadd dX12_typeIts_9 ?_
  obtain ⟨hi1, hf⟩ := gd_some hf
  refine E_iald (n := 18) dX12_typeIts_10 sM_8 (by decide) (inb_in hi1) ?_
  obtain rfl := Option.some.inj hf
  exact E.done (by rw [eQ]; exact ⟨rfl, Or.inl ⟨_, _, rfl, rfl, dX12_typeIts_11, rfl, rfl⟩⟩)
set_option maxRecDepth 10000 in
set_option maxHeartbeats 2000000 in
theorem MX12_oddsOfTypes {N : Nat} {w : AW} {rZ : Int32} (hf : fX12_oddsOfTypes N w = some rZ) : CallOK PM yX12_oddsOfTypes cX12_oddsOfTypes 3 (some .int) 2 [.ref 0] w (some (.int rZ)) w := by
  refine CallOK.of (ls := [some (.ref 0), none, none]) (by decide) (by simp) rfl rfl ?_
  obtain ⟨Q, eQ⟩ : ∃ Q, Q = Qret cX12_oddsOfTypes (some .int) (some (.int rZ)) w := ⟨_, rfl⟩
  rw [← eQ]
  unfold fX12_oddsOfTypes at hf
  refine E_iconst 0 dX12_oddsOfTypes_0 ic_0 ?_
  refine E_istore_n (ls' := [some (.ref 0), some (.int 0), none]) dX12_oddsOfTypes_1 rfl rfl rfl ?_
  refine E_iconst 0 dX12_oddsOfTypes_2 ic_0 ?_
  refine E_istore_n (ls' := [some (.ref 0), some (.int 0), some (.int 0)]) dX12_oddsOfTypes_3 rfl rfl rfl ?_
  obtain ⟨q, hw4, hf⟩ := bd_some hf
  try dsimp only at hf
  show (fun (s : Int32 × Int32) => E PM RX12 cX12_oddsOfTypes 3 2 4 [some (.ref 0), some (.int s.1), some (.int s.2)] [] w Q) (0, 0)
  refine wh_E (K := (fun (s : Int32 × Int32) => E PM RX12 cX12_oddsOfTypes 3 2 4 [some (.ref 0), some (.int s.1), some (.int s.2)] [] w Q)) (X := (fun (s : Int32) => E PM RX12 cX12_oddsOfTypes 3 2 27 [none, some (.int s), none] [] w Q)) ?_ hw4 ?_
  · intro s9 z9 hf k9
    obtain ⟨x1_4_1, x2_4_1⟩ := s9
    dsimp only [lbX12_oddsOfTypes_4_1] at hf
    show E PM RX12 cX12_oddsOfTypes 3 2 4 [some (.ref 0), some (.int x1_4_1), some (.int x2_4_1)] [] w Q
    refine E_iload_n (v := x2_4_1) dX12_oddsOfTypes_4 rfl ?_
    refine E_aload_n (v := 0) dX12_oddsOfTypes_5 rfl ?_
    refine E_getI fg_RX12_324 dX12_oddsOfTypes_6 sM_0 rfl ?_
    refine E_icmp_ge 27 dX12_oddsOfTypes_9 (by decide) (fun hc1 => ?_) (fun hc1 => ?_)
    · rw [if_pos hc1] at hf
      obtain rfl := Option.some.inj hf
      refine E.fewer (ls' := [none, some (.int x1_4_1), none]) ⟨Or.inl rfl, ⟨Or.inr rfl, ⟨Or.inl rfl, trivial⟩⟩⟩ ?_
      exact k9
    · rw [if_neg hc1] at hf
      refine E_iload_n (v := x1_4_1) dX12_oddsOfTypes_12 rfl ?_
      refine E_aload_n (v := 0) dX12_oddsOfTypes_13 rfl ?_
      refine E_iload_n (v := x2_4_1) dX12_oddsOfTypes_14 rfl ?_
      refine E_iconst 5 dX12_oddsOfTypes_15 ic_5 ?_
      obtain ⟨r3, hc2, hf⟩ := bd_some hf
      try dsimp only at hf
      refine E_callVi (rest := [.int x1_4_1]) (ci := 12) cv_RX12_327 dX12_oddsOfTypes_16 (MX12_typeIts hc2) rfl sM_0 rfl (by decide) rfl rfl (fun _ => Nat.le_of_ble_eq_true rfl) ?_
      refine E_iadd dX12_oddsOfTypes_19 ?_
      refine E_istore_n (ls' := [some (.ref 0), some (.int (x1_4_1 + r3)), some (.int x2_4_1)]) dX12_oddsOfTypes_20 rfl rfl rfl ?_
      refine E_iinc (ls' := [some (.ref 0), some (.int (x1_4_1 + r3)), some (.int (x2_4_1 + 1))]) 1 dX12_oddsOfTypes_21 rfl ic_1 rfl rfl rfl ?_
      refine E_goto 4 dX12_oddsOfTypes_24 (by decide) ?_
      obtain rfl := Option.some.inj hf
      exact k9
  · skip
    obtain ⟨y5, hq9⟩ : ∃ a, a = q := ⟨_, rfl⟩
    subst hq9
    try dsimp only at hf
    show E PM RX12 cX12_oddsOfTypes 3 2 27 [none, some (.int y5), none] [] w Q
    refine E_iload_n (v := y5) dX12_oddsOfTypes_27 rfl ?_
    obtain rfl := Option.some.inj hf
    exact E.done (by rw [eQ]; exact ⟨rfl, Or.inl ⟨_, _, rfl, rfl, dX12_oddsOfTypes_28, rfl, rfl⟩⟩)
set_option maxRecDepth 10000 in
set_option maxHeartbeats 2000000 in
theorem MX12_takenMany {a0 : Int32} {w : AW} {rZ : Int32} (hf : fX12_takenMany a0 w = some rZ) : CallOK PM yX12_takenMany cX12_takenMany 2 (some .int) 1 [.ref 0, .int a0] w (some (.int rZ)) w := by
  refine CallOK.of (ls := [some (.ref 0), some (.int a0)]) (by decide) (by simp) rfl rfl ?_
  obtain ⟨Q, eQ⟩ : ∃ Q, Q = Qret cX12_takenMany (some .int) (some (.int rZ)) w := ⟨_, rfl⟩
  rw [← eQ]
  unfold fX12_takenMany at hf
  refine E_iload_n (v := a0) dX12_takenMany_0 rfl ?_
  refine E_if_ne 8 dX12_takenMany_1 (by decide) (fun hc1 => ?_) (fun hc1 => ?_)
  · rw [if_pos hc1] at hf
    refine E_iconst 0 dX12_takenMany_4 ic_0 ?_
    refine E_goto 28 dX12_takenMany_5 (by decide) ?_
    obtain rfl := Option.some.inj hf
    exact E.done (by rw [eQ]; exact ⟨rfl, Or.inl ⟨_, _, rfl, rfl, dX12_takenMany_28, rfl, rfl⟩⟩)
  · rw [if_neg hc1] at hf
    refine E_iload_n (v := a0) dX12_takenMany_8 rfl ?_
    refine E_iconst 4 dX12_takenMany_9 ic_4 ?_
    refine E_icmp_ge 17 dX12_takenMany_10 (by decide) (fun hc2 => ?_) (fun hc2 => ?_)
    · rw [if_pos hc2] at hf
      refine E_iload_n (v := a0) dX12_takenMany_17 rfl ?_
      refine E_bipush 16 dX12_takenMany_18 bp_16 ?_
      refine E_icmp_ge 27 dX12_takenMany_20 (by decide) (fun hc3 => ?_) (fun hc3 => ?_)
      · rw [if_pos hc3] at hf
        refine E_iconst 3 dX12_takenMany_27 ic_3 ?_
        obtain rfl := Option.some.inj hf
        exact E.done (by rw [eQ]; exact ⟨rfl, Or.inl ⟨_, _, rfl, rfl, dX12_takenMany_28, rfl, rfl⟩⟩)
      · rw [if_neg hc3] at hf
        refine E_iconst 2 dX12_takenMany_23 ic_2 ?_
        refine E_goto 28 dX12_takenMany_24 (by decide) ?_
        obtain rfl := Option.some.inj hf
        exact E.done (by rw [eQ]; exact ⟨rfl, Or.inl ⟨_, _, rfl, rfl, dX12_takenMany_28, rfl, rfl⟩⟩)
    · rw [if_neg hc2] at hf
      refine E_iconst 1 dX12_takenMany_13 ic_1 ?_
      refine E_goto 28 dX12_takenMany_14 (by decide) ?_
      obtain rfl := Option.some.inj hf
      exact E.done (by rw [eQ]; exact ⟨rfl, Or.inl ⟨_, _, rfl, rfl, dX12_takenMany_28, rfl, rfl⟩⟩)
set_option maxRecDepth 10000 in
set_option maxHeartbeats 2000000 in
theorem MX12_restOf {a0 : Int32} {a1 : Int32} {w : AW} {rZ : Int32} (hf : fX12_restOf a0 a1 w = some rZ) : CallOK PM yX12_restOf cX12_restOf 2 (some .int) 1 [.int a0, .int a1] w (some (.int rZ)) w := by
  refine CallOK.of (ls := [some (.int a0), some (.int a1)]) (by decide) (by simp) rfl rfl ?_
  obtain ⟨Q, eQ⟩ : ∃ Q, Q = Qret cX12_restOf (some .int) (some (.int rZ)) w := ⟨_, rfl⟩
  rw [← eQ]
  unfold fX12_restOf at hf
  refine E_iload_n (v := a0) dX12_restOf_0 rfl ?_
  refine E_iconst 5 dX12_restOf_1 ic_5 ?_
  refine E_icmp_ne 13 dX12_restOf_2 (by decide) (fun hc1 => ?_) (fun hc1 => ?_)
  · rw [if_pos hc1] at hf
    refine E_iload_n (v := a1) dX12_restOf_5 rfl ?_
    refine E_iconst 1 dX12_restOf_6 ic_1 ?_
    refine E_iadd dX12_restOf_7 ?_
    refine E_iconst 2 dX12_restOf_8 ic_2 ?_
    refine E_idiv dX12_restOf_9 (by decide) ?_
    refine E_goto 14 dX12_restOf_10 (by decide) ?_
    obtain rfl := Option.some.inj hf
    exact E.done (by rw [eQ]; exact ⟨rfl, Or.inl ⟨_, _, rfl, rfl, dX12_restOf_14, rfl, rfl⟩⟩)
  · rw [if_neg hc1] at hf
    refine E_iload_n (v := a1) dX12_restOf_13 rfl ?_
    obtain rfl := Option.some.inj hf
    exact E.done (by rw [eQ]; exact ⟨rfl, Or.inl ⟨_, _, rfl, rfl, dX12_restOf_14, rfl, rfl⟩⟩)
set_option maxRecDepth 10000 in
set_option maxHeartbeats 2000000 in
theorem MX12_lay {a0 : Int32} {a1 : Int32} {a2 : Int32} {a3 : Int32} {a4 : Int32} {a5 : Int32} {w : AW} {wZ : AW} (hf : fX12_lay a0 a1 a2 a3 a4 a5 w = some wZ) : CallOK PM yX12_lay cX12_lay 7 none 2 [.ref 0, .int a0, .int a1, .int a2, .int a3, .int a4, .int a5] w none wZ := by
  refine CallOK.of (ls := [some (.ref 0), some (.int a0), some (.int a1), some (.int a2), some (.int a3), some (.int a4), some (.int a5)]) (by decide) (by simp) rfl rfl ?_
  obtain ⟨Q, eQ⟩ : ∃ Q, Q = Qret cX12_lay none none wZ := ⟨_, rfl⟩
  rw [← eQ]
  unfold fX12_lay at hf
  refine E_aload_n (v := 0) dX12_lay_0 rfl ?_
  refine E_getR fg_RX12_7 dX12_lay_1 sM_0 rfl rM_0_1 (Nat.succ_ne_zero _) ?_
  refine E_iconst 5 dX12_lay_4 ic_5 ?_
  refine E_iload_n (v := a0) dX12_lay_5 rfl ?_
  refine E_imul dX12_lay_6 ?_
  refine E_iload_n (v := a1) dX12_lay_7 rfl ?_
  obtain ⟨hi1, hf⟩ := gd_some hf
  obtain ⟨w2, ew2, hf⟩ := lw_some hf
  try dsimp only at hf
  refine E_iast (n := 50) dX12_lay_8 sM_1 (by decide) (inb_in hi1) ?_
  rw [← ew2]
  refine E_aload_n (v := 0) dX12_lay_9 rfl ?_
  refine E_getR fg_RX12_7 dX12_lay_10 sM_0 rfl rM_0_1 (Nat.succ_ne_zero _) ?_
  refine E_iconst 5 dX12_lay_13 ic_5 ?_
  refine E_iload_n (v := a0) dX12_lay_14 rfl ?_
  refine E_imul dX12_lay_15 ?_
  refine E_iconst 1 dX12_lay_16 ic_1 ?_
  refine E_iadd dX12_lay_17 ?_
  refine E_iload_n (v := a1) dX12_lay_18 rfl ?_
  refine E_iload_n (v := a2) dX12_lay_19 rfl ?_
  obtain ⟨r4, hc3, hf⟩ := bd_some hf
  try dsimp only at hf
  refine E_callSi (rest := [.int ((5 * a0) + 1), .ref 1]) cs_RX12_107 dX12_lay_20 (MX12_restOf hc3) rfl rfl rfl (fun _ => Nat.le_of_ble_eq_true rfl) ?_
  obtain ⟨hi5, hf⟩ := gd_some hf
  obtain ⟨w6, ew6, hf⟩ := lw_some hf
  try dsimp only at hf
  refine E_iast (n := 50) dX12_lay_23 sM_1 (by decide) (inb_in hi5) ?_
  rw [← ew6]
  refine E_aload_n (v := 0) dX12_lay_24 rfl ?_
  refine E_getR fg_RX12_7 dX12_lay_25 sM_0 rfl rM_0_1 (Nat.succ_ne_zero _) ?_
  refine E_iconst 5 dX12_lay_28 ic_5 ?_
  refine E_iload_n (v := a0) dX12_lay_29 rfl ?_
  refine E_imul dX12_lay_30 ?_
  refine E_iconst 2 dX12_lay_31 ic_2 ?_
  refine E_iadd dX12_lay_32 ?_
  refine E_iload (v := a3) dX12_lay_33 rfl ?_
  obtain ⟨hi7, hf⟩ := gd_some hf
  obtain ⟨w8, ew8, hf⟩ := lw_some hf
  try dsimp only at hf
  refine E_iast (n := 50) dX12_lay_35 sM_1 (by decide) (inb_in hi7) ?_
  rw [← ew8]
  refine E_aload_n (v := 0) dX12_lay_36 rfl ?_
  refine E_getR fg_RX12_7 dX12_lay_37 sM_0 rfl rM_0_1 (Nat.succ_ne_zero _) ?_
  refine E_iconst 5 dX12_lay_40 ic_5 ?_
  refine E_iload_n (v := a0) dX12_lay_41 rfl ?_
  refine E_imul dX12_lay_42 ?_
  refine E_iconst 3 dX12_lay_43 ic_3 ?_
  refine E_iadd dX12_lay_44 ?_
  refine E_iload (v := a4) dX12_lay_45 rfl ?_
  obtain ⟨hi9, hf⟩ := gd_some hf
  obtain ⟨w10, ew10, hf⟩ := lw_some hf
  try dsimp only at hf
  refine E_iast (n := 50) dX12_lay_47 sM_1 (by decide) (inb_in hi9) ?_
  rw [← ew10]
  refine E_aload_n (v := 0) dX12_lay_48 rfl ?_
  refine E_getR fg_RX12_7 dX12_lay_49 sM_0 rfl rM_0_1 (Nat.succ_ne_zero _) ?_
  refine E_iconst 5 dX12_lay_52 ic_5 ?_
  refine E_iload_n (v := a0) dX12_lay_53 rfl ?_
  refine E_imul dX12_lay_54 ?_
  refine E_iconst 4 dX12_lay_55 ic_4 ?_
  refine E_iadd dX12_lay_56 ?_
  refine E_iload (v := a5) dX12_lay_57 rfl ?_
  obtain ⟨hi11, hf⟩ := gd_some hf
  obtain ⟨w12, ew12, hf⟩ := lw_some hf
  try dsimp only at hf
  refine E_iast (n := 50) dX12_lay_59 sM_1 (by decide) (inb_in hi11) ?_
  rw [← ew12]
  obtain rfl := Option.some.inj hf
  exact E.done (by rw [eQ]; exact ⟨rfl, Or.inr ⟨rfl, rfl, dX12_lay_60, rfl⟩⟩)
set_option maxRecDepth 10000 in
set_option maxHeartbeats 2000000 in
theorem MX12_worthWith {N : Nat} {a0 : Int32} {w : AW} {rZ : Int32} {wZ : AW} (hf : fX12_worthWith N a0 w = some (rZ, wZ)) : CallOK PM yX12_worthWith cX12_worthWith 5 (some .int) 6 [.ref 0, .int a0] w (some (.int rZ)) wZ := by
  refine CallOK.of (ls := [some (.ref 0), some (.int a0), none, none, none]) (by decide) (by simp) rfl rfl ?_
  obtain ⟨Q, eQ⟩ : ∃ Q, Q = Qret cX12_worthWith (some .int) (some (.int rZ)) wZ := ⟨_, rfl⟩
  rw [← eQ]
  unfold fX12_worthWith at hf
  refine E_aload_n (v := 0) dX12_worthWith_0 rfl ?_
  refine E_getI fg_RX12_96 dX12_worthWith_1 sM_0 rfl ?_
  refine E_istore_n (ls' := [some (.ref 0), some (.int a0), some (.int (w.1 0 0)), none, none]) dX12_worthWith_4 rfl rfl rfl ?_
  refine E_iload_n (v := a0) dX12_worthWith_5 rfl ?_
  refine E_istore_n (ls' := [some (.ref 0), some (.int a0), some (.int (w.1 0 0)), some (.int a0), none]) dX12_worthWith_6 rfl rfl rfl ?_
  obtain ⟨q, hw14, hf⟩ := bd_some hf
  try dsimp only at hf
  refine E.fewer (ls' := [some (.ref 0), none, some (.int (w.1 0 0)), some (.int a0), none]) ⟨Or.inr rfl, ⟨Or.inl rfl, ⟨Or.inr rfl, ⟨Or.inr rfl, ⟨Or.inl rfl, trivial⟩⟩⟩⟩⟩ ?_
  show (fun (s : Int32 × Int32 × AW) => E PM RX12 cX12_worthWith 5 6 7 [some (.ref 0), none, some (.int s.1), some (.int s.2.1), none] [] s.2.2 Q) ((w.1 0 0), a0, w)
  refine wh_E (K := (fun (s : Int32 × Int32 × AW) => E PM RX12 cX12_worthWith 5 6 7 [some (.ref 0), none, some (.int s.1), some (.int s.2.1), none] [] s.2.2 Q)) (X := (fun (s : Int32 × AW) => E PM RX12 cX12_worthWith 5 6 73 [some (.ref 0), none, some (.int s.1), none, none] [] s.2 Q)) ?_ hw14 ?_
  · intro s9 z9 hf k9
    obtain ⟨x2_7_1, x3_7_1, w_7_1⟩ := s9
    dsimp only [lbX12_worthWith_7_1] at hf
    show E PM RX12 cX12_worthWith 5 6 7 [some (.ref 0), none, some (.int x2_7_1), some (.int x3_7_1), none] [] w_7_1 Q
    refine E_iload_n (v := x3_7_1) dX12_worthWith_7 rfl ?_
    refine E_if_eq 73 dX12_worthWith_8 (by decide) (fun hc1 => ?_) (fun hc1 => ?_)
    · rw [if_pos hc1] at hf
      obtain rfl := Option.some.inj hf
      refine E.fewer (ls' := [some (.ref 0), none, some (.int x2_7_1), none, none]) ⟨Or.inr rfl, ⟨Or.inl rfl, ⟨Or.inr rfl, ⟨Or.inl rfl, ⟨Or.inl rfl, trivial⟩⟩⟩⟩⟩ ?_
      exact k9
    · rw [if_neg hc1] at hf
      refine E_iload_n (v := x3_7_1) dX12_worthWith_11 rfl ?_
      refine E_iconst 4 dX12_worthWith_12 ic_4 ?_
      refine E_irem dX12_worthWith_13 (by decide) ?_
      refine E_iconst 1 dX12_worthWith_14 ic_1 ?_
      refine E_isub dX12_worthWith_15 ?_
      refine E_istore (ls' := [some (.ref 0), none, some (.int x2_7_1), some (.int x3_7_1), some (.int ((x3_7_1 - x3_7_1 / 4 * 4) - 1))]) dX12_worthWith_16 rfl rfl rfl ?_
      refine E_aload_n (v := 0) dX12_worthWith_18 rfl ?_
      refine E_iload_n (v := x2_7_1) dX12_worthWith_19 rfl ?_
      refine E_aload_n (v := 0) dX12_worthWith_20 rfl ?_
      refine E_iload (v := ((x3_7_1 - x3_7_1 / 4 * 4) - 1)) dX12_worthWith_21 rfl ?_
      refine E_iconst 0 dX12_worthWith_23 ic_0 ?_
      obtain ⟨r3, hc2, hf⟩ := bd_some hf
      try dsimp only at hf
      refine E_callVi (rest := [.int x2_7_1, .ref 0]) (ci := 12) cv_RX12_327 dX12_worthWith_24 (MX12_typeIts hc2) rfl sM_0 rfl (by decide) rfl rfl (fun _ => Nat.le_of_ble_eq_true rfl) ?_
      refine E_aload_n (v := 0) dX12_worthWith_27 rfl ?_
      refine E_iload (v := ((x3_7_1 - x3_7_1 / 4 * 4) - 1)) dX12_worthWith_28 rfl ?_
      refine E_iconst 1 dX12_worthWith_30 ic_1 ?_
      obtain ⟨r5, hc4, hf⟩ := bd_some hf
      try dsimp only at hf
      refine E_callVi (rest := [.int r3, .int x2_7_1, .ref 0]) (ci := 12) cv_RX12_327 dX12_worthWith_31 (MX12_typeIts hc4) rfl sM_0 rfl (by decide) rfl rfl (fun _ => Nat.le_of_ble_eq_true rfl) ?_
      refine E_aload_n (v := 0) dX12_worthWith_34 rfl ?_
      refine E_iload (v := ((x3_7_1 - x3_7_1 / 4 * 4) - 1)) dX12_worthWith_35 rfl ?_
      refine E_iconst 2 dX12_worthWith_37 ic_2 ?_
      obtain ⟨r7, hc6, hf⟩ := bd_some hf
      try dsimp only at hf
      refine E_callVi (rest := [.int r5, .int r3, .int x2_7_1, .ref 0]) (ci := 12) cv_RX12_327 dX12_worthWith_38 (MX12_typeIts hc6) rfl sM_0 rfl (by decide) rfl rfl (fun _ => Nat.le_of_ble_eq_true rfl) ?_
      refine E_aload_n (v := 0) dX12_worthWith_41 rfl ?_
      refine E_getI fg_RX12_217 dX12_worthWith_42 sM_0 rfl ?_
      refine E_aload_n (v := 0) dX12_worthWith_45 rfl ?_
      refine E_iload (v := ((x3_7_1 - x3_7_1 / 4 * 4) - 1)) dX12_worthWith_46 rfl ?_
      refine E_iconst 3 dX12_worthWith_48 ic_3 ?_
      obtain ⟨r9, hc8, hf⟩ := bd_some hf
      try dsimp only at hf
      refine E_callVi (rest := [.int (w_7_1.1 0 5), .int r7, .int r5, .int r3, .int x2_7_1, .ref 0]) (ci := 12) cv_RX12_327 dX12_worthWith_49 (MX12_typeIts hc8) rfl sM_0 rfl (by decide) rfl rfl (fun _ => Nat.le_of_ble_eq_true rfl) ?_
      refine E_iadd dX12_worthWith_52 ?_
      refine E_aload_n (v := 0) dX12_worthWith_53 rfl ?_
      refine E_iload (v := ((x3_7_1 - x3_7_1 / 4 * 4) - 1)) dX12_worthWith_54 rfl ?_
      refine E_iconst 4 dX12_worthWith_56 ic_4 ?_
      obtain ⟨r11, hc10, hf⟩ := bd_some hf
      try dsimp only at hf
      refine E_callVi (rest := [.int ((w_7_1.1 0 5) + r9), .int r7, .int r5, .int r3, .int x2_7_1, .ref 0]) (ci := 12) cv_RX12_327 dX12_worthWith_57 (MX12_typeIts hc10) rfl sM_0 rfl (by decide) rfl rfl (fun _ => Nat.le_of_ble_eq_true rfl) ?_
      obtain ⟨w13, hc12, hf⟩ := bd_some hf
      try dsimp only at hf
      refine E_callVv (rest := []) (ci := 12) cv_RX12_213 dX12_worthWith_60 (MX12_lay hc12) rfl sM_0 rfl (by decide) rfl rfl (fun _ => Nat.le_of_ble_eq_true rfl) ?_
      refine E_iinc (ls' := [some (.ref 0), none, some (.int (x2_7_1 + 1)), some (.int x3_7_1), some (.int ((x3_7_1 - x3_7_1 / 4 * 4) - 1))]) 1 dX12_worthWith_63 rfl ic_1 rfl rfl rfl ?_
      refine E_iload_n (v := x3_7_1) dX12_worthWith_66 rfl ?_
      refine E_iconst 4 dX12_worthWith_67 ic_4 ?_
      refine E_idiv dX12_worthWith_68 (by decide) ?_
      refine E_istore_n (ls' := [some (.ref 0), none, some (.int (x2_7_1 + 1)), some (.int (x3_7_1 / 4)), some (.int ((x3_7_1 - x3_7_1 / 4 * 4) - 1))]) dX12_worthWith_69 rfl rfl rfl ?_
      refine E_goto 7 dX12_worthWith_70 (by decide) ?_
      obtain rfl := Option.some.inj hf
      refine E.fewer (ls' := [some (.ref 0), none, some (.int (x2_7_1 + 1)), some (.int (x3_7_1 / 4)), none]) ⟨Or.inr rfl, ⟨Or.inl rfl, ⟨Or.inr rfl, ⟨Or.inr rfl, ⟨Or.inl rfl, trivial⟩⟩⟩⟩⟩ ?_
      exact k9
  · skip
    obtain ⟨y15, w16⟩ := q
    try dsimp only at hf
    show E PM RX12 cX12_worthWith 5 6 73 [some (.ref 0), none, some (.int y15), none, none] [] w16 Q
    refine E_aload_n (v := 0) dX12_worthWith_73 rfl ?_
    refine E_iload_n (v := y15) dX12_worthWith_74 rfl ?_
    refine E_iconst (-1) dX12_worthWith_75 ic_m1 ?_
    obtain ⟨r18, w19, hc17, hf⟩ := bd2_some hf
    try dsimp only at hf
    refine E_callVi (rest := []) (ci := 12) cv_RX12_297 dX12_worthWith_76 (MX12_mostOfAll hc17) rfl sM_0 rfl (by decide) rfl rfl (fun _ => Nat.le_of_ble_eq_true rfl) ?_
    obtain ⟨rfl, rfl⟩ := ret2 hf
    exact E.done (by rw [eQ]; exact ⟨rfl, Or.inl ⟨_, _, rfl, rfl, dX12_worthWith_79, rfl, rfl⟩⟩)
set_option maxRecDepth 10000 in
set_option maxHeartbeats 2000000 in
theorem MX12_ahead {N : Nat} {a0 : Int32} {a1 : Int32} {w : AW} {rZ : Int32} {wZ : AW} (hf : fX12_ahead N a0 a1 w = some (rZ, wZ)) : CallOK PM yX12_ahead cX12_ahead 9 (some .int) 7 [.ref 0, .int a0, .int a1] w (some (.int rZ)) wZ := by
  refine CallOK.of (ls := [some (.ref 0), some (.int a0), some (.int a1), none, none, none, none, none, none]) (by decide) (by simp) rfl rfl ?_
  obtain ⟨Q, eQ⟩ : ∃ Q, Q = Qret cX12_ahead (some .int) (some (.int rZ)) wZ := ⟨_, rfl⟩
  rw [← eQ]
  unfold fX12_ahead at hf
  refine E_iload_n (v := a0) dX12_ahead_0 rfl ?_
  refine E_iconst 0 dX12_ahead_1 ic_0 ?_
  refine E_iconst 3 dX12_ahead_2 ic_3 ?_
  obtain ⟨r2, hc1, hf⟩ := bd_some hf
  try dsimp only at hf
  refine E_callSi (rest := []) cs_RX12_99 dX12_ahead_3 (MX12_in hc1) rfl rfl rfl (fun _ => Nat.le_of_ble_eq_true rfl) ?_
  refine E_if_eq 26 dX12_ahead_6 (by decide) (fun hc3 => ?_) (fun hc3 => ?_)
  · rw [if_pos hc3] at hf
    refine E_ldcw (-2147483648) dX12_ahead_26 wk_RX12_284 ?_
    obtain ⟨rfl, rfl⟩ := ret2 hf
    exact E.done (by rw [eQ]; exact ⟨rfl, Or.inl ⟨_, _, rfl, rfl, dX12_ahead_29, rfl, rfl⟩⟩)
  · rw [if_neg hc3] at hf
    refine E_iload_n (v := a1) dX12_ahead_9 rfl ?_
    obtain ⟨r5, hc4, hf⟩ := bd_some hf
    try dsimp only at hf
    refine E_callSi (rest := []) cs_RX12_103 dX12_ahead_10 (MX12_isSide hc4) rfl rfl rfl (fun _ => Nat.le_of_ble_eq_true rfl) ?_
    refine E_if_eq 26 dX12_ahead_13 (by decide) (fun hc6 => ?_) (fun hc6 => ?_)
    · rw [if_pos hc6] at hf
      refine E_ldcw (-2147483648) dX12_ahead_26 wk_RX12_284 ?_
      obtain ⟨rfl, rfl⟩ := ret2 hf
      exact E.done (by rw [eQ]; exact ⟨rfl, Or.inl ⟨_, _, rfl, rfl, dX12_ahead_29, rfl, rfl⟩⟩)
    · rw [if_neg hc6] at hf
      refine E_aload_n (v := 0) dX12_ahead_16 rfl ?_
      refine E_getI fg_RX12_96 dX12_ahead_17 sM_0 rfl ?_
      refine E_iload_n (v := a0) dX12_ahead_20 rfl ?_
      refine E_iadd dX12_ahead_21 ?_
      refine E_iconst 5 dX12_ahead_22 ic_5 ?_
      refine E_icmp_le 30 dX12_ahead_23 (by decide) (fun hc7 => ?_) (fun hc7 => ?_)
      · rw [if_pos hc7] at hf
        refine E_iload_n (v := a0) dX12_ahead_30 rfl ?_
        refine E_if_ne 38 dX12_ahead_31 (by decide) (fun hc8 => ?_) (fun hc8 => ?_)
        · rw [if_pos hc8] at hf
          refine E_iconst 1 dX12_ahead_34 ic_1 ?_
          refine E_goto 59 dX12_ahead_35 (by decide) ?_
          refine E_istore_n (ls' := [some (.ref 0), some (.int a0), some (.int a1), some (.int 1), none, none, none, none, none]) dX12_ahead_59 rfl rfl rfl ?_
          refine E_iconst 0 dX12_ahead_60 ic_0 ?_
          refine E_istore (ls' := [some (.ref 0), some (.int a0), some (.int a1), some (.int 1), some (.int 0), none, none, none, none]) dX12_ahead_61 rfl rfl rfl ?_
          obtain ⟨q, hw21, hf⟩ := bd_some hf
          try dsimp only at hf
          show (fun (s : Int32 × AW) => E PM RX12 cX12_ahead 9 7 63 [some (.ref 0), some (.int a0), some (.int a1), some (.int 1), some (.int s.1), none, none, none, none] [] s.2 Q) (0, w)
          refine wh_E (K := (fun (s : Int32 × AW) => E PM RX12 cX12_ahead 9 7 63 [some (.ref 0), some (.int a0), some (.int a1), some (.int 1), some (.int s.1), none, none, none, none] [] s.2 Q)) (X := (fun (s : AW) => E PM RX12 cX12_ahead 9 7 101 [some (.ref 0), some (.int a0), some (.int a1), some (.int 1), none, none, none, none, none] [] s Q)) ?_ hw21 ?_
          · intro s9 z9 hf k9
            obtain ⟨x4_63_1, w_63_1⟩ := s9
            dsimp only [lbX12_ahead_63_1] at hf
            show E PM RX12 cX12_ahead 9 7 63 [some (.ref 0), some (.int a0), some (.int a1), some (.int 1), some (.int x4_63_1), none, none, none, none] [] w_63_1 Q
            refine E_iload (v := x4_63_1) dX12_ahead_63 rfl ?_
            refine E_iload_n (v := 1) dX12_ahead_65 rfl ?_
            refine E_icmp_ge 101 dX12_ahead_66 (by decide) (fun hc9 => ?_) (fun hc9 => ?_)
            · rw [if_pos hc9] at hf
              obtain rfl := Option.some.inj hf
              refine E.fewer (ls' := [some (.ref 0), some (.int a0), some (.int a1), some (.int 1), none, none, none, none, none]) ⟨Or.inr rfl, ⟨Or.inr rfl, ⟨Or.inr rfl, ⟨Or.inr rfl, ⟨Or.inl rfl, ⟨Or.inl rfl, ⟨Or.inl rfl, ⟨Or.inl rfl, ⟨Or.inl rfl, trivial⟩⟩⟩⟩⟩⟩⟩⟩⟩ ?_
              exact k9
            · rw [if_neg hc9] at hf
              refine E_aload_n (v := 0) dX12_ahead_69 rfl ?_
              refine E_getR fg_RX12_59 dX12_ahead_70 sM_0 rfl rM_0_34 (Nat.succ_ne_zero _) ?_
              refine E_iload (v := x4_63_1) dX12_ahead_73 rfl ?_
              refine E_aload_n (v := 0) dX12_ahead_75 rfl ?_
              refine E_iload (v := x4_63_1) dX12_ahead_76 rfl ?_
              obtain ⟨r11, hc10, hf⟩ := bd_some hf
              try dsimp only at hf
              refine E_callVi (rest := [.int x4_63_1, .ref 16]) (ci := 12) cv_RX12_333 dX12_ahead_78 (MX12_isTaken hc10) rfl sM_0 rfl (by decide) rfl rfl (fun _ => Nat.le_of_ble_eq_true rfl) ?_
              refine E_if_eq 93 dX12_ahead_81 (by decide) (fun hc12 => ?_) (fun hc12 => ?_)
              · rw [if_pos hc12] at hf
                refine E_iconst 0 dX12_ahead_93 ic_0 ?_
                obtain ⟨hi13, hf⟩ := gd_some hf
                obtain ⟨w14, ew14, hf⟩ := lw_some hf
                try dsimp only at hf
                refine E_iast (n := 64) dX12_ahead_94 sM_16 (by decide) (inb_in hi13) ?_
                rw [← ew14]
                refine E_iinc (ls' := [some (.ref 0), some (.int a0), some (.int a1), some (.int 1), some (.int (x4_63_1 + 1)), none, none, none, none]) 1 dX12_ahead_95 rfl ic_1 rfl rfl rfl ?_
                refine E_goto 63 dX12_ahead_98 (by decide) ?_
                obtain rfl := Option.some.inj hf
                exact k9
              · rw [if_neg hc12] at hf
                refine E_aload_n (v := 0) dX12_ahead_84 rfl ?_
                refine E_iload (v := x4_63_1) dX12_ahead_85 rfl ?_
                obtain ⟨r16, w17, hc15, hf⟩ := bd2_some hf
                try dsimp only at hf
                refine E_callVi (rest := [.int x4_63_1, .ref 16]) (ci := 12) cv_RX12_336 dX12_ahead_87 (MX12_worthWith hc15) rfl sM_0 rfl (by decide) rfl rfl (fun _ => Nat.le_of_ble_eq_true rfl) ?_
                refine E_goto 94 dX12_ahead_90 (by decide) ?_
                obtain ⟨hi19, hf⟩ := gd_some hf
                obtain ⟨w20, ew20, hf⟩ := lw_some hf
                try dsimp only at hf
                refine E_iast (n := 64) dX12_ahead_94 sM_16 (by decide) (inb_in hi19) ?_
                rw [← ew20]
                refine E_iinc (ls' := [some (.ref 0), some (.int a0), some (.int a1), some (.int 1), some (.int (x4_63_1 + 1)), none, none, none, none]) 1 dX12_ahead_95 rfl ic_1 rfl rfl rfl ?_
                refine E_goto 63 dX12_ahead_98 (by decide) ?_
                obtain rfl := Option.some.inj hf
                exact k9
          · skip
            obtain ⟨w22, hq9⟩ : ∃ a, a = q := ⟨_, rfl⟩
            subst hq9
            try dsimp only at hf
            show E PM RX12 cX12_ahead 9 7 101 [some (.ref 0), some (.int a0), some (.int a1), some (.int 1), none, none, none, none, none] [] w22 Q
            refine E_iconst 1 dX12_ahead_101 ic_1 ?_
            refine E_istore (ls' := [some (.ref 0), some (.int a0), some (.int a1), some (.int 1), some (.int 1), none, none, none, none]) dX12_ahead_102 rfl rfl rfl ?_
            obtain ⟨q, hw54, hf⟩ := bd_some hf
            try dsimp only at hf
            show (fun (s : Int32 × AW) => E PM RX12 cX12_ahead 9 7 104 [some (.ref 0), some (.int a0), some (.int a1), some (.int 1), some (.int s.1), none, none, none, none] [] s.2 Q) (1, w22)
            refine wh_E (K := (fun (s : Int32 × AW) => E PM RX12 cX12_ahead 9 7 104 [some (.ref 0), some (.int a0), some (.int a1), some (.int 1), some (.int s.1), none, none, none, none] [] s.2 Q)) (X := (fun (s : AW) => E PM RX12 cX12_ahead 9 7 289 [some (.ref 0), some (.int a0), some (.int a1), none, none, none, none, none, none] [] s Q)) ?_ hw54 ?_
            · intro s9 z9 hf k9
              obtain ⟨x4_104_2, w_104_2⟩ := s9
              dsimp only [lbX12_ahead_104_2] at hf
              show E PM RX12 cX12_ahead 9 7 104 [some (.ref 0), some (.int a0), some (.int a1), some (.int 1), some (.int x4_104_2), none, none, none, none] [] w_104_2 Q
              refine E_iload (v := x4_104_2) dX12_ahead_104 rfl ?_
              refine E_iload_n (v := a0) dX12_ahead_106 rfl ?_
              refine E_icmp_gt 289 dX12_ahead_107 (by decide) (fun hc23 => ?_) (fun hc23 => ?_)
              · rw [if_pos hc23] at hf
                obtain rfl := Option.some.inj hf
                refine E.fewer (ls' := [some (.ref 0), some (.int a0), some (.int a1), none, none, none, none, none, none]) ⟨Or.inr rfl, ⟨Or.inr rfl, ⟨Or.inr rfl, ⟨Or.inl rfl, ⟨Or.inl rfl, ⟨Or.inl rfl, ⟨Or.inl rfl, ⟨Or.inl rfl, ⟨Or.inl rfl, trivial⟩⟩⟩⟩⟩⟩⟩⟩⟩ ?_
                exact k9
              · rw [if_neg hc23] at hf
                refine E_iconst 0 dX12_ahead_110 ic_0 ?_
                refine E_istore (ls' := [some (.ref 0), some (.int a0), some (.int a1), some (.int 1), some (.int x4_104_2), some (.int 0), none, none, none]) dX12_ahead_111 rfl rfl rfl ?_
                obtain ⟨q, hw47, hf⟩ := bd_some hf
                try dsimp only at hf
                show (fun (s : Int32 × AW) => E PM RX12 cX12_ahead 9 7 113 [some (.ref 0), some (.int a0), some (.int a1), some (.int 1), some (.int x4_104_2), some (.int s.1), none, none, none] [] s.2 Q) (0, w_104_2)
                refine wh_E (K := (fun (s : Int32 × AW) => E PM RX12 cX12_ahead 9 7 113 [some (.ref 0), some (.int a0), some (.int a1), some (.int 1), some (.int x4_104_2), some (.int s.1), none, none, none] [] s.2 Q)) (X := (fun (s : AW) => E PM RX12 cX12_ahead 9 7 254 [some (.ref 0), some (.int a0), some (.int a1), some (.int 1), some (.int x4_104_2), none, none, none, none] [] s Q)) ?_ hw47 ?_
                · intro s9 z9 hf k9
                  obtain ⟨x5_113_3, w_113_3⟩ := s9
                  dsimp only [lbX12_ahead_113_3] at hf
                  show E PM RX12 cX12_ahead 9 7 113 [some (.ref 0), some (.int a0), some (.int a1), some (.int 1), some (.int x4_104_2), some (.int x5_113_3), none, none, none] [] w_113_3 Q
                  refine E_iload (v := x5_113_3) dX12_ahead_113 rfl ?_
                  refine E_iload_n (v := 1) dX12_ahead_115 rfl ?_
                  refine E_icmp_ge 254 dX12_ahead_116 (by decide) (fun hc24 => ?_) (fun hc24 => ?_)
                  · rw [if_pos hc24] at hf
                    obtain rfl := Option.some.inj hf
                    refine E.fewer (ls' := [some (.ref 0), some (.int a0), some (.int a1), some (.int 1), some (.int x4_104_2), none, none, none, none]) ⟨Or.inr rfl, ⟨Or.inr rfl, ⟨Or.inr rfl, ⟨Or.inr rfl, ⟨Or.inr rfl, ⟨Or.inl rfl, ⟨Or.inl rfl, ⟨Or.inl rfl, ⟨Or.inl rfl, trivial⟩⟩⟩⟩⟩⟩⟩⟩⟩ ?_
                    exact k9
                  · rw [if_neg hc24] at hf
                    refine E_aload_n (v := 0) dX12_ahead_119 rfl ?_
                    refine E_getR fg_RX12_62 dX12_ahead_120 sM_0 rfl rM_0_35 (Nat.succ_ne_zero _) ?_
                    refine E_iload (v := x5_113_3) dX12_ahead_123 rfl ?_
                    refine E_iconst 0 dX12_ahead_125 ic_0 ?_
                    obtain ⟨hi25, hf⟩ := gd_some hf
                    obtain ⟨w26, ew26, hf⟩ := lw_some hf
                    try dsimp only at hf
                    refine E_iast (n := 64) dX12_ahead_126 sM_17 (by decide) (inb_in hi25) ?_
                    rw [← ew26]
                    refine E_aload_n (v := 0) dX12_ahead_127 rfl ?_
                    refine E_iload (v := x5_113_3) dX12_ahead_128 rfl ?_
                    obtain ⟨r28, hc27, hf⟩ := bd_some hf
                    try dsimp only at hf
                    refine E_callVi (rest := []) (ci := 12) cv_RX12_333 dX12_ahead_130 (MX12_isTaken hc27) rfl sM_0 rfl (by decide) rfl rfl (fun _ => Nat.le_of_ble_eq_true rfl) ?_
                    refine E_if_eq 248 dX12_ahead_133 (by decide) (fun hc29 => ?_) (fun hc29 => ?_)
                    · rw [if_pos hc29] at hf
                      refine E_iinc (ls' := [some (.ref 0), some (.int a0), some (.int a1), some (.int 1), some (.int x4_104_2), some (.int (x5_113_3 + 1)), none, none, none]) 1 dX12_ahead_248 rfl ic_1 rfl rfl rfl ?_
                      refine E_goto 113 dX12_ahead_251 (by decide) ?_
                      obtain rfl := Option.some.inj hf
                      exact k9
                    · rw [if_neg hc29] at hf
                      refine E_aload_n (v := 0) dX12_ahead_136 rfl ?_
                      refine E_iload (v := x5_113_3) dX12_ahead_137 rfl ?_
                      obtain ⟨r31, hc30, hf⟩ := bd_some hf
                      try dsimp only at hf
                      refine E_callVi (rest := []) (ci := 12) cv_RX12_339 dX12_ahead_139 (MX12_takenMany hc30) rfl sM_0 rfl (by decide) rfl rfl (fun _ => Nat.le_of_ble_eq_true rfl) ?_
                      refine E_iload_n (v := a0) dX12_ahead_142 rfl ?_
                      refine E_iload (v := x4_104_2) dX12_ahead_143 rfl ?_
                      refine E_isub dX12_ahead_145 ?_
                      refine E_icmp_le 152 dX12_ahead_146 (by decide) (fun hc32 => ?_) (fun hc32 => ?_)
                      · rw [if_pos hc32] at hf
                        refine E_iconst 4 dX12_ahead_152 ic_4 ?_
                        refine E_aload_n (v := 0) dX12_ahead_153 rfl ?_
                        obtain ⟨r34, hc33, hf⟩ := bd_some hf
                        try dsimp only at hf
                        refine E_callVi (rest := [.int 4]) (ci := 12) cv_RX12_330 dX12_ahead_154 (MX12_oddsOfTypes hc33) rfl sM_0 rfl (by decide) rfl rfl (fun _ => Nat.le_of_ble_eq_true rfl) ?_
                        refine E_isub dX12_ahead_157 ?_
                        refine E_aload_n (v := 0) dX12_ahead_158 rfl ?_
                        refine E_getR fg_RX12_59 dX12_ahead_159 sM_0 rfl rM_0_34 (Nat.succ_ne_zero _) ?_
                        refine E_iload (v := x5_113_3) dX12_ahead_162 rfl ?_
                        refine E_iald (n := 64) dX12_ahead_164 sM_16 (by decide) (inb_in hi25) ?_
                        refine E_imul dX12_ahead_165 ?_
                        obtain ⟨v35, ev35, hf⟩ := lw_some hf
                        try dsimp only at hf
                        rw [← ev35]
                        refine E_istore (ls' := [some (.ref 0), some (.int a0), some (.int a1), some (.int 1), some (.int x4_104_2), some (.int x5_113_3), some (.int v35), none, none]) dX12_ahead_166 rfl rfl rfl ?_
                        refine E_iconst 0 dX12_ahead_168 ic_0 ?_
                        refine E_istore (ls' := [some (.ref 0), some (.int a0), some (.int a1), some (.int 1), some (.int x4_104_2), some (.int x5_113_3), some (.int v35), some (.int 0), none]) dX12_ahead_169 rfl rfl rfl ?_
                        obtain ⟨q, hw44, hf⟩ := bd_some hf
                        try dsimp only at hf
                        show (fun (s : Int32 × Int32) => E PM RX12 cX12_ahead 9 7 171 [some (.ref 0), some (.int a0), some (.int a1), some (.int 1), some (.int x4_104_2), some (.int x5_113_3), some (.int s.1), some (.int s.2), none] [] w26 Q) (v35, 0)
                        refine wh_E (K := (fun (s : Int32 × Int32) => E PM RX12 cX12_ahead 9 7 171 [some (.ref 0), some (.int a0), some (.int a1), some (.int 1), some (.int x4_104_2), some (.int x5_113_3), some (.int s.1), some (.int s.2), none] [] w26 Q)) (X := (fun (s : Int32) => E PM RX12 cX12_ahead 9 7 239 [some (.ref 0), some (.int a0), some (.int a1), some (.int 1), some (.int x4_104_2), some (.int x5_113_3), some (.int s), none, none] [] w26 Q)) ?_ hw44 ?_
                        · intro s9 z9 hf k9
                          obtain ⟨x6_171_4, x7_171_4⟩ := s9
                          dsimp only [lbX12_ahead_171_4] at hf
                          show E PM RX12 cX12_ahead 9 7 171 [some (.ref 0), some (.int a0), some (.int a1), some (.int 1), some (.int x4_104_2), some (.int x5_113_3), some (.int x6_171_4), some (.int x7_171_4), none] [] w26 Q
                          refine E_iload (v := x7_171_4) dX12_ahead_171 rfl ?_
                          refine E_aload_n (v := 0) dX12_ahead_173 rfl ?_
                          refine E_getI fg_RX12_324 dX12_ahead_174 sM_0 rfl ?_
                          refine E_icmp_ge 239 dX12_ahead_177 (by decide) (fun hc36 => ?_) (fun hc36 => ?_)
                          · rw [if_pos hc36] at hf
                            obtain rfl := Option.some.inj hf
                            refine E.fewer (ls' := [some (.ref 0), some (.int a0), some (.int a1), some (.int 1), some (.int x4_104_2), some (.int x5_113_3), some (.int x6_171_4), none, none]) ⟨Or.inr rfl, ⟨Or.inr rfl, ⟨Or.inr rfl, ⟨Or.inr rfl, ⟨Or.inr rfl, ⟨Or.inr rfl, ⟨Or.inr rfl, ⟨Or.inl rfl, ⟨Or.inl rfl, trivial⟩⟩⟩⟩⟩⟩⟩⟩⟩ ?_
                            exact k9
                          · rw [if_neg hc36] at hf
                            refine E_aload_n (v := 0) dX12_ahead_180 rfl ?_
                            refine E_getR fg_RX12_59 dX12_ahead_181 sM_0 rfl rM_0_34 (Nat.succ_ne_zero _) ?_
                            refine E_iconst 4 dX12_ahead_184 ic_4 ?_
                            refine E_iload (v := x5_113_3) dX12_ahead_185 rfl ?_
                            refine E_imul dX12_ahead_187 ?_
                            refine E_iload (v := x7_171_4) dX12_ahead_188 rfl ?_
                            refine E_iadd dX12_ahead_190 ?_
                            refine E_iconst 1 dX12_ahead_191 ic_1 ?_
                            refine E_iadd dX12_ahead_192 ?_
                            obtain ⟨hi37, hf⟩ := gd_some hf
                            refine E_iald (n := 64) dX12_ahead_193 sM_16 (by decide) (inb_in hi37) ?_
                            obtain ⟨v38, ev38, hf⟩ := lw_some hf
                            try dsimp only at hf
                            rw [← ev38]
                            refine E_istore (ls' := [some (.ref 0), some (.int a0), some (.int a1), some (.int 1), some (.int x4_104_2), some (.int x5_113_3), some (.int x6_171_4), some (.int x7_171_4), some (.int v38)]) dX12_ahead_194 rfl rfl rfl ?_
                            refine E_iload (v := x6_171_4) dX12_ahead_196 rfl ?_
                            refine E_aload_n (v := 0) dX12_ahead_198 rfl ?_
                            refine E_iload (v := x7_171_4) dX12_ahead_199 rfl ?_
                            refine E_iconst 5 dX12_ahead_201 ic_5 ?_
                            obtain ⟨r40, hc39, hf⟩ := bd_some hf
                            try dsimp only at hf
                            refine E_callVi (rest := [.int x6_171_4]) (ci := 12) cv_RX12_327 dX12_ahead_202 (MX12_typeIts hc39) rfl sM_0 rfl (by decide) rfl rfl (fun _ => Nat.le_of_ble_eq_true rfl) ?_
                            refine E_iload (v := v38) dX12_ahead_205 rfl ?_
                            refine E_aload_n (v := 0) dX12_ahead_207 rfl ?_
                            refine E_getR fg_RX12_59 dX12_ahead_208 sM_0 rfl rM_0_34 (Nat.succ_ne_zero _) ?_
                            refine E_iload (v := x5_113_3) dX12_ahead_211 rfl ?_
                            obtain ⟨hi41, hf⟩ := gd_some hf
                            refine E_iald (n := 64) dX12_ahead_213 sM_16 (by decide) (inb_in hi41) ?_
                            refine E_icmp_le 222 dX12_ahead_214 (by decide) (fun hc42 => ?_) (fun hc42 => ?_)
                            · rw [if_pos hc42] at hf
                              refine E_aload_n (v := 0) dX12_ahead_222 rfl ?_
                              refine E_getR fg_RX12_59 dX12_ahead_223 sM_0 rfl rM_0_34 (Nat.succ_ne_zero _) ?_
                              refine E_iload (v := x5_113_3) dX12_ahead_226 rfl ?_
                              refine E_iald (n := 64) dX12_ahead_228 sM_16 (by decide) (inb_in hi41) ?_
                              refine E_imul dX12_ahead_229 ?_
                              refine E_iadd dX12_ahead_230 ?_
                              obtain ⟨v43, ev43, hf⟩ := lw_some hf
                              try dsimp only at hf
                              rw [← ev43]
                              refine E_istore (ls' := [some (.ref 0), some (.int a0), some (.int a1), some (.int 1), some (.int x4_104_2), some (.int x5_113_3), some (.int v43), some (.int x7_171_4), some (.int v38)]) dX12_ahead_231 rfl rfl rfl ?_
                              refine E_iinc (ls' := [some (.ref 0), some (.int a0), some (.int a1), some (.int 1), some (.int x4_104_2), some (.int x5_113_3), some (.int v43), some (.int (x7_171_4 + 1)), some (.int v38)]) 1 dX12_ahead_233 rfl ic_1 rfl rfl rfl ?_
                              refine E_goto 171 dX12_ahead_236 (by decide) ?_
                              obtain rfl := Option.some.inj hf
                              refine E.fewer (ls' := [some (.ref 0), some (.int a0), some (.int a1), some (.int 1), some (.int x4_104_2), some (.int x5_113_3), some (.int v43), some (.int (x7_171_4 + 1)), none]) ⟨Or.inr rfl, ⟨Or.inr rfl, ⟨Or.inr rfl, ⟨Or.inr rfl, ⟨Or.inr rfl, ⟨Or.inr rfl, ⟨Or.inr rfl, ⟨Or.inr rfl, ⟨Or.inl rfl, trivial⟩⟩⟩⟩⟩⟩⟩⟩⟩ ?_
                              exact k9
                            · rw [if_neg hc42] at hf
                              refine E_iload (v := v38) dX12_ahead_217 rfl ?_
                              refine E_goto 229 dX12_ahead_219 (by decide) ?_
                              refine E_imul dX12_ahead_229 ?_
                              refine E_iadd dX12_ahead_230 ?_
                              refine E_istore (ls' := [some (.ref 0), some (.int a0), some (.int a1), some (.int 1), some (.int x4_104_2), some (.int x5_113_3), some (.int (x6_171_4 + (r40 * v38))), some (.int x7_171_4), some (.int v38)]) dX12_ahead_231 rfl rfl rfl ?_
                              refine E_iinc (ls' := [some (.ref 0), some (.int a0), some (.int a1), some (.int 1), some (.int x4_104_2), some (.int x5_113_3), some (.int (x6_171_4 + (r40 * v38))), some (.int (x7_171_4 + 1)), some (.int v38)]) 1 dX12_ahead_233 rfl ic_1 rfl rfl rfl ?_
                              refine E_goto 171 dX12_ahead_236 (by decide) ?_
                              obtain rfl := Option.some.inj hf
                              refine E.fewer (ls' := [some (.ref 0), some (.int a0), some (.int a1), some (.int 1), some (.int x4_104_2), some (.int x5_113_3), some (.int (x6_171_4 + (r40 * v38))), some (.int (x7_171_4 + 1)), none]) ⟨Or.inr rfl, ⟨Or.inr rfl, ⟨Or.inr rfl, ⟨Or.inr rfl, ⟨Or.inr rfl, ⟨Or.inr rfl, ⟨Or.inr rfl, ⟨Or.inr rfl, ⟨Or.inl rfl, trivial⟩⟩⟩⟩⟩⟩⟩⟩⟩ ?_
                              exact k9
                        · skip
                          obtain ⟨y45, hq9⟩ : ∃ a, a = q := ⟨_, rfl⟩
                          subst hq9
                          try dsimp only at hf
                          show E PM RX12 cX12_ahead 9 7 239 [some (.ref 0), some (.int a0), some (.int a1), some (.int 1), some (.int x4_104_2), some (.int x5_113_3), some (.int y45), none, none] [] w26 Q
                          refine E_aload_n (v := 0) dX12_ahead_239 rfl ?_
                          refine E_getR fg_RX12_62 dX12_ahead_240 sM_0 rfl rM_0_35 (Nat.succ_ne_zero _) ?_
                          refine E_iload (v := x5_113_3) dX12_ahead_243 rfl ?_
                          refine E_iload (v := y45) dX12_ahead_245 rfl ?_
                          obtain ⟨w46, ew46, hf⟩ := lw_some hf
                          try dsimp only at hf
                          refine E_iast (n := 64) dX12_ahead_247 sM_17 (by decide) (inb_in hi25) ?_
                          rw [← ew46]
                          refine E_iinc (ls' := [some (.ref 0), some (.int a0), some (.int a1), some (.int 1), some (.int x4_104_2), some (.int (x5_113_3 + 1)), some (.int y45), none, none]) 1 dX12_ahead_248 rfl ic_1 rfl rfl rfl ?_
                          refine E_goto 113 dX12_ahead_251 (by decide) ?_
                          obtain rfl := Option.some.inj hf
                          refine E.fewer (ls' := [some (.ref 0), some (.int a0), some (.int a1), some (.int 1), some (.int x4_104_2), some (.int (x5_113_3 + 1)), none, none, none]) ⟨Or.inr rfl, ⟨Or.inr rfl, ⟨Or.inr rfl, ⟨Or.inr rfl, ⟨Or.inr rfl, ⟨Or.inr rfl, ⟨Or.inl rfl, ⟨Or.inl rfl, ⟨Or.inl rfl, trivial⟩⟩⟩⟩⟩⟩⟩⟩⟩ ?_
                          exact k9
                      · rw [if_neg hc32] at hf
                        refine E_goto 248 dX12_ahead_149 (by decide) ?_
                        refine E_iinc (ls' := [some (.ref 0), some (.int a0), some (.int a1), some (.int 1), some (.int x4_104_2), some (.int (x5_113_3 + 1)), none, none, none]) 1 dX12_ahead_248 rfl ic_1 rfl rfl rfl ?_
                        refine E_goto 113 dX12_ahead_251 (by decide) ?_
                        obtain rfl := Option.some.inj hf
                        exact k9
                · skip
                  obtain ⟨w48, hq9⟩ : ∃ a, a = q := ⟨_, rfl⟩
                  subst hq9
                  try dsimp only at hf
                  show E PM RX12 cX12_ahead 9 7 254 [some (.ref 0), some (.int a0), some (.int a1), some (.int 1), some (.int x4_104_2), none, none, none, none] [] w48 Q
                  refine E_iconst 0 dX12_ahead_254 ic_0 ?_
                  refine E_istore (ls' := [some (.ref 0), some (.int a0), some (.int a1), some (.int 1), some (.int x4_104_2), some (.int 0), none, none, none]) dX12_ahead_255 rfl rfl rfl ?_
                  obtain ⟨q, hw52, hf⟩ := bd_some hf
                  try dsimp only at hf
                  show (fun (s : Int32 × AW) => E PM RX12 cX12_ahead 9 7 257 [some (.ref 0), some (.int a0), some (.int a1), some (.int 1), some (.int x4_104_2), some (.int s.1), none, none, none] [] s.2 Q) (0, w48)
                  refine wh_E (K := (fun (s : Int32 × AW) => E PM RX12 cX12_ahead 9 7 257 [some (.ref 0), some (.int a0), some (.int a1), some (.int 1), some (.int x4_104_2), some (.int s.1), none, none, none] [] s.2 Q)) (X := (fun (s : AW) => E PM RX12 cX12_ahead 9 7 283 [some (.ref 0), some (.int a0), some (.int a1), some (.int 1), some (.int x4_104_2), none, none, none, none] [] s Q)) ?_ hw52 ?_
                  · intro s9 z9 hf k9
                    obtain ⟨x5_257_5, w_257_5⟩ := s9
                    dsimp only [lbX12_ahead_257_5] at hf
                    show E PM RX12 cX12_ahead 9 7 257 [some (.ref 0), some (.int a0), some (.int a1), some (.int 1), some (.int x4_104_2), some (.int x5_257_5), none, none, none] [] w_257_5 Q
                    refine E_iload (v := x5_257_5) dX12_ahead_257 rfl ?_
                    refine E_iload_n (v := 1) dX12_ahead_259 rfl ?_
                    refine E_icmp_ge 283 dX12_ahead_260 (by decide) (fun hc49 => ?_) (fun hc49 => ?_)
                    · rw [if_pos hc49] at hf
                      obtain rfl := Option.some.inj hf
                      refine E.fewer (ls' := [some (.ref 0), some (.int a0), some (.int a1), some (.int 1), some (.int x4_104_2), none, none, none, none]) ⟨Or.inr rfl, ⟨Or.inr rfl, ⟨Or.inr rfl, ⟨Or.inr rfl, ⟨Or.inr rfl, ⟨Or.inl rfl, ⟨Or.inl rfl, ⟨Or.inl rfl, ⟨Or.inl rfl, trivial⟩⟩⟩⟩⟩⟩⟩⟩⟩ ?_
                      exact k9
                    · rw [if_neg hc49] at hf
                      refine E_aload_n (v := 0) dX12_ahead_263 rfl ?_
                      refine E_getR fg_RX12_59 dX12_ahead_264 sM_0 rfl rM_0_34 (Nat.succ_ne_zero _) ?_
                      refine E_iload (v := x5_257_5) dX12_ahead_267 rfl ?_
                      refine E_aload_n (v := 0) dX12_ahead_269 rfl ?_
                      refine E_getR fg_RX12_62 dX12_ahead_270 sM_0 rfl rM_0_35 (Nat.succ_ne_zero _) ?_
                      refine E_iload (v := x5_257_5) dX12_ahead_273 rfl ?_
                      obtain ⟨hi50, hf⟩ := gd_some hf
                      refine E_iald (n := 64) dX12_ahead_275 sM_17 (by decide) (inb_in hi50) ?_
                      obtain ⟨w51, ew51, hf⟩ := lw_some hf
                      try dsimp only at hf
                      refine E_iast (n := 64) dX12_ahead_276 sM_16 (by decide) (inb_in hi50) ?_
                      rw [← ew51]
                      refine E_iinc (ls' := [some (.ref 0), some (.int a0), some (.int a1), some (.int 1), some (.int x4_104_2), some (.int (x5_257_5 + 1)), none, none, none]) 1 dX12_ahead_277 rfl ic_1 rfl rfl rfl ?_
                      refine E_goto 257 dX12_ahead_280 (by decide) ?_
                      obtain rfl := Option.some.inj hf
                      exact k9
                  · skip
                    obtain ⟨w53, hq9⟩ : ∃ a, a = q := ⟨_, rfl⟩
                    subst hq9
                    try dsimp only at hf
                    show E PM RX12 cX12_ahead 9 7 283 [some (.ref 0), some (.int a0), some (.int a1), some (.int 1), some (.int x4_104_2), none, none, none, none] [] w53 Q
                    refine E_iinc (ls' := [some (.ref 0), some (.int a0), some (.int a1), some (.int 1), some (.int (x4_104_2 + 1)), none, none, none, none]) 1 dX12_ahead_283 rfl ic_1 rfl rfl rfl ?_
                    refine E_goto 104 dX12_ahead_286 (by decide) ?_
                    obtain rfl := Option.some.inj hf
                    exact k9
            · skip
              obtain ⟨w55, hq9⟩ : ∃ a, a = q := ⟨_, rfl⟩
              subst hq9
              try dsimp only at hf
              show E PM RX12 cX12_ahead 9 7 289 [some (.ref 0), some (.int a0), some (.int a1), none, none, none, none, none, none] [] w55 Q
              refine E_aload_n (v := 0) dX12_ahead_289 rfl ?_
              refine E_aload_n (v := 0) dX12_ahead_290 rfl ?_
              refine E_getR fg_RX12_59 dX12_ahead_291 sM_0 rfl rM_0_34 (Nat.succ_ne_zero _) ?_
              refine E_iconst 0 dX12_ahead_294 ic_0 ?_
              refine E_iald (n := 64) dX12_ahead_295 sM_16 (by decide) (inb_in (by decide)) ?_
              refine E_iconst 1 dX12_ahead_296 ic_1 ?_
              refine E_iconst 2 dX12_ahead_297 ic_2 ?_
              refine E_iload_n (v := a0) dX12_ahead_298 rfl ?_
              refine E_imul dX12_ahead_299 ?_
              refine E_ishl dX12_ahead_300 ?_
              obtain ⟨w57, hc56, hf⟩ := bd_some hf
              try dsimp only at hf
              refine E_callVv (rest := []) (ci := 12) cv_RX12_321 dX12_ahead_301 (MX12_lowest hc56) rfl sM_0 rfl (by decide) rfl rfl (fun _ => Nat.le_of_ble_eq_true rfl) ?_
              refine E_iload_n (v := a1) dX12_ahead_304 rfl ?_
              refine E_if_ne 315 dX12_ahead_305 (by decide) (fun hc58 => ?_) (fun hc58 => ?_)
              · rw [if_pos hc58] at hf
                refine E_aload_n (v := 0) dX12_ahead_308 rfl ?_
                refine E_getI fg_RX12_306 dX12_ahead_309 sM_0 rfl ?_
                refine E_goto 319 dX12_ahead_312 (by decide) ?_
                obtain ⟨rfl, rfl⟩ := ret2 hf
                exact E.done (by rw [eQ]; exact ⟨rfl, Or.inl ⟨_, _, rfl, rfl, dX12_ahead_319, rfl, rfl⟩⟩)
              · rw [if_neg hc58] at hf
                refine E_aload_n (v := 0) dX12_ahead_315 rfl ?_
                refine E_getI fg_RX12_309 dX12_ahead_316 sM_0 rfl ?_
                obtain ⟨rfl, rfl⟩ := ret2 hf
                exact E.done (by rw [eQ]; exact ⟨rfl, Or.inl ⟨_, _, rfl, rfl, dX12_ahead_319, rfl, rfl⟩⟩)
        · rw [if_neg hc8] at hf
          refine E_iload_n (v := a0) dX12_ahead_38 rfl ?_
          refine E_iconst 1 dX12_ahead_39 ic_1 ?_
          refine E_icmp_ne 47 dX12_ahead_40 (by decide) (fun hc59 => ?_) (fun hc59 => ?_)
          · rw [if_pos hc59] at hf
            refine E_iconst 4 dX12_ahead_43 ic_4 ?_
            refine E_goto 59 dX12_ahead_44 (by decide) ?_
            refine E_istore_n (ls' := [some (.ref 0), some (.int a0), some (.int a1), some (.int 4), none, none, none, none, none]) dX12_ahead_59 rfl rfl rfl ?_
            refine E_iconst 0 dX12_ahead_60 ic_0 ?_
            refine E_istore (ls' := [some (.ref 0), some (.int a0), some (.int a1), some (.int 4), some (.int 0), none, none, none, none]) dX12_ahead_61 rfl rfl rfl ?_
            obtain ⟨q, hw72, hf⟩ := bd_some hf
            try dsimp only at hf
            show (fun (s : Int32 × AW) => E PM RX12 cX12_ahead 9 7 63 [some (.ref 0), some (.int a0), some (.int a1), some (.int 4), some (.int s.1), none, none, none, none] [] s.2 Q) (0, w)
            refine wh_E (K := (fun (s : Int32 × AW) => E PM RX12 cX12_ahead 9 7 63 [some (.ref 0), some (.int a0), some (.int a1), some (.int 4), some (.int s.1), none, none, none, none] [] s.2 Q)) (X := (fun (s : AW) => E PM RX12 cX12_ahead 9 7 101 [some (.ref 0), some (.int a0), some (.int a1), some (.int 4), none, none, none, none, none] [] s Q)) ?_ hw72 ?_
            · intro s9 z9 hf k9
              obtain ⟨x4_63_6, w_63_6⟩ := s9
              dsimp only [lbX12_ahead_63_6] at hf
              show E PM RX12 cX12_ahead 9 7 63 [some (.ref 0), some (.int a0), some (.int a1), some (.int 4), some (.int x4_63_6), none, none, none, none] [] w_63_6 Q
              refine E_iload (v := x4_63_6) dX12_ahead_63 rfl ?_
              refine E_iload_n (v := 4) dX12_ahead_65 rfl ?_
              refine E_icmp_ge 101 dX12_ahead_66 (by decide) (fun hc60 => ?_) (fun hc60 => ?_)
              · rw [if_pos hc60] at hf
                obtain rfl := Option.some.inj hf
                refine E.fewer (ls' := [some (.ref 0), some (.int a0), some (.int a1), some (.int 4), none, none, none, none, none]) ⟨Or.inr rfl, ⟨Or.inr rfl, ⟨Or.inr rfl, ⟨Or.inr rfl, ⟨Or.inl rfl, ⟨Or.inl rfl, ⟨Or.inl rfl, ⟨Or.inl rfl, ⟨Or.inl rfl, trivial⟩⟩⟩⟩⟩⟩⟩⟩⟩ ?_
                exact k9
              · rw [if_neg hc60] at hf
                refine E_aload_n (v := 0) dX12_ahead_69 rfl ?_
                refine E_getR fg_RX12_59 dX12_ahead_70 sM_0 rfl rM_0_34 (Nat.succ_ne_zero _) ?_
                refine E_iload (v := x4_63_6) dX12_ahead_73 rfl ?_
                refine E_aload_n (v := 0) dX12_ahead_75 rfl ?_
                refine E_iload (v := x4_63_6) dX12_ahead_76 rfl ?_
                obtain ⟨r62, hc61, hf⟩ := bd_some hf
                try dsimp only at hf
                refine E_callVi (rest := [.int x4_63_6, .ref 16]) (ci := 12) cv_RX12_333 dX12_ahead_78 (MX12_isTaken hc61) rfl sM_0 rfl (by decide) rfl rfl (fun _ => Nat.le_of_ble_eq_true rfl) ?_
                refine E_if_eq 93 dX12_ahead_81 (by decide) (fun hc63 => ?_) (fun hc63 => ?_)
                · rw [if_pos hc63] at hf
                  refine E_iconst 0 dX12_ahead_93 ic_0 ?_
                  obtain ⟨hi64, hf⟩ := gd_some hf
                  obtain ⟨w65, ew65, hf⟩ := lw_some hf
                  try dsimp only at hf
                  refine E_iast (n := 64) dX12_ahead_94 sM_16 (by decide) (inb_in hi64) ?_
                  rw [← ew65]
                  refine E_iinc (ls' := [some (.ref 0), some (.int a0), some (.int a1), some (.int 4), some (.int (x4_63_6 + 1)), none, none, none, none]) 1 dX12_ahead_95 rfl ic_1 rfl rfl rfl ?_
                  refine E_goto 63 dX12_ahead_98 (by decide) ?_
                  obtain rfl := Option.some.inj hf
                  exact k9
                · rw [if_neg hc63] at hf
                  refine E_aload_n (v := 0) dX12_ahead_84 rfl ?_
                  refine E_iload (v := x4_63_6) dX12_ahead_85 rfl ?_
                  obtain ⟨r67, w68, hc66, hf⟩ := bd2_some hf
                  try dsimp only at hf
                  refine E_callVi (rest := [.int x4_63_6, .ref 16]) (ci := 12) cv_RX12_336 dX12_ahead_87 (MX12_worthWith hc66) rfl sM_0 rfl (by decide) rfl rfl (fun _ => Nat.le_of_ble_eq_true rfl) ?_
                  refine E_goto 94 dX12_ahead_90 (by decide) ?_
                  obtain ⟨hi70, hf⟩ := gd_some hf
                  obtain ⟨w71, ew71, hf⟩ := lw_some hf
                  try dsimp only at hf
                  refine E_iast (n := 64) dX12_ahead_94 sM_16 (by decide) (inb_in hi70) ?_
                  rw [← ew71]
                  refine E_iinc (ls' := [some (.ref 0), some (.int a0), some (.int a1), some (.int 4), some (.int (x4_63_6 + 1)), none, none, none, none]) 1 dX12_ahead_95 rfl ic_1 rfl rfl rfl ?_
                  refine E_goto 63 dX12_ahead_98 (by decide) ?_
                  obtain rfl := Option.some.inj hf
                  exact k9
            · skip
              obtain ⟨w73, hq9⟩ : ∃ a, a = q := ⟨_, rfl⟩
              subst hq9
              try dsimp only at hf
              show E PM RX12 cX12_ahead 9 7 101 [some (.ref 0), some (.int a0), some (.int a1), some (.int 4), none, none, none, none, none] [] w73 Q
              refine E_iconst 1 dX12_ahead_101 ic_1 ?_
              refine E_istore (ls' := [some (.ref 0), some (.int a0), some (.int a1), some (.int 4), some (.int 1), none, none, none, none]) dX12_ahead_102 rfl rfl rfl ?_
              obtain ⟨q, hw105, hf⟩ := bd_some hf
              try dsimp only at hf
              show (fun (s : Int32 × AW) => E PM RX12 cX12_ahead 9 7 104 [some (.ref 0), some (.int a0), some (.int a1), some (.int 4), some (.int s.1), none, none, none, none] [] s.2 Q) (1, w73)
              refine wh_E (K := (fun (s : Int32 × AW) => E PM RX12 cX12_ahead 9 7 104 [some (.ref 0), some (.int a0), some (.int a1), some (.int 4), some (.int s.1), none, none, none, none] [] s.2 Q)) (X := (fun (s : AW) => E PM RX12 cX12_ahead 9 7 289 [some (.ref 0), some (.int a0), some (.int a1), none, none, none, none, none, none] [] s Q)) ?_ hw105 ?_
              · intro s9 z9 hf k9
                obtain ⟨x4_104_7, w_104_7⟩ := s9
                dsimp only [lbX12_ahead_104_7] at hf
                show E PM RX12 cX12_ahead 9 7 104 [some (.ref 0), some (.int a0), some (.int a1), some (.int 4), some (.int x4_104_7), none, none, none, none] [] w_104_7 Q
                refine E_iload (v := x4_104_7) dX12_ahead_104 rfl ?_
                refine E_iload_n (v := a0) dX12_ahead_106 rfl ?_
                refine E_icmp_gt 289 dX12_ahead_107 (by decide) (fun hc74 => ?_) (fun hc74 => ?_)
                · rw [if_pos hc74] at hf
                  obtain rfl := Option.some.inj hf
                  refine E.fewer (ls' := [some (.ref 0), some (.int a0), some (.int a1), none, none, none, none, none, none]) ⟨Or.inr rfl, ⟨Or.inr rfl, ⟨Or.inr rfl, ⟨Or.inl rfl, ⟨Or.inl rfl, ⟨Or.inl rfl, ⟨Or.inl rfl, ⟨Or.inl rfl, ⟨Or.inl rfl, trivial⟩⟩⟩⟩⟩⟩⟩⟩⟩ ?_
                  exact k9
                · rw [if_neg hc74] at hf
                  refine E_iconst 0 dX12_ahead_110 ic_0 ?_
                  refine E_istore (ls' := [some (.ref 0), some (.int a0), some (.int a1), some (.int 4), some (.int x4_104_7), some (.int 0), none, none, none]) dX12_ahead_111 rfl rfl rfl ?_
                  obtain ⟨q, hw98, hf⟩ := bd_some hf
                  try dsimp only at hf
                  show (fun (s : Int32 × AW) => E PM RX12 cX12_ahead 9 7 113 [some (.ref 0), some (.int a0), some (.int a1), some (.int 4), some (.int x4_104_7), some (.int s.1), none, none, none] [] s.2 Q) (0, w_104_7)
                  refine wh_E (K := (fun (s : Int32 × AW) => E PM RX12 cX12_ahead 9 7 113 [some (.ref 0), some (.int a0), some (.int a1), some (.int 4), some (.int x4_104_7), some (.int s.1), none, none, none] [] s.2 Q)) (X := (fun (s : AW) => E PM RX12 cX12_ahead 9 7 254 [some (.ref 0), some (.int a0), some (.int a1), some (.int 4), some (.int x4_104_7), none, none, none, none] [] s Q)) ?_ hw98 ?_
                  · intro s9 z9 hf k9
                    obtain ⟨x5_113_8, w_113_8⟩ := s9
                    dsimp only [lbX12_ahead_113_8] at hf
                    show E PM RX12 cX12_ahead 9 7 113 [some (.ref 0), some (.int a0), some (.int a1), some (.int 4), some (.int x4_104_7), some (.int x5_113_8), none, none, none] [] w_113_8 Q
                    refine E_iload (v := x5_113_8) dX12_ahead_113 rfl ?_
                    refine E_iload_n (v := 4) dX12_ahead_115 rfl ?_
                    refine E_icmp_ge 254 dX12_ahead_116 (by decide) (fun hc75 => ?_) (fun hc75 => ?_)
                    · rw [if_pos hc75] at hf
                      obtain rfl := Option.some.inj hf
                      refine E.fewer (ls' := [some (.ref 0), some (.int a0), some (.int a1), some (.int 4), some (.int x4_104_7), none, none, none, none]) ⟨Or.inr rfl, ⟨Or.inr rfl, ⟨Or.inr rfl, ⟨Or.inr rfl, ⟨Or.inr rfl, ⟨Or.inl rfl, ⟨Or.inl rfl, ⟨Or.inl rfl, ⟨Or.inl rfl, trivial⟩⟩⟩⟩⟩⟩⟩⟩⟩ ?_
                      exact k9
                    · rw [if_neg hc75] at hf
                      refine E_aload_n (v := 0) dX12_ahead_119 rfl ?_
                      refine E_getR fg_RX12_62 dX12_ahead_120 sM_0 rfl rM_0_35 (Nat.succ_ne_zero _) ?_
                      refine E_iload (v := x5_113_8) dX12_ahead_123 rfl ?_
                      refine E_iconst 0 dX12_ahead_125 ic_0 ?_
                      obtain ⟨hi76, hf⟩ := gd_some hf
                      obtain ⟨w77, ew77, hf⟩ := lw_some hf
                      try dsimp only at hf
                      refine E_iast (n := 64) dX12_ahead_126 sM_17 (by decide) (inb_in hi76) ?_
                      rw [← ew77]
                      refine E_aload_n (v := 0) dX12_ahead_127 rfl ?_
                      refine E_iload (v := x5_113_8) dX12_ahead_128 rfl ?_
                      obtain ⟨r79, hc78, hf⟩ := bd_some hf
                      try dsimp only at hf
                      refine E_callVi (rest := []) (ci := 12) cv_RX12_333 dX12_ahead_130 (MX12_isTaken hc78) rfl sM_0 rfl (by decide) rfl rfl (fun _ => Nat.le_of_ble_eq_true rfl) ?_
                      refine E_if_eq 248 dX12_ahead_133 (by decide) (fun hc80 => ?_) (fun hc80 => ?_)
                      · rw [if_pos hc80] at hf
                        refine E_iinc (ls' := [some (.ref 0), some (.int a0), some (.int a1), some (.int 4), some (.int x4_104_7), some (.int (x5_113_8 + 1)), none, none, none]) 1 dX12_ahead_248 rfl ic_1 rfl rfl rfl ?_
                        refine E_goto 113 dX12_ahead_251 (by decide) ?_
                        obtain rfl := Option.some.inj hf
                        exact k9
                      · rw [if_neg hc80] at hf
                        refine E_aload_n (v := 0) dX12_ahead_136 rfl ?_
                        refine E_iload (v := x5_113_8) dX12_ahead_137 rfl ?_
                        obtain ⟨r82, hc81, hf⟩ := bd_some hf
                        try dsimp only at hf
                        refine E_callVi (rest := []) (ci := 12) cv_RX12_339 dX12_ahead_139 (MX12_takenMany hc81) rfl sM_0 rfl (by decide) rfl rfl (fun _ => Nat.le_of_ble_eq_true rfl) ?_
                        refine E_iload_n (v := a0) dX12_ahead_142 rfl ?_
                        refine E_iload (v := x4_104_7) dX12_ahead_143 rfl ?_
                        refine E_isub dX12_ahead_145 ?_
                        refine E_icmp_le 152 dX12_ahead_146 (by decide) (fun hc83 => ?_) (fun hc83 => ?_)
                        · rw [if_pos hc83] at hf
                          refine E_iconst 4 dX12_ahead_152 ic_4 ?_
                          refine E_aload_n (v := 0) dX12_ahead_153 rfl ?_
                          obtain ⟨r85, hc84, hf⟩ := bd_some hf
                          try dsimp only at hf
                          refine E_callVi (rest := [.int 4]) (ci := 12) cv_RX12_330 dX12_ahead_154 (MX12_oddsOfTypes hc84) rfl sM_0 rfl (by decide) rfl rfl (fun _ => Nat.le_of_ble_eq_true rfl) ?_
                          refine E_isub dX12_ahead_157 ?_
                          refine E_aload_n (v := 0) dX12_ahead_158 rfl ?_
                          refine E_getR fg_RX12_59 dX12_ahead_159 sM_0 rfl rM_0_34 (Nat.succ_ne_zero _) ?_
                          refine E_iload (v := x5_113_8) dX12_ahead_162 rfl ?_
                          refine E_iald (n := 64) dX12_ahead_164 sM_16 (by decide) (inb_in hi76) ?_
                          refine E_imul dX12_ahead_165 ?_
                          obtain ⟨v86, ev86, hf⟩ := lw_some hf
                          try dsimp only at hf
                          rw [← ev86]
                          refine E_istore (ls' := [some (.ref 0), some (.int a0), some (.int a1), some (.int 4), some (.int x4_104_7), some (.int x5_113_8), some (.int v86), none, none]) dX12_ahead_166 rfl rfl rfl ?_
                          refine E_iconst 0 dX12_ahead_168 ic_0 ?_
                          refine E_istore (ls' := [some (.ref 0), some (.int a0), some (.int a1), some (.int 4), some (.int x4_104_7), some (.int x5_113_8), some (.int v86), some (.int 0), none]) dX12_ahead_169 rfl rfl rfl ?_
                          obtain ⟨q, hw95, hf⟩ := bd_some hf
                          try dsimp only at hf
                          show (fun (s : Int32 × Int32) => E PM RX12 cX12_ahead 9 7 171 [some (.ref 0), some (.int a0), some (.int a1), some (.int 4), some (.int x4_104_7), some (.int x5_113_8), some (.int s.1), some (.int s.2), none] [] w77 Q) (v86, 0)
                          refine wh_E (K := (fun (s : Int32 × Int32) => E PM RX12 cX12_ahead 9 7 171 [some (.ref 0), some (.int a0), some (.int a1), some (.int 4), some (.int x4_104_7), some (.int x5_113_8), some (.int s.1), some (.int s.2), none] [] w77 Q)) (X := (fun (s : Int32) => E PM RX12 cX12_ahead 9 7 239 [some (.ref 0), some (.int a0), some (.int a1), some (.int 4), some (.int x4_104_7), some (.int x5_113_8), some (.int s), none, none] [] w77 Q)) ?_ hw95 ?_
                          · intro s9 z9 hf k9
                            obtain ⟨x6_171_9, x7_171_9⟩ := s9
                            dsimp only [lbX12_ahead_171_9] at hf
                            show E PM RX12 cX12_ahead 9 7 171 [some (.ref 0), some (.int a0), some (.int a1), some (.int 4), some (.int x4_104_7), some (.int x5_113_8), some (.int x6_171_9), some (.int x7_171_9), none] [] w77 Q
                            refine E_iload (v := x7_171_9) dX12_ahead_171 rfl ?_
                            refine E_aload_n (v := 0) dX12_ahead_173 rfl ?_
                            refine E_getI fg_RX12_324 dX12_ahead_174 sM_0 rfl ?_
                            refine E_icmp_ge 239 dX12_ahead_177 (by decide) (fun hc87 => ?_) (fun hc87 => ?_)
                            · rw [if_pos hc87] at hf
                              obtain rfl := Option.some.inj hf
                              refine E.fewer (ls' := [some (.ref 0), some (.int a0), some (.int a1), some (.int 4), some (.int x4_104_7), some (.int x5_113_8), some (.int x6_171_9), none, none]) ⟨Or.inr rfl, ⟨Or.inr rfl, ⟨Or.inr rfl, ⟨Or.inr rfl, ⟨Or.inr rfl, ⟨Or.inr rfl, ⟨Or.inr rfl, ⟨Or.inl rfl, ⟨Or.inl rfl, trivial⟩⟩⟩⟩⟩⟩⟩⟩⟩ ?_
                              exact k9
                            · rw [if_neg hc87] at hf
                              refine E_aload_n (v := 0) dX12_ahead_180 rfl ?_
                              refine E_getR fg_RX12_59 dX12_ahead_181 sM_0 rfl rM_0_34 (Nat.succ_ne_zero _) ?_
                              refine E_iconst 4 dX12_ahead_184 ic_4 ?_
                              refine E_iload (v := x5_113_8) dX12_ahead_185 rfl ?_
                              refine E_imul dX12_ahead_187 ?_
                              refine E_iload (v := x7_171_9) dX12_ahead_188 rfl ?_
                              refine E_iadd dX12_ahead_190 ?_
                              refine E_iconst 1 dX12_ahead_191 ic_1 ?_
                              refine E_iadd dX12_ahead_192 ?_
                              obtain ⟨hi88, hf⟩ := gd_some hf
                              refine E_iald (n := 64) dX12_ahead_193 sM_16 (by decide) (inb_in hi88) ?_
                              obtain ⟨v89, ev89, hf⟩ := lw_some hf
                              try dsimp only at hf
                              rw [← ev89]
                              refine E_istore (ls' := [some (.ref 0), some (.int a0), some (.int a1), some (.int 4), some (.int x4_104_7), some (.int x5_113_8), some (.int x6_171_9), some (.int x7_171_9), some (.int v89)]) dX12_ahead_194 rfl rfl rfl ?_
                              refine E_iload (v := x6_171_9) dX12_ahead_196 rfl ?_
                              refine E_aload_n (v := 0) dX12_ahead_198 rfl ?_
                              refine E_iload (v := x7_171_9) dX12_ahead_199 rfl ?_
                              refine E_iconst 5 dX12_ahead_201 ic_5 ?_
                              obtain ⟨r91, hc90, hf⟩ := bd_some hf
                              try dsimp only at hf
                              refine E_callVi (rest := [.int x6_171_9]) (ci := 12) cv_RX12_327 dX12_ahead_202 (MX12_typeIts hc90) rfl sM_0 rfl (by decide) rfl rfl (fun _ => Nat.le_of_ble_eq_true rfl) ?_
                              refine E_iload (v := v89) dX12_ahead_205 rfl ?_
                              refine E_aload_n (v := 0) dX12_ahead_207 rfl ?_
                              refine E_getR fg_RX12_59 dX12_ahead_208 sM_0 rfl rM_0_34 (Nat.succ_ne_zero _) ?_
                              refine E_iload (v := x5_113_8) dX12_ahead_211 rfl ?_
                              obtain ⟨hi92, hf⟩ := gd_some hf
                              refine E_iald (n := 64) dX12_ahead_213 sM_16 (by decide) (inb_in hi92) ?_
                              refine E_icmp_le 222 dX12_ahead_214 (by decide) (fun hc93 => ?_) (fun hc93 => ?_)
                              · rw [if_pos hc93] at hf
                                refine E_aload_n (v := 0) dX12_ahead_222 rfl ?_
                                refine E_getR fg_RX12_59 dX12_ahead_223 sM_0 rfl rM_0_34 (Nat.succ_ne_zero _) ?_
                                refine E_iload (v := x5_113_8) dX12_ahead_226 rfl ?_
                                refine E_iald (n := 64) dX12_ahead_228 sM_16 (by decide) (inb_in hi92) ?_
                                refine E_imul dX12_ahead_229 ?_
                                refine E_iadd dX12_ahead_230 ?_
                                obtain ⟨v94, ev94, hf⟩ := lw_some hf
                                try dsimp only at hf
                                rw [← ev94]
                                refine E_istore (ls' := [some (.ref 0), some (.int a0), some (.int a1), some (.int 4), some (.int x4_104_7), some (.int x5_113_8), some (.int v94), some (.int x7_171_9), some (.int v89)]) dX12_ahead_231 rfl rfl rfl ?_
                                refine E_iinc (ls' := [some (.ref 0), some (.int a0), some (.int a1), some (.int 4), some (.int x4_104_7), some (.int x5_113_8), some (.int v94), some (.int (x7_171_9 + 1)), some (.int v89)]) 1 dX12_ahead_233 rfl ic_1 rfl rfl rfl ?_
                                refine E_goto 171 dX12_ahead_236 (by decide) ?_
                                obtain rfl := Option.some.inj hf
                                refine E.fewer (ls' := [some (.ref 0), some (.int a0), some (.int a1), some (.int 4), some (.int x4_104_7), some (.int x5_113_8), some (.int v94), some (.int (x7_171_9 + 1)), none]) ⟨Or.inr rfl, ⟨Or.inr rfl, ⟨Or.inr rfl, ⟨Or.inr rfl, ⟨Or.inr rfl, ⟨Or.inr rfl, ⟨Or.inr rfl, ⟨Or.inr rfl, ⟨Or.inl rfl, trivial⟩⟩⟩⟩⟩⟩⟩⟩⟩ ?_
                                exact k9
                              · rw [if_neg hc93] at hf
                                refine E_iload (v := v89) dX12_ahead_217 rfl ?_
                                refine E_goto 229 dX12_ahead_219 (by decide) ?_
                                refine E_imul dX12_ahead_229 ?_
                                refine E_iadd dX12_ahead_230 ?_
                                refine E_istore (ls' := [some (.ref 0), some (.int a0), some (.int a1), some (.int 4), some (.int x4_104_7), some (.int x5_113_8), some (.int (x6_171_9 + (r91 * v89))), some (.int x7_171_9), some (.int v89)]) dX12_ahead_231 rfl rfl rfl ?_
                                refine E_iinc (ls' := [some (.ref 0), some (.int a0), some (.int a1), some (.int 4), some (.int x4_104_7), some (.int x5_113_8), some (.int (x6_171_9 + (r91 * v89))), some (.int (x7_171_9 + 1)), some (.int v89)]) 1 dX12_ahead_233 rfl ic_1 rfl rfl rfl ?_
                                refine E_goto 171 dX12_ahead_236 (by decide) ?_
                                obtain rfl := Option.some.inj hf
                                refine E.fewer (ls' := [some (.ref 0), some (.int a0), some (.int a1), some (.int 4), some (.int x4_104_7), some (.int x5_113_8), some (.int (x6_171_9 + (r91 * v89))), some (.int (x7_171_9 + 1)), none]) ⟨Or.inr rfl, ⟨Or.inr rfl, ⟨Or.inr rfl, ⟨Or.inr rfl, ⟨Or.inr rfl, ⟨Or.inr rfl, ⟨Or.inr rfl, ⟨Or.inr rfl, ⟨Or.inl rfl, trivial⟩⟩⟩⟩⟩⟩⟩⟩⟩ ?_
                                exact k9
                          · skip
                            obtain ⟨y96, hq9⟩ : ∃ a, a = q := ⟨_, rfl⟩
                            subst hq9
                            try dsimp only at hf
                            show E PM RX12 cX12_ahead 9 7 239 [some (.ref 0), some (.int a0), some (.int a1), some (.int 4), some (.int x4_104_7), some (.int x5_113_8), some (.int y96), none, none] [] w77 Q
                            refine E_aload_n (v := 0) dX12_ahead_239 rfl ?_
                            refine E_getR fg_RX12_62 dX12_ahead_240 sM_0 rfl rM_0_35 (Nat.succ_ne_zero _) ?_
                            refine E_iload (v := x5_113_8) dX12_ahead_243 rfl ?_
                            refine E_iload (v := y96) dX12_ahead_245 rfl ?_
                            obtain ⟨w97, ew97, hf⟩ := lw_some hf
                            try dsimp only at hf
                            refine E_iast (n := 64) dX12_ahead_247 sM_17 (by decide) (inb_in hi76) ?_
                            rw [← ew97]
                            refine E_iinc (ls' := [some (.ref 0), some (.int a0), some (.int a1), some (.int 4), some (.int x4_104_7), some (.int (x5_113_8 + 1)), some (.int y96), none, none]) 1 dX12_ahead_248 rfl ic_1 rfl rfl rfl ?_
                            refine E_goto 113 dX12_ahead_251 (by decide) ?_
                            obtain rfl := Option.some.inj hf
                            refine E.fewer (ls' := [some (.ref 0), some (.int a0), some (.int a1), some (.int 4), some (.int x4_104_7), some (.int (x5_113_8 + 1)), none, none, none]) ⟨Or.inr rfl, ⟨Or.inr rfl, ⟨Or.inr rfl, ⟨Or.inr rfl, ⟨Or.inr rfl, ⟨Or.inr rfl, ⟨Or.inl rfl, ⟨Or.inl rfl, ⟨Or.inl rfl, trivial⟩⟩⟩⟩⟩⟩⟩⟩⟩ ?_
                            exact k9
                        · rw [if_neg hc83] at hf
                          refine E_goto 248 dX12_ahead_149 (by decide) ?_
                          refine E_iinc (ls' := [some (.ref 0), some (.int a0), some (.int a1), some (.int 4), some (.int x4_104_7), some (.int (x5_113_8 + 1)), none, none, none]) 1 dX12_ahead_248 rfl ic_1 rfl rfl rfl ?_
                          refine E_goto 113 dX12_ahead_251 (by decide) ?_
                          obtain rfl := Option.some.inj hf
                          exact k9
                  · skip
                    obtain ⟨w99, hq9⟩ : ∃ a, a = q := ⟨_, rfl⟩
                    subst hq9
                    try dsimp only at hf
                    show E PM RX12 cX12_ahead 9 7 254 [some (.ref 0), some (.int a0), some (.int a1), some (.int 4), some (.int x4_104_7), none, none, none, none] [] w99 Q
                    refine E_iconst 0 dX12_ahead_254 ic_0 ?_
                    refine E_istore (ls' := [some (.ref 0), some (.int a0), some (.int a1), some (.int 4), some (.int x4_104_7), some (.int 0), none, none, none]) dX12_ahead_255 rfl rfl rfl ?_
                    obtain ⟨q, hw103, hf⟩ := bd_some hf
                    try dsimp only at hf
                    show (fun (s : Int32 × AW) => E PM RX12 cX12_ahead 9 7 257 [some (.ref 0), some (.int a0), some (.int a1), some (.int 4), some (.int x4_104_7), some (.int s.1), none, none, none] [] s.2 Q) (0, w99)
                    refine wh_E (K := (fun (s : Int32 × AW) => E PM RX12 cX12_ahead 9 7 257 [some (.ref 0), some (.int a0), some (.int a1), some (.int 4), some (.int x4_104_7), some (.int s.1), none, none, none] [] s.2 Q)) (X := (fun (s : AW) => E PM RX12 cX12_ahead 9 7 283 [some (.ref 0), some (.int a0), some (.int a1), some (.int 4), some (.int x4_104_7), none, none, none, none] [] s Q)) ?_ hw103 ?_
                    · intro s9 z9 hf k9
                      obtain ⟨x5_257_10, w_257_10⟩ := s9
                      dsimp only [lbX12_ahead_257_10] at hf
                      show E PM RX12 cX12_ahead 9 7 257 [some (.ref 0), some (.int a0), some (.int a1), some (.int 4), some (.int x4_104_7), some (.int x5_257_10), none, none, none] [] w_257_10 Q
                      refine E_iload (v := x5_257_10) dX12_ahead_257 rfl ?_
                      refine E_iload_n (v := 4) dX12_ahead_259 rfl ?_
                      refine E_icmp_ge 283 dX12_ahead_260 (by decide) (fun hc100 => ?_) (fun hc100 => ?_)
                      · rw [if_pos hc100] at hf
                        obtain rfl := Option.some.inj hf
                        refine E.fewer (ls' := [some (.ref 0), some (.int a0), some (.int a1), some (.int 4), some (.int x4_104_7), none, none, none, none]) ⟨Or.inr rfl, ⟨Or.inr rfl, ⟨Or.inr rfl, ⟨Or.inr rfl, ⟨Or.inr rfl, ⟨Or.inl rfl, ⟨Or.inl rfl, ⟨Or.inl rfl, ⟨Or.inl rfl, trivial⟩⟩⟩⟩⟩⟩⟩⟩⟩ ?_
                        exact k9
                      · rw [if_neg hc100] at hf
                        refine E_aload_n (v := 0) dX12_ahead_263 rfl ?_
                        refine E_getR fg_RX12_59 dX12_ahead_264 sM_0 rfl rM_0_34 (Nat.succ_ne_zero _) ?_
                        refine E_iload (v := x5_257_10) dX12_ahead_267 rfl ?_
                        refine E_aload_n (v := 0) dX12_ahead_269 rfl ?_
                        refine E_getR fg_RX12_62 dX12_ahead_270 sM_0 rfl rM_0_35 (Nat.succ_ne_zero _) ?_
                        refine E_iload (v := x5_257_10) dX12_ahead_273 rfl ?_
                        obtain ⟨hi101, hf⟩ := gd_some hf
                        refine E_iald (n := 64) dX12_ahead_275 sM_17 (by decide) (inb_in hi101) ?_
                        obtain ⟨w102, ew102, hf⟩ := lw_some hf
                        try dsimp only at hf
                        refine E_iast (n := 64) dX12_ahead_276 sM_16 (by decide) (inb_in hi101) ?_
                        rw [← ew102]
                        refine E_iinc (ls' := [some (.ref 0), some (.int a0), some (.int a1), some (.int 4), some (.int x4_104_7), some (.int (x5_257_10 + 1)), none, none, none]) 1 dX12_ahead_277 rfl ic_1 rfl rfl rfl ?_
                        refine E_goto 257 dX12_ahead_280 (by decide) ?_
                        obtain rfl := Option.some.inj hf
                        exact k9
                    · skip
                      obtain ⟨w104, hq9⟩ : ∃ a, a = q := ⟨_, rfl⟩
                      subst hq9
                      try dsimp only at hf
                      show E PM RX12 cX12_ahead 9 7 283 [some (.ref 0), some (.int a0), some (.int a1), some (.int 4), some (.int x4_104_7), none, none, none, none] [] w104 Q
                      refine E_iinc (ls' := [some (.ref 0), some (.int a0), some (.int a1), some (.int 4), some (.int (x4_104_7 + 1)), none, none, none, none]) 1 dX12_ahead_283 rfl ic_1 rfl rfl rfl ?_
                      refine E_goto 104 dX12_ahead_286 (by decide) ?_
                      obtain rfl := Option.some.inj hf
                      exact k9
              · skip
                obtain ⟨w106, hq9⟩ : ∃ a, a = q := ⟨_, rfl⟩
                subst hq9
                try dsimp only at hf
                show E PM RX12 cX12_ahead 9 7 289 [some (.ref 0), some (.int a0), some (.int a1), none, none, none, none, none, none] [] w106 Q
                refine E_aload_n (v := 0) dX12_ahead_289 rfl ?_
                refine E_aload_n (v := 0) dX12_ahead_290 rfl ?_
                refine E_getR fg_RX12_59 dX12_ahead_291 sM_0 rfl rM_0_34 (Nat.succ_ne_zero _) ?_
                refine E_iconst 0 dX12_ahead_294 ic_0 ?_
                refine E_iald (n := 64) dX12_ahead_295 sM_16 (by decide) (inb_in (by decide)) ?_
                refine E_iconst 1 dX12_ahead_296 ic_1 ?_
                refine E_iconst 2 dX12_ahead_297 ic_2 ?_
                refine E_iload_n (v := a0) dX12_ahead_298 rfl ?_
                refine E_imul dX12_ahead_299 ?_
                refine E_ishl dX12_ahead_300 ?_
                obtain ⟨w108, hc107, hf⟩ := bd_some hf
                try dsimp only at hf
                refine E_callVv (rest := []) (ci := 12) cv_RX12_321 dX12_ahead_301 (MX12_lowest hc107) rfl sM_0 rfl (by decide) rfl rfl (fun _ => Nat.le_of_ble_eq_true rfl) ?_
                refine E_iload_n (v := a1) dX12_ahead_304 rfl ?_
                refine E_if_ne 315 dX12_ahead_305 (by decide) (fun hc109 => ?_) (fun hc109 => ?_)
                · rw [if_pos hc109] at hf
                  refine E_aload_n (v := 0) dX12_ahead_308 rfl ?_
                  refine E_getI fg_RX12_306 dX12_ahead_309 sM_0 rfl ?_
                  refine E_goto 319 dX12_ahead_312 (by decide) ?_
                  obtain ⟨rfl, rfl⟩ := ret2 hf
                  exact E.done (by rw [eQ]; exact ⟨rfl, Or.inl ⟨_, _, rfl, rfl, dX12_ahead_319, rfl, rfl⟩⟩)
                · rw [if_neg hc109] at hf
                  refine E_aload_n (v := 0) dX12_ahead_315 rfl ?_
                  refine E_getI fg_RX12_309 dX12_ahead_316 sM_0 rfl ?_
                  obtain ⟨rfl, rfl⟩ := ret2 hf
                  exact E.done (by rw [eQ]; exact ⟨rfl, Or.inl ⟨_, _, rfl, rfl, dX12_ahead_319, rfl, rfl⟩⟩)
          · rw [if_neg hc59] at hf
            refine E_iload_n (v := a0) dX12_ahead_47 rfl ?_
            refine E_iconst 2 dX12_ahead_48 ic_2 ?_
            refine E_icmp_ne 57 dX12_ahead_49 (by decide) (fun hc110 => ?_) (fun hc110 => ?_)
            · rw [if_pos hc110] at hf
              refine E_bipush 16 dX12_ahead_52 bp_16 ?_
              refine E_goto 59 dX12_ahead_54 (by decide) ?_
              refine E_istore_n (ls' := [some (.ref 0), some (.int a0), some (.int a1), some (.int 16), none, none, none, none, none]) dX12_ahead_59 rfl rfl rfl ?_
              refine E_iconst 0 dX12_ahead_60 ic_0 ?_
              refine E_istore (ls' := [some (.ref 0), some (.int a0), some (.int a1), some (.int 16), some (.int 0), none, none, none, none]) dX12_ahead_61 rfl rfl rfl ?_
              obtain ⟨q, hw123, hf⟩ := bd_some hf
              try dsimp only at hf
              show (fun (s : Int32 × AW) => E PM RX12 cX12_ahead 9 7 63 [some (.ref 0), some (.int a0), some (.int a1), some (.int 16), some (.int s.1), none, none, none, none] [] s.2 Q) (0, w)
              refine wh_E (K := (fun (s : Int32 × AW) => E PM RX12 cX12_ahead 9 7 63 [some (.ref 0), some (.int a0), some (.int a1), some (.int 16), some (.int s.1), none, none, none, none] [] s.2 Q)) (X := (fun (s : AW) => E PM RX12 cX12_ahead 9 7 101 [some (.ref 0), some (.int a0), some (.int a1), some (.int 16), none, none, none, none, none] [] s Q)) ?_ hw123 ?_
              · intro s9 z9 hf k9
                obtain ⟨x4_63_11, w_63_11⟩ := s9
                dsimp only [lbX12_ahead_63_11] at hf
                show E PM RX12 cX12_ahead 9 7 63 [some (.ref 0), some (.int a0), some (.int a1), some (.int 16), some (.int x4_63_11), none, none, none, none] [] w_63_11 Q
                refine E_iload (v := x4_63_11) dX12_ahead_63 rfl ?_
                refine E_iload_n (v := 16) dX12_ahead_65 rfl ?_
                refine E_icmp_ge 101 dX12_ahead_66 (by decide) (fun hc111 => ?_) (fun hc111 => ?_)
                · rw [if_pos hc111] at hf
                  obtain rfl := Option.some.inj hf
                  refine E.fewer (ls' := [some (.ref 0), some (.int a0), some (.int a1), some (.int 16), none, none, none, none, none]) ⟨Or.inr rfl, ⟨Or.inr rfl, ⟨Or.inr rfl, ⟨Or.inr rfl, ⟨Or.inl rfl, ⟨Or.inl rfl, ⟨Or.inl rfl, ⟨Or.inl rfl, ⟨Or.inl rfl, trivial⟩⟩⟩⟩⟩⟩⟩⟩⟩ ?_
                  exact k9
                · rw [if_neg hc111] at hf
                  refine E_aload_n (v := 0) dX12_ahead_69 rfl ?_
                  refine E_getR fg_RX12_59 dX12_ahead_70 sM_0 rfl rM_0_34 (Nat.succ_ne_zero _) ?_
                  refine E_iload (v := x4_63_11) dX12_ahead_73 rfl ?_
                  refine E_aload_n (v := 0) dX12_ahead_75 rfl ?_
                  refine E_iload (v := x4_63_11) dX12_ahead_76 rfl ?_
                  obtain ⟨r113, hc112, hf⟩ := bd_some hf
                  try dsimp only at hf
                  refine E_callVi (rest := [.int x4_63_11, .ref 16]) (ci := 12) cv_RX12_333 dX12_ahead_78 (MX12_isTaken hc112) rfl sM_0 rfl (by decide) rfl rfl (fun _ => Nat.le_of_ble_eq_true rfl) ?_
                  refine E_if_eq 93 dX12_ahead_81 (by decide) (fun hc114 => ?_) (fun hc114 => ?_)
                  · rw [if_pos hc114] at hf
                    refine E_iconst 0 dX12_ahead_93 ic_0 ?_
                    obtain ⟨hi115, hf⟩ := gd_some hf
                    obtain ⟨w116, ew116, hf⟩ := lw_some hf
                    try dsimp only at hf
                    refine E_iast (n := 64) dX12_ahead_94 sM_16 (by decide) (inb_in hi115) ?_
                    rw [← ew116]
                    refine E_iinc (ls' := [some (.ref 0), some (.int a0), some (.int a1), some (.int 16), some (.int (x4_63_11 + 1)), none, none, none, none]) 1 dX12_ahead_95 rfl ic_1 rfl rfl rfl ?_
                    refine E_goto 63 dX12_ahead_98 (by decide) ?_
                    obtain rfl := Option.some.inj hf
                    exact k9
                  · rw [if_neg hc114] at hf
                    refine E_aload_n (v := 0) dX12_ahead_84 rfl ?_
                    refine E_iload (v := x4_63_11) dX12_ahead_85 rfl ?_
                    obtain ⟨r118, w119, hc117, hf⟩ := bd2_some hf
                    try dsimp only at hf
                    refine E_callVi (rest := [.int x4_63_11, .ref 16]) (ci := 12) cv_RX12_336 dX12_ahead_87 (MX12_worthWith hc117) rfl sM_0 rfl (by decide) rfl rfl (fun _ => Nat.le_of_ble_eq_true rfl) ?_
                    refine E_goto 94 dX12_ahead_90 (by decide) ?_
                    obtain ⟨hi121, hf⟩ := gd_some hf
                    obtain ⟨w122, ew122, hf⟩ := lw_some hf
                    try dsimp only at hf
                    refine E_iast (n := 64) dX12_ahead_94 sM_16 (by decide) (inb_in hi121) ?_
                    rw [← ew122]
                    refine E_iinc (ls' := [some (.ref 0), some (.int a0), some (.int a1), some (.int 16), some (.int (x4_63_11 + 1)), none, none, none, none]) 1 dX12_ahead_95 rfl ic_1 rfl rfl rfl ?_
                    refine E_goto 63 dX12_ahead_98 (by decide) ?_
                    obtain rfl := Option.some.inj hf
                    exact k9
              · skip
                obtain ⟨w124, hq9⟩ : ∃ a, a = q := ⟨_, rfl⟩
                subst hq9
                try dsimp only at hf
                show E PM RX12 cX12_ahead 9 7 101 [some (.ref 0), some (.int a0), some (.int a1), some (.int 16), none, none, none, none, none] [] w124 Q
                refine E_iconst 1 dX12_ahead_101 ic_1 ?_
                refine E_istore (ls' := [some (.ref 0), some (.int a0), some (.int a1), some (.int 16), some (.int 1), none, none, none, none]) dX12_ahead_102 rfl rfl rfl ?_
                obtain ⟨q, hw156, hf⟩ := bd_some hf
                try dsimp only at hf
                show (fun (s : Int32 × AW) => E PM RX12 cX12_ahead 9 7 104 [some (.ref 0), some (.int a0), some (.int a1), some (.int 16), some (.int s.1), none, none, none, none] [] s.2 Q) (1, w124)
                refine wh_E (K := (fun (s : Int32 × AW) => E PM RX12 cX12_ahead 9 7 104 [some (.ref 0), some (.int a0), some (.int a1), some (.int 16), some (.int s.1), none, none, none, none] [] s.2 Q)) (X := (fun (s : AW) => E PM RX12 cX12_ahead 9 7 289 [some (.ref 0), some (.int a0), some (.int a1), none, none, none, none, none, none] [] s Q)) ?_ hw156 ?_
                · intro s9 z9 hf k9
                  obtain ⟨x4_104_12, w_104_12⟩ := s9
                  dsimp only [lbX12_ahead_104_12] at hf
                  show E PM RX12 cX12_ahead 9 7 104 [some (.ref 0), some (.int a0), some (.int a1), some (.int 16), some (.int x4_104_12), none, none, none, none] [] w_104_12 Q
                  refine E_iload (v := x4_104_12) dX12_ahead_104 rfl ?_
                  refine E_iload_n (v := a0) dX12_ahead_106 rfl ?_
                  refine E_icmp_gt 289 dX12_ahead_107 (by decide) (fun hc125 => ?_) (fun hc125 => ?_)
                  · rw [if_pos hc125] at hf
                    obtain rfl := Option.some.inj hf
                    refine E.fewer (ls' := [some (.ref 0), some (.int a0), some (.int a1), none, none, none, none, none, none]) ⟨Or.inr rfl, ⟨Or.inr rfl, ⟨Or.inr rfl, ⟨Or.inl rfl, ⟨Or.inl rfl, ⟨Or.inl rfl, ⟨Or.inl rfl, ⟨Or.inl rfl, ⟨Or.inl rfl, trivial⟩⟩⟩⟩⟩⟩⟩⟩⟩ ?_
                    exact k9
                  · rw [if_neg hc125] at hf
                    refine E_iconst 0 dX12_ahead_110 ic_0 ?_
                    refine E_istore (ls' := [some (.ref 0), some (.int a0), some (.int a1), some (.int 16), some (.int x4_104_12), some (.int 0), none, none, none]) dX12_ahead_111 rfl rfl rfl ?_
                    obtain ⟨q, hw149, hf⟩ := bd_some hf
                    try dsimp only at hf
                    show (fun (s : Int32 × AW) => E PM RX12 cX12_ahead 9 7 113 [some (.ref 0), some (.int a0), some (.int a1), some (.int 16), some (.int x4_104_12), some (.int s.1), none, none, none] [] s.2 Q) (0, w_104_12)
                    refine wh_E (K := (fun (s : Int32 × AW) => E PM RX12 cX12_ahead 9 7 113 [some (.ref 0), some (.int a0), some (.int a1), some (.int 16), some (.int x4_104_12), some (.int s.1), none, none, none] [] s.2 Q)) (X := (fun (s : AW) => E PM RX12 cX12_ahead 9 7 254 [some (.ref 0), some (.int a0), some (.int a1), some (.int 16), some (.int x4_104_12), none, none, none, none] [] s Q)) ?_ hw149 ?_
                    · intro s9 z9 hf k9
                      obtain ⟨x5_113_13, w_113_13⟩ := s9
                      dsimp only [lbX12_ahead_113_13] at hf
                      show E PM RX12 cX12_ahead 9 7 113 [some (.ref 0), some (.int a0), some (.int a1), some (.int 16), some (.int x4_104_12), some (.int x5_113_13), none, none, none] [] w_113_13 Q
                      refine E_iload (v := x5_113_13) dX12_ahead_113 rfl ?_
                      refine E_iload_n (v := 16) dX12_ahead_115 rfl ?_
                      refine E_icmp_ge 254 dX12_ahead_116 (by decide) (fun hc126 => ?_) (fun hc126 => ?_)
                      · rw [if_pos hc126] at hf
                        obtain rfl := Option.some.inj hf
                        refine E.fewer (ls' := [some (.ref 0), some (.int a0), some (.int a1), some (.int 16), some (.int x4_104_12), none, none, none, none]) ⟨Or.inr rfl, ⟨Or.inr rfl, ⟨Or.inr rfl, ⟨Or.inr rfl, ⟨Or.inr rfl, ⟨Or.inl rfl, ⟨Or.inl rfl, ⟨Or.inl rfl, ⟨Or.inl rfl, trivial⟩⟩⟩⟩⟩⟩⟩⟩⟩ ?_
                        exact k9
                      · rw [if_neg hc126] at hf
                        refine E_aload_n (v := 0) dX12_ahead_119 rfl ?_
                        refine E_getR fg_RX12_62 dX12_ahead_120 sM_0 rfl rM_0_35 (Nat.succ_ne_zero _) ?_
                        refine E_iload (v := x5_113_13) dX12_ahead_123 rfl ?_
                        refine E_iconst 0 dX12_ahead_125 ic_0 ?_
                        obtain ⟨hi127, hf⟩ := gd_some hf
                        obtain ⟨w128, ew128, hf⟩ := lw_some hf
                        try dsimp only at hf
                        refine E_iast (n := 64) dX12_ahead_126 sM_17 (by decide) (inb_in hi127) ?_
                        rw [← ew128]
                        refine E_aload_n (v := 0) dX12_ahead_127 rfl ?_
                        refine E_iload (v := x5_113_13) dX12_ahead_128 rfl ?_
                        obtain ⟨r130, hc129, hf⟩ := bd_some hf
                        try dsimp only at hf
                        refine E_callVi (rest := []) (ci := 12) cv_RX12_333 dX12_ahead_130 (MX12_isTaken hc129) rfl sM_0 rfl (by decide) rfl rfl (fun _ => Nat.le_of_ble_eq_true rfl) ?_
                        refine E_if_eq 248 dX12_ahead_133 (by decide) (fun hc131 => ?_) (fun hc131 => ?_)
                        · rw [if_pos hc131] at hf
                          refine E_iinc (ls' := [some (.ref 0), some (.int a0), some (.int a1), some (.int 16), some (.int x4_104_12), some (.int (x5_113_13 + 1)), none, none, none]) 1 dX12_ahead_248 rfl ic_1 rfl rfl rfl ?_
                          refine E_goto 113 dX12_ahead_251 (by decide) ?_
                          obtain rfl := Option.some.inj hf
                          exact k9
                        · rw [if_neg hc131] at hf
                          refine E_aload_n (v := 0) dX12_ahead_136 rfl ?_
                          refine E_iload (v := x5_113_13) dX12_ahead_137 rfl ?_
                          obtain ⟨r133, hc132, hf⟩ := bd_some hf
                          try dsimp only at hf
                          refine E_callVi (rest := []) (ci := 12) cv_RX12_339 dX12_ahead_139 (MX12_takenMany hc132) rfl sM_0 rfl (by decide) rfl rfl (fun _ => Nat.le_of_ble_eq_true rfl) ?_
                          refine E_iload_n (v := a0) dX12_ahead_142 rfl ?_
                          refine E_iload (v := x4_104_12) dX12_ahead_143 rfl ?_
                          refine E_isub dX12_ahead_145 ?_
                          refine E_icmp_le 152 dX12_ahead_146 (by decide) (fun hc134 => ?_) (fun hc134 => ?_)
                          · rw [if_pos hc134] at hf
                            refine E_iconst 4 dX12_ahead_152 ic_4 ?_
                            refine E_aload_n (v := 0) dX12_ahead_153 rfl ?_
                            obtain ⟨r136, hc135, hf⟩ := bd_some hf
                            try dsimp only at hf
                            refine E_callVi (rest := [.int 4]) (ci := 12) cv_RX12_330 dX12_ahead_154 (MX12_oddsOfTypes hc135) rfl sM_0 rfl (by decide) rfl rfl (fun _ => Nat.le_of_ble_eq_true rfl) ?_
                            refine E_isub dX12_ahead_157 ?_
                            refine E_aload_n (v := 0) dX12_ahead_158 rfl ?_
                            refine E_getR fg_RX12_59 dX12_ahead_159 sM_0 rfl rM_0_34 (Nat.succ_ne_zero _) ?_
                            refine E_iload (v := x5_113_13) dX12_ahead_162 rfl ?_
                            refine E_iald (n := 64) dX12_ahead_164 sM_16 (by decide) (inb_in hi127) ?_
                            refine E_imul dX12_ahead_165 ?_
                            obtain ⟨v137, ev137, hf⟩ := lw_some hf
                            try dsimp only at hf
                            rw [← ev137]
                            refine E_istore (ls' := [some (.ref 0), some (.int a0), some (.int a1), some (.int 16), some (.int x4_104_12), some (.int x5_113_13), some (.int v137), none, none]) dX12_ahead_166 rfl rfl rfl ?_
                            refine E_iconst 0 dX12_ahead_168 ic_0 ?_
                            refine E_istore (ls' := [some (.ref 0), some (.int a0), some (.int a1), some (.int 16), some (.int x4_104_12), some (.int x5_113_13), some (.int v137), some (.int 0), none]) dX12_ahead_169 rfl rfl rfl ?_
                            obtain ⟨q, hw146, hf⟩ := bd_some hf
                            try dsimp only at hf
                            show (fun (s : Int32 × Int32) => E PM RX12 cX12_ahead 9 7 171 [some (.ref 0), some (.int a0), some (.int a1), some (.int 16), some (.int x4_104_12), some (.int x5_113_13), some (.int s.1), some (.int s.2), none] [] w128 Q) (v137, 0)
                            refine wh_E (K := (fun (s : Int32 × Int32) => E PM RX12 cX12_ahead 9 7 171 [some (.ref 0), some (.int a0), some (.int a1), some (.int 16), some (.int x4_104_12), some (.int x5_113_13), some (.int s.1), some (.int s.2), none] [] w128 Q)) (X := (fun (s : Int32) => E PM RX12 cX12_ahead 9 7 239 [some (.ref 0), some (.int a0), some (.int a1), some (.int 16), some (.int x4_104_12), some (.int x5_113_13), some (.int s), none, none] [] w128 Q)) ?_ hw146 ?_
                            · intro s9 z9 hf k9
                              obtain ⟨x6_171_14, x7_171_14⟩ := s9
                              dsimp only [lbX12_ahead_171_14] at hf
                              show E PM RX12 cX12_ahead 9 7 171 [some (.ref 0), some (.int a0), some (.int a1), some (.int 16), some (.int x4_104_12), some (.int x5_113_13), some (.int x6_171_14), some (.int x7_171_14), none] [] w128 Q
                              refine E_iload (v := x7_171_14) dX12_ahead_171 rfl ?_
                              refine E_aload_n (v := 0) dX12_ahead_173 rfl ?_
                              refine E_getI fg_RX12_324 dX12_ahead_174 sM_0 rfl ?_
                              refine E_icmp_ge 239 dX12_ahead_177 (by decide) (fun hc138 => ?_) (fun hc138 => ?_)
                              · rw [if_pos hc138] at hf
                                obtain rfl := Option.some.inj hf
                                refine E.fewer (ls' := [some (.ref 0), some (.int a0), some (.int a1), some (.int 16), some (.int x4_104_12), some (.int x5_113_13), some (.int x6_171_14), none, none]) ⟨Or.inr rfl, ⟨Or.inr rfl, ⟨Or.inr rfl, ⟨Or.inr rfl, ⟨Or.inr rfl, ⟨Or.inr rfl, ⟨Or.inr rfl, ⟨Or.inl rfl, ⟨Or.inl rfl, trivial⟩⟩⟩⟩⟩⟩⟩⟩⟩ ?_
                                exact k9
                              · rw [if_neg hc138] at hf
                                refine E_aload_n (v := 0) dX12_ahead_180 rfl ?_
                                refine E_getR fg_RX12_59 dX12_ahead_181 sM_0 rfl rM_0_34 (Nat.succ_ne_zero _) ?_
                                refine E_iconst 4 dX12_ahead_184 ic_4 ?_
                                refine E_iload (v := x5_113_13) dX12_ahead_185 rfl ?_
                                refine E_imul dX12_ahead_187 ?_
                                refine E_iload (v := x7_171_14) dX12_ahead_188 rfl ?_
                                refine E_iadd dX12_ahead_190 ?_
                                refine E_iconst 1 dX12_ahead_191 ic_1 ?_
                                refine E_iadd dX12_ahead_192 ?_
                                obtain ⟨hi139, hf⟩ := gd_some hf
                                refine E_iald (n := 64) dX12_ahead_193 sM_16 (by decide) (inb_in hi139) ?_
                                obtain ⟨v140, ev140, hf⟩ := lw_some hf
                                try dsimp only at hf
                                rw [← ev140]
                                refine E_istore (ls' := [some (.ref 0), some (.int a0), some (.int a1), some (.int 16), some (.int x4_104_12), some (.int x5_113_13), some (.int x6_171_14), some (.int x7_171_14), some (.int v140)]) dX12_ahead_194 rfl rfl rfl ?_
                                refine E_iload (v := x6_171_14) dX12_ahead_196 rfl ?_
                                refine E_aload_n (v := 0) dX12_ahead_198 rfl ?_
                                refine E_iload (v := x7_171_14) dX12_ahead_199 rfl ?_
                                refine E_iconst 5 dX12_ahead_201 ic_5 ?_
                                obtain ⟨r142, hc141, hf⟩ := bd_some hf
                                try dsimp only at hf
                                refine E_callVi (rest := [.int x6_171_14]) (ci := 12) cv_RX12_327 dX12_ahead_202 (MX12_typeIts hc141) rfl sM_0 rfl (by decide) rfl rfl (fun _ => Nat.le_of_ble_eq_true rfl) ?_
                                refine E_iload (v := v140) dX12_ahead_205 rfl ?_
                                refine E_aload_n (v := 0) dX12_ahead_207 rfl ?_
                                refine E_getR fg_RX12_59 dX12_ahead_208 sM_0 rfl rM_0_34 (Nat.succ_ne_zero _) ?_
                                refine E_iload (v := x5_113_13) dX12_ahead_211 rfl ?_
                                obtain ⟨hi143, hf⟩ := gd_some hf
                                refine E_iald (n := 64) dX12_ahead_213 sM_16 (by decide) (inb_in hi143) ?_
                                refine E_icmp_le 222 dX12_ahead_214 (by decide) (fun hc144 => ?_) (fun hc144 => ?_)
                                · rw [if_pos hc144] at hf
                                  refine E_aload_n (v := 0) dX12_ahead_222 rfl ?_
                                  refine E_getR fg_RX12_59 dX12_ahead_223 sM_0 rfl rM_0_34 (Nat.succ_ne_zero _) ?_
                                  refine E_iload (v := x5_113_13) dX12_ahead_226 rfl ?_
                                  refine E_iald (n := 64) dX12_ahead_228 sM_16 (by decide) (inb_in hi143) ?_
                                  refine E_imul dX12_ahead_229 ?_
                                  refine E_iadd dX12_ahead_230 ?_
                                  obtain ⟨v145, ev145, hf⟩ := lw_some hf
                                  try dsimp only at hf
                                  rw [← ev145]
                                  refine E_istore (ls' := [some (.ref 0), some (.int a0), some (.int a1), some (.int 16), some (.int x4_104_12), some (.int x5_113_13), some (.int v145), some (.int x7_171_14), some (.int v140)]) dX12_ahead_231 rfl rfl rfl ?_
                                  refine E_iinc (ls' := [some (.ref 0), some (.int a0), some (.int a1), some (.int 16), some (.int x4_104_12), some (.int x5_113_13), some (.int v145), some (.int (x7_171_14 + 1)), some (.int v140)]) 1 dX12_ahead_233 rfl ic_1 rfl rfl rfl ?_
                                  refine E_goto 171 dX12_ahead_236 (by decide) ?_
                                  obtain rfl := Option.some.inj hf
                                  refine E.fewer (ls' := [some (.ref 0), some (.int a0), some (.int a1), some (.int 16), some (.int x4_104_12), some (.int x5_113_13), some (.int v145), some (.int (x7_171_14 + 1)), none]) ⟨Or.inr rfl, ⟨Or.inr rfl, ⟨Or.inr rfl, ⟨Or.inr rfl, ⟨Or.inr rfl, ⟨Or.inr rfl, ⟨Or.inr rfl, ⟨Or.inr rfl, ⟨Or.inl rfl, trivial⟩⟩⟩⟩⟩⟩⟩⟩⟩ ?_
                                  exact k9
                                · rw [if_neg hc144] at hf
                                  refine E_iload (v := v140) dX12_ahead_217 rfl ?_
                                  refine E_goto 229 dX12_ahead_219 (by decide) ?_
                                  refine E_imul dX12_ahead_229 ?_
                                  refine E_iadd dX12_ahead_230 ?_
                                  refine E_istore (ls' := [some (.ref 0), some (.int a0), some (.int a1), some (.int 16), some (.int x4_104_12), some (.int x5_113_13), some (.int (x6_171_14 + (r142 * v140))), some (.int x7_171_14), some (.int v140)]) dX12_ahead_231 rfl rfl rfl ?_
                                  refine E_iinc (ls' := [some (.ref 0), some (.int a0), some (.int a1), some (.int 16), some (.int x4_104_12), some (.int x5_113_13), some (.int (x6_171_14 + (r142 * v140))), some (.int (x7_171_14 + 1)), some (.int v140)]) 1 dX12_ahead_233 rfl ic_1 rfl rfl rfl ?_
                                  refine E_goto 171 dX12_ahead_236 (by decide) ?_
                                  obtain rfl := Option.some.inj hf
                                  refine E.fewer (ls' := [some (.ref 0), some (.int a0), some (.int a1), some (.int 16), some (.int x4_104_12), some (.int x5_113_13), some (.int (x6_171_14 + (r142 * v140))), some (.int (x7_171_14 + 1)), none]) ⟨Or.inr rfl, ⟨Or.inr rfl, ⟨Or.inr rfl, ⟨Or.inr rfl, ⟨Or.inr rfl, ⟨Or.inr rfl, ⟨Or.inr rfl, ⟨Or.inr rfl, ⟨Or.inl rfl, trivial⟩⟩⟩⟩⟩⟩⟩⟩⟩ ?_
                                  exact k9
                            · skip
                              obtain ⟨y147, hq9⟩ : ∃ a, a = q := ⟨_, rfl⟩
                              subst hq9
                              try dsimp only at hf
                              show E PM RX12 cX12_ahead 9 7 239 [some (.ref 0), some (.int a0), some (.int a1), some (.int 16), some (.int x4_104_12), some (.int x5_113_13), some (.int y147), none, none] [] w128 Q
                              refine E_aload_n (v := 0) dX12_ahead_239 rfl ?_
                              refine E_getR fg_RX12_62 dX12_ahead_240 sM_0 rfl rM_0_35 (Nat.succ_ne_zero _) ?_
                              refine E_iload (v := x5_113_13) dX12_ahead_243 rfl ?_
                              refine E_iload (v := y147) dX12_ahead_245 rfl ?_
                              obtain ⟨w148, ew148, hf⟩ := lw_some hf
                              try dsimp only at hf
                              refine E_iast (n := 64) dX12_ahead_247 sM_17 (by decide) (inb_in hi127) ?_
                              rw [← ew148]
                              refine E_iinc (ls' := [some (.ref 0), some (.int a0), some (.int a1), some (.int 16), some (.int x4_104_12), some (.int (x5_113_13 + 1)), some (.int y147), none, none]) 1 dX12_ahead_248 rfl ic_1 rfl rfl rfl ?_
                              refine E_goto 113 dX12_ahead_251 (by decide) ?_
                              obtain rfl := Option.some.inj hf
                              refine E.fewer (ls' := [some (.ref 0), some (.int a0), some (.int a1), some (.int 16), some (.int x4_104_12), some (.int (x5_113_13 + 1)), none, none, none]) ⟨Or.inr rfl, ⟨Or.inr rfl, ⟨Or.inr rfl, ⟨Or.inr rfl, ⟨Or.inr rfl, ⟨Or.inr rfl, ⟨Or.inl rfl, ⟨Or.inl rfl, ⟨Or.inl rfl, trivial⟩⟩⟩⟩⟩⟩⟩⟩⟩ ?_
                              exact k9
                          · rw [if_neg hc134] at hf
                            refine E_goto 248 dX12_ahead_149 (by decide) ?_
                            refine E_iinc (ls' := [some (.ref 0), some (.int a0), some (.int a1), some (.int 16), some (.int x4_104_12), some (.int (x5_113_13 + 1)), none, none, none]) 1 dX12_ahead_248 rfl ic_1 rfl rfl rfl ?_
                            refine E_goto 113 dX12_ahead_251 (by decide) ?_
                            obtain rfl := Option.some.inj hf
                            exact k9
                    · skip
                      obtain ⟨w150, hq9⟩ : ∃ a, a = q := ⟨_, rfl⟩
                      subst hq9
                      try dsimp only at hf
                      show E PM RX12 cX12_ahead 9 7 254 [some (.ref 0), some (.int a0), some (.int a1), some (.int 16), some (.int x4_104_12), none, none, none, none] [] w150 Q
                      refine E_iconst 0 dX12_ahead_254 ic_0 ?_
                      refine E_istore (ls' := [some (.ref 0), some (.int a0), some (.int a1), some (.int 16), some (.int x4_104_12), some (.int 0), none, none, none]) dX12_ahead_255 rfl rfl rfl ?_
                      obtain ⟨q, hw154, hf⟩ := bd_some hf
                      try dsimp only at hf
                      show (fun (s : Int32 × AW) => E PM RX12 cX12_ahead 9 7 257 [some (.ref 0), some (.int a0), some (.int a1), some (.int 16), some (.int x4_104_12), some (.int s.1), none, none, none] [] s.2 Q) (0, w150)
                      refine wh_E (K := (fun (s : Int32 × AW) => E PM RX12 cX12_ahead 9 7 257 [some (.ref 0), some (.int a0), some (.int a1), some (.int 16), some (.int x4_104_12), some (.int s.1), none, none, none] [] s.2 Q)) (X := (fun (s : AW) => E PM RX12 cX12_ahead 9 7 283 [some (.ref 0), some (.int a0), some (.int a1), some (.int 16), some (.int x4_104_12), none, none, none, none] [] s Q)) ?_ hw154 ?_
                      · intro s9 z9 hf k9
                        obtain ⟨x5_257_15, w_257_15⟩ := s9
                        dsimp only [lbX12_ahead_257_15] at hf
                        show E PM RX12 cX12_ahead 9 7 257 [some (.ref 0), some (.int a0), some (.int a1), some (.int 16), some (.int x4_104_12), some (.int x5_257_15), none, none, none] [] w_257_15 Q
                        refine E_iload (v := x5_257_15) dX12_ahead_257 rfl ?_
                        refine E_iload_n (v := 16) dX12_ahead_259 rfl ?_
                        refine E_icmp_ge 283 dX12_ahead_260 (by decide) (fun hc151 => ?_) (fun hc151 => ?_)
                        · rw [if_pos hc151] at hf
                          obtain rfl := Option.some.inj hf
                          refine E.fewer (ls' := [some (.ref 0), some (.int a0), some (.int a1), some (.int 16), some (.int x4_104_12), none, none, none, none]) ⟨Or.inr rfl, ⟨Or.inr rfl, ⟨Or.inr rfl, ⟨Or.inr rfl, ⟨Or.inr rfl, ⟨Or.inl rfl, ⟨Or.inl rfl, ⟨Or.inl rfl, ⟨Or.inl rfl, trivial⟩⟩⟩⟩⟩⟩⟩⟩⟩ ?_
                          exact k9
                        · rw [if_neg hc151] at hf
                          refine E_aload_n (v := 0) dX12_ahead_263 rfl ?_
                          refine E_getR fg_RX12_59 dX12_ahead_264 sM_0 rfl rM_0_34 (Nat.succ_ne_zero _) ?_
                          refine E_iload (v := x5_257_15) dX12_ahead_267 rfl ?_
                          refine E_aload_n (v := 0) dX12_ahead_269 rfl ?_
                          refine E_getR fg_RX12_62 dX12_ahead_270 sM_0 rfl rM_0_35 (Nat.succ_ne_zero _) ?_
                          refine E_iload (v := x5_257_15) dX12_ahead_273 rfl ?_
                          obtain ⟨hi152, hf⟩ := gd_some hf
                          refine E_iald (n := 64) dX12_ahead_275 sM_17 (by decide) (inb_in hi152) ?_
                          obtain ⟨w153, ew153, hf⟩ := lw_some hf
                          try dsimp only at hf
                          refine E_iast (n := 64) dX12_ahead_276 sM_16 (by decide) (inb_in hi152) ?_
                          rw [← ew153]
                          refine E_iinc (ls' := [some (.ref 0), some (.int a0), some (.int a1), some (.int 16), some (.int x4_104_12), some (.int (x5_257_15 + 1)), none, none, none]) 1 dX12_ahead_277 rfl ic_1 rfl rfl rfl ?_
                          refine E_goto 257 dX12_ahead_280 (by decide) ?_
                          obtain rfl := Option.some.inj hf
                          exact k9
                      · skip
                        obtain ⟨w155, hq9⟩ : ∃ a, a = q := ⟨_, rfl⟩
                        subst hq9
                        try dsimp only at hf
                        show E PM RX12 cX12_ahead 9 7 283 [some (.ref 0), some (.int a0), some (.int a1), some (.int 16), some (.int x4_104_12), none, none, none, none] [] w155 Q
                        refine E_iinc (ls' := [some (.ref 0), some (.int a0), some (.int a1), some (.int 16), some (.int (x4_104_12 + 1)), none, none, none, none]) 1 dX12_ahead_283 rfl ic_1 rfl rfl rfl ?_
                        refine E_goto 104 dX12_ahead_286 (by decide) ?_
                        obtain rfl := Option.some.inj hf
                        exact k9
                · skip
                  obtain ⟨w157, hq9⟩ : ∃ a, a = q := ⟨_, rfl⟩
                  subst hq9
                  try dsimp only at hf
                  show E PM RX12 cX12_ahead 9 7 289 [some (.ref 0), some (.int a0), some (.int a1), none, none, none, none, none, none] [] w157 Q
                  refine E_aload_n (v := 0) dX12_ahead_289 rfl ?_
                  refine E_aload_n (v := 0) dX12_ahead_290 rfl ?_
                  refine E_getR fg_RX12_59 dX12_ahead_291 sM_0 rfl rM_0_34 (Nat.succ_ne_zero _) ?_
                  refine E_iconst 0 dX12_ahead_294 ic_0 ?_
                  refine E_iald (n := 64) dX12_ahead_295 sM_16 (by decide) (inb_in (by decide)) ?_
                  refine E_iconst 1 dX12_ahead_296 ic_1 ?_
                  refine E_iconst 2 dX12_ahead_297 ic_2 ?_
                  refine E_iload_n (v := a0) dX12_ahead_298 rfl ?_
                  refine E_imul dX12_ahead_299 ?_
                  refine E_ishl dX12_ahead_300 ?_
                  obtain ⟨w159, hc158, hf⟩ := bd_some hf
                  try dsimp only at hf
                  refine E_callVv (rest := []) (ci := 12) cv_RX12_321 dX12_ahead_301 (MX12_lowest hc158) rfl sM_0 rfl (by decide) rfl rfl (fun _ => Nat.le_of_ble_eq_true rfl) ?_
                  refine E_iload_n (v := a1) dX12_ahead_304 rfl ?_
                  refine E_if_ne 315 dX12_ahead_305 (by decide) (fun hc160 => ?_) (fun hc160 => ?_)
                  · rw [if_pos hc160] at hf
                    refine E_aload_n (v := 0) dX12_ahead_308 rfl ?_
                    refine E_getI fg_RX12_306 dX12_ahead_309 sM_0 rfl ?_
                    refine E_goto 319 dX12_ahead_312 (by decide) ?_
                    obtain ⟨rfl, rfl⟩ := ret2 hf
                    exact E.done (by rw [eQ]; exact ⟨rfl, Or.inl ⟨_, _, rfl, rfl, dX12_ahead_319, rfl, rfl⟩⟩)
                  · rw [if_neg hc160] at hf
                    refine E_aload_n (v := 0) dX12_ahead_315 rfl ?_
                    refine E_getI fg_RX12_309 dX12_ahead_316 sM_0 rfl ?_
                    obtain ⟨rfl, rfl⟩ := ret2 hf
                    exact E.done (by rw [eQ]; exact ⟨rfl, Or.inl ⟨_, _, rfl, rfl, dX12_ahead_319, rfl, rfl⟩⟩)
            · rw [if_neg hc110] at hf
              refine E_bipush 64 dX12_ahead_57 bp_64 ?_
              refine E_istore_n (ls' := [some (.ref 0), some (.int a0), some (.int a1), some (.int 64), none, none, none, none, none]) dX12_ahead_59 rfl rfl rfl ?_
              refine E_iconst 0 dX12_ahead_60 ic_0 ?_
              refine E_istore (ls' := [some (.ref 0), some (.int a0), some (.int a1), some (.int 64), some (.int 0), none, none, none, none]) dX12_ahead_61 rfl rfl rfl ?_
              obtain ⟨q, hw173, hf⟩ := bd_some hf
              try dsimp only at hf
              show (fun (s : Int32 × AW) => E PM RX12 cX12_ahead 9 7 63 [some (.ref 0), some (.int a0), some (.int a1), some (.int 64), some (.int s.1), none, none, none, none] [] s.2 Q) (0, w)
              refine wh_E (K := (fun (s : Int32 × AW) => E PM RX12 cX12_ahead 9 7 63 [some (.ref 0), some (.int a0), some (.int a1), some (.int 64), some (.int s.1), none, none, none, none] [] s.2 Q)) (X := (fun (s : AW) => E PM RX12 cX12_ahead 9 7 101 [some (.ref 0), some (.int a0), some (.int a1), some (.int 64), none, none, none, none, none] [] s Q)) ?_ hw173 ?_
              · intro s9 z9 hf k9
                obtain ⟨x4_63_16, w_63_16⟩ := s9
                dsimp only [lbX12_ahead_63_16] at hf
                show E PM RX12 cX12_ahead 9 7 63 [some (.ref 0), some (.int a0), some (.int a1), some (.int 64), some (.int x4_63_16), none, none, none, none] [] w_63_16 Q
                refine E_iload (v := x4_63_16) dX12_ahead_63 rfl ?_
                refine E_iload_n (v := 64) dX12_ahead_65 rfl ?_
                refine E_icmp_ge 101 dX12_ahead_66 (by decide) (fun hc161 => ?_) (fun hc161 => ?_)
                · rw [if_pos hc161] at hf
                  obtain rfl := Option.some.inj hf
                  refine E.fewer (ls' := [some (.ref 0), some (.int a0), some (.int a1), some (.int 64), none, none, none, none, none]) ⟨Or.inr rfl, ⟨Or.inr rfl, ⟨Or.inr rfl, ⟨Or.inr rfl, ⟨Or.inl rfl, ⟨Or.inl rfl, ⟨Or.inl rfl, ⟨Or.inl rfl, ⟨Or.inl rfl, trivial⟩⟩⟩⟩⟩⟩⟩⟩⟩ ?_
                  exact k9
                · rw [if_neg hc161] at hf
                  refine E_aload_n (v := 0) dX12_ahead_69 rfl ?_
                  refine E_getR fg_RX12_59 dX12_ahead_70 sM_0 rfl rM_0_34 (Nat.succ_ne_zero _) ?_
                  refine E_iload (v := x4_63_16) dX12_ahead_73 rfl ?_
                  refine E_aload_n (v := 0) dX12_ahead_75 rfl ?_
                  refine E_iload (v := x4_63_16) dX12_ahead_76 rfl ?_
                  obtain ⟨r163, hc162, hf⟩ := bd_some hf
                  try dsimp only at hf
                  refine E_callVi (rest := [.int x4_63_16, .ref 16]) (ci := 12) cv_RX12_333 dX12_ahead_78 (MX12_isTaken hc162) rfl sM_0 rfl (by decide) rfl rfl (fun _ => Nat.le_of_ble_eq_true rfl) ?_
                  refine E_if_eq 93 dX12_ahead_81 (by decide) (fun hc164 => ?_) (fun hc164 => ?_)
                  · rw [if_pos hc164] at hf
                    refine E_iconst 0 dX12_ahead_93 ic_0 ?_
                    obtain ⟨hi165, hf⟩ := gd_some hf
                    obtain ⟨w166, ew166, hf⟩ := lw_some hf
                    try dsimp only at hf
                    refine E_iast (n := 64) dX12_ahead_94 sM_16 (by decide) (inb_in hi165) ?_
                    rw [← ew166]
                    refine E_iinc (ls' := [some (.ref 0), some (.int a0), some (.int a1), some (.int 64), some (.int (x4_63_16 + 1)), none, none, none, none]) 1 dX12_ahead_95 rfl ic_1 rfl rfl rfl ?_
                    refine E_goto 63 dX12_ahead_98 (by decide) ?_
                    obtain rfl := Option.some.inj hf
                    exact k9
                  · rw [if_neg hc164] at hf
                    refine E_aload_n (v := 0) dX12_ahead_84 rfl ?_
                    refine E_iload (v := x4_63_16) dX12_ahead_85 rfl ?_
                    obtain ⟨r168, w169, hc167, hf⟩ := bd2_some hf
                    try dsimp only at hf
                    refine E_callVi (rest := [.int x4_63_16, .ref 16]) (ci := 12) cv_RX12_336 dX12_ahead_87 (MX12_worthWith hc167) rfl sM_0 rfl (by decide) rfl rfl (fun _ => Nat.le_of_ble_eq_true rfl) ?_
                    refine E_goto 94 dX12_ahead_90 (by decide) ?_
                    obtain ⟨hi171, hf⟩ := gd_some hf
                    obtain ⟨w172, ew172, hf⟩ := lw_some hf
                    try dsimp only at hf
                    refine E_iast (n := 64) dX12_ahead_94 sM_16 (by decide) (inb_in hi171) ?_
                    rw [← ew172]
                    refine E_iinc (ls' := [some (.ref 0), some (.int a0), some (.int a1), some (.int 64), some (.int (x4_63_16 + 1)), none, none, none, none]) 1 dX12_ahead_95 rfl ic_1 rfl rfl rfl ?_
                    refine E_goto 63 dX12_ahead_98 (by decide) ?_
                    obtain rfl := Option.some.inj hf
                    exact k9
              · skip
                obtain ⟨w174, hq9⟩ : ∃ a, a = q := ⟨_, rfl⟩
                subst hq9
                try dsimp only at hf
                show E PM RX12 cX12_ahead 9 7 101 [some (.ref 0), some (.int a0), some (.int a1), some (.int 64), none, none, none, none, none] [] w174 Q
                refine E_iconst 1 dX12_ahead_101 ic_1 ?_
                refine E_istore (ls' := [some (.ref 0), some (.int a0), some (.int a1), some (.int 64), some (.int 1), none, none, none, none]) dX12_ahead_102 rfl rfl rfl ?_
                obtain ⟨q, hw206, hf⟩ := bd_some hf
                try dsimp only at hf
                show (fun (s : Int32 × AW) => E PM RX12 cX12_ahead 9 7 104 [some (.ref 0), some (.int a0), some (.int a1), some (.int 64), some (.int s.1), none, none, none, none] [] s.2 Q) (1, w174)
                refine wh_E (K := (fun (s : Int32 × AW) => E PM RX12 cX12_ahead 9 7 104 [some (.ref 0), some (.int a0), some (.int a1), some (.int 64), some (.int s.1), none, none, none, none] [] s.2 Q)) (X := (fun (s : AW) => E PM RX12 cX12_ahead 9 7 289 [some (.ref 0), some (.int a0), some (.int a1), none, none, none, none, none, none] [] s Q)) ?_ hw206 ?_
                · intro s9 z9 hf k9
                  obtain ⟨x4_104_17, w_104_17⟩ := s9
                  dsimp only [lbX12_ahead_104_17] at hf
                  show E PM RX12 cX12_ahead 9 7 104 [some (.ref 0), some (.int a0), some (.int a1), some (.int 64), some (.int x4_104_17), none, none, none, none] [] w_104_17 Q
                  refine E_iload (v := x4_104_17) dX12_ahead_104 rfl ?_
                  refine E_iload_n (v := a0) dX12_ahead_106 rfl ?_
                  refine E_icmp_gt 289 dX12_ahead_107 (by decide) (fun hc175 => ?_) (fun hc175 => ?_)
                  · rw [if_pos hc175] at hf
                    obtain rfl := Option.some.inj hf
                    refine E.fewer (ls' := [some (.ref 0), some (.int a0), some (.int a1), none, none, none, none, none, none]) ⟨Or.inr rfl, ⟨Or.inr rfl, ⟨Or.inr rfl, ⟨Or.inl rfl, ⟨Or.inl rfl, ⟨Or.inl rfl, ⟨Or.inl rfl, ⟨Or.inl rfl, ⟨Or.inl rfl, trivial⟩⟩⟩⟩⟩⟩⟩⟩⟩ ?_
                    exact k9
                  · rw [if_neg hc175] at hf
                    refine E_iconst 0 dX12_ahead_110 ic_0 ?_
                    refine E_istore (ls' := [some (.ref 0), some (.int a0), some (.int a1), some (.int 64), some (.int x4_104_17), some (.int 0), none, none, none]) dX12_ahead_111 rfl rfl rfl ?_
                    obtain ⟨q, hw199, hf⟩ := bd_some hf
                    try dsimp only at hf
                    show (fun (s : Int32 × AW) => E PM RX12 cX12_ahead 9 7 113 [some (.ref 0), some (.int a0), some (.int a1), some (.int 64), some (.int x4_104_17), some (.int s.1), none, none, none] [] s.2 Q) (0, w_104_17)
                    refine wh_E (K := (fun (s : Int32 × AW) => E PM RX12 cX12_ahead 9 7 113 [some (.ref 0), some (.int a0), some (.int a1), some (.int 64), some (.int x4_104_17), some (.int s.1), none, none, none] [] s.2 Q)) (X := (fun (s : AW) => E PM RX12 cX12_ahead 9 7 254 [some (.ref 0), some (.int a0), some (.int a1), some (.int 64), some (.int x4_104_17), none, none, none, none] [] s Q)) ?_ hw199 ?_
                    · intro s9 z9 hf k9
                      obtain ⟨x5_113_18, w_113_18⟩ := s9
                      dsimp only [lbX12_ahead_113_18] at hf
                      show E PM RX12 cX12_ahead 9 7 113 [some (.ref 0), some (.int a0), some (.int a1), some (.int 64), some (.int x4_104_17), some (.int x5_113_18), none, none, none] [] w_113_18 Q
                      refine E_iload (v := x5_113_18) dX12_ahead_113 rfl ?_
                      refine E_iload_n (v := 64) dX12_ahead_115 rfl ?_
                      refine E_icmp_ge 254 dX12_ahead_116 (by decide) (fun hc176 => ?_) (fun hc176 => ?_)
                      · rw [if_pos hc176] at hf
                        obtain rfl := Option.some.inj hf
                        refine E.fewer (ls' := [some (.ref 0), some (.int a0), some (.int a1), some (.int 64), some (.int x4_104_17), none, none, none, none]) ⟨Or.inr rfl, ⟨Or.inr rfl, ⟨Or.inr rfl, ⟨Or.inr rfl, ⟨Or.inr rfl, ⟨Or.inl rfl, ⟨Or.inl rfl, ⟨Or.inl rfl, ⟨Or.inl rfl, trivial⟩⟩⟩⟩⟩⟩⟩⟩⟩ ?_
                        exact k9
                      · rw [if_neg hc176] at hf
                        refine E_aload_n (v := 0) dX12_ahead_119 rfl ?_
                        refine E_getR fg_RX12_62 dX12_ahead_120 sM_0 rfl rM_0_35 (Nat.succ_ne_zero _) ?_
                        refine E_iload (v := x5_113_18) dX12_ahead_123 rfl ?_
                        refine E_iconst 0 dX12_ahead_125 ic_0 ?_
                        obtain ⟨hi177, hf⟩ := gd_some hf
                        obtain ⟨w178, ew178, hf⟩ := lw_some hf
                        try dsimp only at hf
                        refine E_iast (n := 64) dX12_ahead_126 sM_17 (by decide) (inb_in hi177) ?_
                        rw [← ew178]
                        refine E_aload_n (v := 0) dX12_ahead_127 rfl ?_
                        refine E_iload (v := x5_113_18) dX12_ahead_128 rfl ?_
                        obtain ⟨r180, hc179, hf⟩ := bd_some hf
                        try dsimp only at hf
                        refine E_callVi (rest := []) (ci := 12) cv_RX12_333 dX12_ahead_130 (MX12_isTaken hc179) rfl sM_0 rfl (by decide) rfl rfl (fun _ => Nat.le_of_ble_eq_true rfl) ?_
                        refine E_if_eq 248 dX12_ahead_133 (by decide) (fun hc181 => ?_) (fun hc181 => ?_)
                        · rw [if_pos hc181] at hf
                          refine E_iinc (ls' := [some (.ref 0), some (.int a0), some (.int a1), some (.int 64), some (.int x4_104_17), some (.int (x5_113_18 + 1)), none, none, none]) 1 dX12_ahead_248 rfl ic_1 rfl rfl rfl ?_
                          refine E_goto 113 dX12_ahead_251 (by decide) ?_
                          obtain rfl := Option.some.inj hf
                          exact k9
                        · rw [if_neg hc181] at hf
                          refine E_aload_n (v := 0) dX12_ahead_136 rfl ?_
                          refine E_iload (v := x5_113_18) dX12_ahead_137 rfl ?_
                          obtain ⟨r183, hc182, hf⟩ := bd_some hf
                          try dsimp only at hf
                          refine E_callVi (rest := []) (ci := 12) cv_RX12_339 dX12_ahead_139 (MX12_takenMany hc182) rfl sM_0 rfl (by decide) rfl rfl (fun _ => Nat.le_of_ble_eq_true rfl) ?_
                          refine E_iload_n (v := a0) dX12_ahead_142 rfl ?_
                          refine E_iload (v := x4_104_17) dX12_ahead_143 rfl ?_
                          refine E_isub dX12_ahead_145 ?_
                          refine E_icmp_le 152 dX12_ahead_146 (by decide) (fun hc184 => ?_) (fun hc184 => ?_)
                          · rw [if_pos hc184] at hf
                            refine E_iconst 4 dX12_ahead_152 ic_4 ?_
                            refine E_aload_n (v := 0) dX12_ahead_153 rfl ?_
                            obtain ⟨r186, hc185, hf⟩ := bd_some hf
                            try dsimp only at hf
                            refine E_callVi (rest := [.int 4]) (ci := 12) cv_RX12_330 dX12_ahead_154 (MX12_oddsOfTypes hc185) rfl sM_0 rfl (by decide) rfl rfl (fun _ => Nat.le_of_ble_eq_true rfl) ?_
                            refine E_isub dX12_ahead_157 ?_
                            refine E_aload_n (v := 0) dX12_ahead_158 rfl ?_
                            refine E_getR fg_RX12_59 dX12_ahead_159 sM_0 rfl rM_0_34 (Nat.succ_ne_zero _) ?_
                            refine E_iload (v := x5_113_18) dX12_ahead_162 rfl ?_
                            refine E_iald (n := 64) dX12_ahead_164 sM_16 (by decide) (inb_in hi177) ?_
                            refine E_imul dX12_ahead_165 ?_
                            obtain ⟨v187, ev187, hf⟩ := lw_some hf
                            try dsimp only at hf
                            rw [← ev187]
                            refine E_istore (ls' := [some (.ref 0), some (.int a0), some (.int a1), some (.int 64), some (.int x4_104_17), some (.int x5_113_18), some (.int v187), none, none]) dX12_ahead_166 rfl rfl rfl ?_
                            refine E_iconst 0 dX12_ahead_168 ic_0 ?_
                            refine E_istore (ls' := [some (.ref 0), some (.int a0), some (.int a1), some (.int 64), some (.int x4_104_17), some (.int x5_113_18), some (.int v187), some (.int 0), none]) dX12_ahead_169 rfl rfl rfl ?_
                            obtain ⟨q, hw196, hf⟩ := bd_some hf
                            try dsimp only at hf
                            show (fun (s : Int32 × Int32) => E PM RX12 cX12_ahead 9 7 171 [some (.ref 0), some (.int a0), some (.int a1), some (.int 64), some (.int x4_104_17), some (.int x5_113_18), some (.int s.1), some (.int s.2), none] [] w178 Q) (v187, 0)
                            refine wh_E (K := (fun (s : Int32 × Int32) => E PM RX12 cX12_ahead 9 7 171 [some (.ref 0), some (.int a0), some (.int a1), some (.int 64), some (.int x4_104_17), some (.int x5_113_18), some (.int s.1), some (.int s.2), none] [] w178 Q)) (X := (fun (s : Int32) => E PM RX12 cX12_ahead 9 7 239 [some (.ref 0), some (.int a0), some (.int a1), some (.int 64), some (.int x4_104_17), some (.int x5_113_18), some (.int s), none, none] [] w178 Q)) ?_ hw196 ?_
                            · intro s9 z9 hf k9
                              obtain ⟨x6_171_19, x7_171_19⟩ := s9
                              dsimp only [lbX12_ahead_171_19] at hf
                              show E PM RX12 cX12_ahead 9 7 171 [some (.ref 0), some (.int a0), some (.int a1), some (.int 64), some (.int x4_104_17), some (.int x5_113_18), some (.int x6_171_19), some (.int x7_171_19), none] [] w178 Q
                              refine E_iload (v := x7_171_19) dX12_ahead_171 rfl ?_
                              refine E_aload_n (v := 0) dX12_ahead_173 rfl ?_
                              refine E_getI fg_RX12_324 dX12_ahead_174 sM_0 rfl ?_
                              refine E_icmp_ge 239 dX12_ahead_177 (by decide) (fun hc188 => ?_) (fun hc188 => ?_)
                              · rw [if_pos hc188] at hf
                                obtain rfl := Option.some.inj hf
                                refine E.fewer (ls' := [some (.ref 0), some (.int a0), some (.int a1), some (.int 64), some (.int x4_104_17), some (.int x5_113_18), some (.int x6_171_19), none, none]) ⟨Or.inr rfl, ⟨Or.inr rfl, ⟨Or.inr rfl, ⟨Or.inr rfl, ⟨Or.inr rfl, ⟨Or.inr rfl, ⟨Or.inr rfl, ⟨Or.inl rfl, ⟨Or.inl rfl, trivial⟩⟩⟩⟩⟩⟩⟩⟩⟩ ?_
                                exact k9
                              · rw [if_neg hc188] at hf
                                refine E_aload_n (v := 0) dX12_ahead_180 rfl ?_
                                refine E_getR fg_RX12_59 dX12_ahead_181 sM_0 rfl rM_0_34 (Nat.succ_ne_zero _) ?_
                                refine E_iconst 4 dX12_ahead_184 ic_4 ?_
                                refine E_iload (v := x5_113_18) dX12_ahead_185 rfl ?_
                                refine E_imul dX12_ahead_187 ?_
                                refine E_iload (v := x7_171_19) dX12_ahead_188 rfl ?_
                                refine E_iadd dX12_ahead_190 ?_
                                refine E_iconst 1 dX12_ahead_191 ic_1 ?_
                                refine E_iadd dX12_ahead_192 ?_
                                obtain ⟨hi189, hf⟩ := gd_some hf
                                refine E_iald (n := 64) dX12_ahead_193 sM_16 (by decide) (inb_in hi189) ?_
                                obtain ⟨v190, ev190, hf⟩ := lw_some hf
                                try dsimp only at hf
                                rw [← ev190]
                                refine E_istore (ls' := [some (.ref 0), some (.int a0), some (.int a1), some (.int 64), some (.int x4_104_17), some (.int x5_113_18), some (.int x6_171_19), some (.int x7_171_19), some (.int v190)]) dX12_ahead_194 rfl rfl rfl ?_
                                refine E_iload (v := x6_171_19) dX12_ahead_196 rfl ?_
                                refine E_aload_n (v := 0) dX12_ahead_198 rfl ?_
                                refine E_iload (v := x7_171_19) dX12_ahead_199 rfl ?_
                                refine E_iconst 5 dX12_ahead_201 ic_5 ?_
                                obtain ⟨r192, hc191, hf⟩ := bd_some hf
                                try dsimp only at hf
                                refine E_callVi (rest := [.int x6_171_19]) (ci := 12) cv_RX12_327 dX12_ahead_202 (MX12_typeIts hc191) rfl sM_0 rfl (by decide) rfl rfl (fun _ => Nat.le_of_ble_eq_true rfl) ?_
                                refine E_iload (v := v190) dX12_ahead_205 rfl ?_
                                refine E_aload_n (v := 0) dX12_ahead_207 rfl ?_
                                refine E_getR fg_RX12_59 dX12_ahead_208 sM_0 rfl rM_0_34 (Nat.succ_ne_zero _) ?_
                                refine E_iload (v := x5_113_18) dX12_ahead_211 rfl ?_
                                obtain ⟨hi193, hf⟩ := gd_some hf
                                refine E_iald (n := 64) dX12_ahead_213 sM_16 (by decide) (inb_in hi193) ?_
                                refine E_icmp_le 222 dX12_ahead_214 (by decide) (fun hc194 => ?_) (fun hc194 => ?_)
                                · rw [if_pos hc194] at hf
                                  refine E_aload_n (v := 0) dX12_ahead_222 rfl ?_
                                  refine E_getR fg_RX12_59 dX12_ahead_223 sM_0 rfl rM_0_34 (Nat.succ_ne_zero _) ?_
                                  refine E_iload (v := x5_113_18) dX12_ahead_226 rfl ?_
                                  refine E_iald (n := 64) dX12_ahead_228 sM_16 (by decide) (inb_in hi193) ?_
                                  refine E_imul dX12_ahead_229 ?_
                                  refine E_iadd dX12_ahead_230 ?_
                                  obtain ⟨v195, ev195, hf⟩ := lw_some hf
                                  try dsimp only at hf
                                  rw [← ev195]
                                  refine E_istore (ls' := [some (.ref 0), some (.int a0), some (.int a1), some (.int 64), some (.int x4_104_17), some (.int x5_113_18), some (.int v195), some (.int x7_171_19), some (.int v190)]) dX12_ahead_231 rfl rfl rfl ?_
                                  refine E_iinc (ls' := [some (.ref 0), some (.int a0), some (.int a1), some (.int 64), some (.int x4_104_17), some (.int x5_113_18), some (.int v195), some (.int (x7_171_19 + 1)), some (.int v190)]) 1 dX12_ahead_233 rfl ic_1 rfl rfl rfl ?_
                                  refine E_goto 171 dX12_ahead_236 (by decide) ?_
                                  obtain rfl := Option.some.inj hf
                                  refine E.fewer (ls' := [some (.ref 0), some (.int a0), some (.int a1), some (.int 64), some (.int x4_104_17), some (.int x5_113_18), some (.int v195), some (.int (x7_171_19 + 1)), none]) ⟨Or.inr rfl, ⟨Or.inr rfl, ⟨Or.inr rfl, ⟨Or.inr rfl, ⟨Or.inr rfl, ⟨Or.inr rfl, ⟨Or.inr rfl, ⟨Or.inr rfl, ⟨Or.inl rfl, trivial⟩⟩⟩⟩⟩⟩⟩⟩⟩ ?_
                                  exact k9
                                · rw [if_neg hc194] at hf
                                  refine E_iload (v := v190) dX12_ahead_217 rfl ?_
                                  refine E_goto 229 dX12_ahead_219 (by decide) ?_
                                  refine E_imul dX12_ahead_229 ?_
                                  refine E_iadd dX12_ahead_230 ?_
                                  refine E_istore (ls' := [some (.ref 0), some (.int a0), some (.int a1), some (.int 64), some (.int x4_104_17), some (.int x5_113_18), some (.int (x6_171_19 + (r192 * v190))), some (.int x7_171_19), some (.int v190)]) dX12_ahead_231 rfl rfl rfl ?_
                                  refine E_iinc (ls' := [some (.ref 0), some (.int a0), some (.int a1), some (.int 64), some (.int x4_104_17), some (.int x5_113_18), some (.int (x6_171_19 + (r192 * v190))), some (.int (x7_171_19 + 1)), some (.int v190)]) 1 dX12_ahead_233 rfl ic_1 rfl rfl rfl ?_
                                  refine E_goto 171 dX12_ahead_236 (by decide) ?_
                                  obtain rfl := Option.some.inj hf
                                  refine E.fewer (ls' := [some (.ref 0), some (.int a0), some (.int a1), some (.int 64), some (.int x4_104_17), some (.int x5_113_18), some (.int (x6_171_19 + (r192 * v190))), some (.int (x7_171_19 + 1)), none]) ⟨Or.inr rfl, ⟨Or.inr rfl, ⟨Or.inr rfl, ⟨Or.inr rfl, ⟨Or.inr rfl, ⟨Or.inr rfl, ⟨Or.inr rfl, ⟨Or.inr rfl, ⟨Or.inl rfl, trivial⟩⟩⟩⟩⟩⟩⟩⟩⟩ ?_
                                  exact k9
                            · skip
                              obtain ⟨y197, hq9⟩ : ∃ a, a = q := ⟨_, rfl⟩
                              subst hq9
                              try dsimp only at hf
                              show E PM RX12 cX12_ahead 9 7 239 [some (.ref 0), some (.int a0), some (.int a1), some (.int 64), some (.int x4_104_17), some (.int x5_113_18), some (.int y197), none, none] [] w178 Q
                              refine E_aload_n (v := 0) dX12_ahead_239 rfl ?_
                              refine E_getR fg_RX12_62 dX12_ahead_240 sM_0 rfl rM_0_35 (Nat.succ_ne_zero _) ?_
                              refine E_iload (v := x5_113_18) dX12_ahead_243 rfl ?_
                              refine E_iload (v := y197) dX12_ahead_245 rfl ?_
                              obtain ⟨w198, ew198, hf⟩ := lw_some hf
                              try dsimp only at hf
                              refine E_iast (n := 64) dX12_ahead_247 sM_17 (by decide) (inb_in hi177) ?_
                              rw [← ew198]
                              refine E_iinc (ls' := [some (.ref 0), some (.int a0), some (.int a1), some (.int 64), some (.int x4_104_17), some (.int (x5_113_18 + 1)), some (.int y197), none, none]) 1 dX12_ahead_248 rfl ic_1 rfl rfl rfl ?_
                              refine E_goto 113 dX12_ahead_251 (by decide) ?_
                              obtain rfl := Option.some.inj hf
                              refine E.fewer (ls' := [some (.ref 0), some (.int a0), some (.int a1), some (.int 64), some (.int x4_104_17), some (.int (x5_113_18 + 1)), none, none, none]) ⟨Or.inr rfl, ⟨Or.inr rfl, ⟨Or.inr rfl, ⟨Or.inr rfl, ⟨Or.inr rfl, ⟨Or.inr rfl, ⟨Or.inl rfl, ⟨Or.inl rfl, ⟨Or.inl rfl, trivial⟩⟩⟩⟩⟩⟩⟩⟩⟩ ?_
                              exact k9
                          · rw [if_neg hc184] at hf
                            refine E_goto 248 dX12_ahead_149 (by decide) ?_
                            refine E_iinc (ls' := [some (.ref 0), some (.int a0), some (.int a1), some (.int 64), some (.int x4_104_17), some (.int (x5_113_18 + 1)), none, none, none]) 1 dX12_ahead_248 rfl ic_1 rfl rfl rfl ?_
                            refine E_goto 113 dX12_ahead_251 (by decide) ?_
                            obtain rfl := Option.some.inj hf
                            exact k9
                    · skip
                      obtain ⟨w200, hq9⟩ : ∃ a, a = q := ⟨_, rfl⟩
                      subst hq9
                      try dsimp only at hf
                      show E PM RX12 cX12_ahead 9 7 254 [some (.ref 0), some (.int a0), some (.int a1), some (.int 64), some (.int x4_104_17), none, none, none, none] [] w200 Q
                      refine E_iconst 0 dX12_ahead_254 ic_0 ?_
                      refine E_istore (ls' := [some (.ref 0), some (.int a0), some (.int a1), some (.int 64), some (.int x4_104_17), some (.int 0), none, none, none]) dX12_ahead_255 rfl rfl rfl ?_
                      obtain ⟨q, hw204, hf⟩ := bd_some hf
                      try dsimp only at hf
                      show (fun (s : Int32 × AW) => E PM RX12 cX12_ahead 9 7 257 [some (.ref 0), some (.int a0), some (.int a1), some (.int 64), some (.int x4_104_17), some (.int s.1), none, none, none] [] s.2 Q) (0, w200)
                      refine wh_E (K := (fun (s : Int32 × AW) => E PM RX12 cX12_ahead 9 7 257 [some (.ref 0), some (.int a0), some (.int a1), some (.int 64), some (.int x4_104_17), some (.int s.1), none, none, none] [] s.2 Q)) (X := (fun (s : AW) => E PM RX12 cX12_ahead 9 7 283 [some (.ref 0), some (.int a0), some (.int a1), some (.int 64), some (.int x4_104_17), none, none, none, none] [] s Q)) ?_ hw204 ?_
                      · intro s9 z9 hf k9
                        obtain ⟨x5_257_20, w_257_20⟩ := s9
                        dsimp only [lbX12_ahead_257_20] at hf
                        show E PM RX12 cX12_ahead 9 7 257 [some (.ref 0), some (.int a0), some (.int a1), some (.int 64), some (.int x4_104_17), some (.int x5_257_20), none, none, none] [] w_257_20 Q
                        refine E_iload (v := x5_257_20) dX12_ahead_257 rfl ?_
                        refine E_iload_n (v := 64) dX12_ahead_259 rfl ?_
                        refine E_icmp_ge 283 dX12_ahead_260 (by decide) (fun hc201 => ?_) (fun hc201 => ?_)
                        · rw [if_pos hc201] at hf
                          obtain rfl := Option.some.inj hf
                          refine E.fewer (ls' := [some (.ref 0), some (.int a0), some (.int a1), some (.int 64), some (.int x4_104_17), none, none, none, none]) ⟨Or.inr rfl, ⟨Or.inr rfl, ⟨Or.inr rfl, ⟨Or.inr rfl, ⟨Or.inr rfl, ⟨Or.inl rfl, ⟨Or.inl rfl, ⟨Or.inl rfl, ⟨Or.inl rfl, trivial⟩⟩⟩⟩⟩⟩⟩⟩⟩ ?_
                          exact k9
                        · rw [if_neg hc201] at hf
                          refine E_aload_n (v := 0) dX12_ahead_263 rfl ?_
                          refine E_getR fg_RX12_59 dX12_ahead_264 sM_0 rfl rM_0_34 (Nat.succ_ne_zero _) ?_
                          refine E_iload (v := x5_257_20) dX12_ahead_267 rfl ?_
                          refine E_aload_n (v := 0) dX12_ahead_269 rfl ?_
                          refine E_getR fg_RX12_62 dX12_ahead_270 sM_0 rfl rM_0_35 (Nat.succ_ne_zero _) ?_
                          refine E_iload (v := x5_257_20) dX12_ahead_273 rfl ?_
                          obtain ⟨hi202, hf⟩ := gd_some hf
                          refine E_iald (n := 64) dX12_ahead_275 sM_17 (by decide) (inb_in hi202) ?_
                          obtain ⟨w203, ew203, hf⟩ := lw_some hf
                          try dsimp only at hf
                          refine E_iast (n := 64) dX12_ahead_276 sM_16 (by decide) (inb_in hi202) ?_
                          rw [← ew203]
                          refine E_iinc (ls' := [some (.ref 0), some (.int a0), some (.int a1), some (.int 64), some (.int x4_104_17), some (.int (x5_257_20 + 1)), none, none, none]) 1 dX12_ahead_277 rfl ic_1 rfl rfl rfl ?_
                          refine E_goto 257 dX12_ahead_280 (by decide) ?_
                          obtain rfl := Option.some.inj hf
                          exact k9
                      · skip
                        obtain ⟨w205, hq9⟩ : ∃ a, a = q := ⟨_, rfl⟩
                        subst hq9
                        try dsimp only at hf
                        show E PM RX12 cX12_ahead 9 7 283 [some (.ref 0), some (.int a0), some (.int a1), some (.int 64), some (.int x4_104_17), none, none, none, none] [] w205 Q
                        refine E_iinc (ls' := [some (.ref 0), some (.int a0), some (.int a1), some (.int 64), some (.int (x4_104_17 + 1)), none, none, none, none]) 1 dX12_ahead_283 rfl ic_1 rfl rfl rfl ?_
                        refine E_goto 104 dX12_ahead_286 (by decide) ?_
                        obtain rfl := Option.some.inj hf
                        exact k9
                · skip
                  obtain ⟨w207, hq9⟩ : ∃ a, a = q := ⟨_, rfl⟩
                  subst hq9
                  try dsimp only at hf
                  show E PM RX12 cX12_ahead 9 7 289 [some (.ref 0), some (.int a0), some (.int a1), none, none, none, none, none, none] [] w207 Q
                  refine E_aload_n (v := 0) dX12_ahead_289 rfl ?_
                  refine E_aload_n (v := 0) dX12_ahead_290 rfl ?_
                  refine E_getR fg_RX12_59 dX12_ahead_291 sM_0 rfl rM_0_34 (Nat.succ_ne_zero _) ?_
                  refine E_iconst 0 dX12_ahead_294 ic_0 ?_
                  refine E_iald (n := 64) dX12_ahead_295 sM_16 (by decide) (inb_in (by decide)) ?_
                  refine E_iconst 1 dX12_ahead_296 ic_1 ?_
                  refine E_iconst 2 dX12_ahead_297 ic_2 ?_
                  refine E_iload_n (v := a0) dX12_ahead_298 rfl ?_
                  refine E_imul dX12_ahead_299 ?_
                  refine E_ishl dX12_ahead_300 ?_
                  obtain ⟨w209, hc208, hf⟩ := bd_some hf
                  try dsimp only at hf
                  refine E_callVv (rest := []) (ci := 12) cv_RX12_321 dX12_ahead_301 (MX12_lowest hc208) rfl sM_0 rfl (by decide) rfl rfl (fun _ => Nat.le_of_ble_eq_true rfl) ?_
                  refine E_iload_n (v := a1) dX12_ahead_304 rfl ?_
                  refine E_if_ne 315 dX12_ahead_305 (by decide) (fun hc210 => ?_) (fun hc210 => ?_)
                  · rw [if_pos hc210] at hf
                    refine E_aload_n (v := 0) dX12_ahead_308 rfl ?_
                    refine E_getI fg_RX12_306 dX12_ahead_309 sM_0 rfl ?_
                    refine E_goto 319 dX12_ahead_312 (by decide) ?_
                    obtain ⟨rfl, rfl⟩ := ret2 hf
                    exact E.done (by rw [eQ]; exact ⟨rfl, Or.inl ⟨_, _, rfl, rfl, dX12_ahead_319, rfl, rfl⟩⟩)
                  · rw [if_neg hc210] at hf
                    refine E_aload_n (v := 0) dX12_ahead_315 rfl ?_
                    refine E_getI fg_RX12_309 dX12_ahead_316 sM_0 rfl ?_
                    obtain ⟨rfl, rfl⟩ := ret2 hf
                    exact E.done (by rw [eQ]; exact ⟨rfl, Or.inl ⟨_, _, rfl, rfl, dX12_ahead_319, rfl, rfl⟩⟩)
      · rw [if_neg hc7] at hf
        refine E_ldcw (-2147483648) dX12_ahead_26 wk_RX12_284 ?_
        obtain ⟨rfl, rfl⟩ := ret2 hf
        exact E.done (by rw [eQ]; exact ⟨rfl, Or.inl ⟨_, _, rfl, rfl, dX12_ahead_29, rfl, rfl⟩⟩)
