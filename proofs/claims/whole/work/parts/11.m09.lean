set_option maxRecDepth 10000 in
set_option maxHeartbeats 2000000 in
theorem MX12_lateMany {N : Nat} {a0 : Int32} {w : AW} {rZ : Int32} (hf : fX12_lateMany N a0 w = some rZ) : CallOK PM yX12_lateMany cX12_lateMany 4 (some .int) 3 [.ref 0, .int a0] w (some (.int rZ)) w := by
  refine CallOK.of (ls := [some (.ref 0), some (.int a0), none, none]) (by decide) (by simp) rfl rfl ?_
  obtain ⟨Q, eQ⟩ : ∃ Q, Q = Qret cX12_lateMany (some .int) (some (.int rZ)) w := ⟨_, rfl⟩
  rw [← eQ]
  unfold fX12_lateMany at hf
  refine E_iconst 0 dX12_lateMany_0 ic_0 ?_
  refine E_istore_n (ls' := [some (.ref 0), some (.int a0), some (.int 0), none]) dX12_lateMany_1 rfl rfl rfl ?_
  refine E_iconst 0 dX12_lateMany_2 ic_0 ?_
  refine E_istore_n (ls' := [some (.ref 0), some (.int a0), some (.int 0), some (.int 0)]) dX12_lateMany_3 rfl rfl rfl ?_
  obtain ⟨q, hw6, hf⟩ := bd_some hf
  try dsimp only at hf
  show (fun (s : Int32 × Int32) => E PM RX12 cX12_lateMany 4 3 4 [some (.ref 0), some (.int a0), some (.int s.1), some (.int s.2)] [] w Q) (0, 0)
  refine wh_E (K := (fun (s : Int32 × Int32) => E PM RX12 cX12_lateMany 4 3 4 [some (.ref 0), some (.int a0), some (.int s.1), some (.int s.2)] [] w Q)) (X := (fun (s : Int32) => E PM RX12 cX12_lateMany 4 3 36 [none, none, some (.int s), none] [] w Q)) ?_ hw6 ?_
  · intro s9 z9 hf k9
    obtain ⟨x2_4_1, x3_4_1⟩ := s9
    dsimp only [lbX12_lateMany_4_1] at hf
    show E PM RX12 cX12_lateMany 4 3 4 [some (.ref 0), some (.int a0), some (.int x2_4_1), some (.int x3_4_1)] [] w Q
    refine E_iload_n (v := x3_4_1) dX12_lateMany_4 rfl ?_
    refine E_iload_n (v := a0) dX12_lateMany_5 rfl ?_
    refine E_icmp_ge 36 dX12_lateMany_6 (by decide) (fun hc1 => ?_) (fun hc1 => ?_)
    · rw [if_pos hc1] at hf
      obtain rfl := Option.some.inj hf
      refine E.fewer (ls' := [none, none, some (.int x2_4_1), none]) ⟨Or.inl rfl, ⟨Or.inl rfl, ⟨Or.inr rfl, ⟨Or.inl rfl, trivial⟩⟩⟩⟩ ?_
      exact k9
    · rw [if_neg hc1] at hf
      refine E_iload_n (v := x2_4_1) dX12_lateMany_9 rfl ?_
      refine E_aload_n (v := 0) dX12_lateMany_10 rfl ?_
      refine E_aload_n (v := 0) dX12_lateMany_11 rfl ?_
      refine E_getR fg_RX12_47 dX12_lateMany_12 sM_0 rfl rM_0_26 (Nat.succ_ne_zero _) ?_
      refine E_iload_n (v := x3_4_1) dX12_lateMany_15 rfl ?_
      obtain ⟨hi2, hf⟩ := gd_some hf
      refine E_iald (n := 8) dX12_lateMany_16 sM_12 (by decide) (inb_in hi2) ?_
      obtain ⟨r4, hc3, hf⟩ := bd_some hf
      try dsimp only at hf
      refine E_callVi (rest := [.int x2_4_1]) (ci := 12) cv_RX12_261 dX12_lateMany_17 (MX12_isLate hc3) rfl sM_0 rfl (by decide) rfl rfl (fun _ => Nat.le_of_ble_eq_true rfl) ?_
      refine E_if_eq 27 dX12_lateMany_20 (by decide) (fun hc5 => ?_) (fun hc5 => ?_)
      · rw [if_pos hc5] at hf
        refine E_iconst 0 dX12_lateMany_27 ic_0 ?_
        refine E_iadd dX12_lateMany_28 ?_
        refine E_istore_n (ls' := [some (.ref 0), some (.int a0), some (.int (x2_4_1 + 0)), some (.int x3_4_1)]) dX12_lateMany_29 rfl rfl rfl ?_
        refine E_iinc (ls' := [some (.ref 0), some (.int a0), some (.int (x2_4_1 + 0)), some (.int (x3_4_1 + 1))]) 1 dX12_lateMany_30 rfl ic_1 rfl rfl rfl ?_
        refine E_goto 4 dX12_lateMany_33 (by decide) ?_
        obtain rfl := Option.some.inj hf
        exact k9
      · rw [if_neg hc5] at hf
        refine E_iconst 1 dX12_lateMany_23 ic_1 ?_
        refine E_goto 28 dX12_lateMany_24 (by decide) ?_
        refine E_iadd dX12_lateMany_28 ?_
        refine E_istore_n (ls' := [some (.ref 0), some (.int a0), some (.int (x2_4_1 + 1)), some (.int x3_4_1)]) dX12_lateMany_29 rfl rfl rfl ?_
        refine E_iinc (ls' := [some (.ref 0), some (.int a0), some (.int (x2_4_1 + 1)), some (.int (x3_4_1 + 1))]) 1 dX12_lateMany_30 rfl ic_1 rfl rfl rfl ?_
        refine E_goto 4 dX12_lateMany_33 (by decide) ?_
        obtain rfl := Option.some.inj hf
        exact k9
  · skip
    obtain ⟨y7, hq9⟩ : ∃ a, a = q := ⟨_, rfl⟩
    subst hq9
    try dsimp only at hf
    show E PM RX12 cX12_lateMany 4 3 36 [none, none, some (.int y7), none] [] w Q
    refine E_iload_n (v := y7) dX12_lateMany_36 rfl ?_
    obtain rfl := Option.some.inj hf
    exact E.done (by rw [eQ]; exact ⟨rfl, Or.inl ⟨_, _, rfl, rfl, dX12_lateMany_37, rfl, rfl⟩⟩)
set_option maxRecDepth 10000 in
set_option maxHeartbeats 2000000 in
theorem MX12_fewest {N : Nat} {w : AW} {rZ : Int32} {wZ : AW} (hf : fX12_fewest N w = some (rZ, wZ)) : CallOK PM yX12_fewest cX12_fewest 5 (some .int) 5 [.ref 0] w (some (.int rZ)) wZ := by
  refine CallOK.of (ls := [some (.ref 0), none, none, none, none]) (by decide) (by simp) rfl rfl ?_
  obtain ⟨Q, eQ⟩ : ∃ Q, Q = Qret cX12_fewest (some .int) (some (.int rZ)) wZ := ⟨_, rfl⟩
  rw [← eQ]
  unfold fX12_fewest at hf
  refine E_aload_n (v := 0) dX12_fewest_0 rfl ?_
  refine E_aload_n (v := 0) dX12_fewest_1 rfl ?_
  refine E_getI fg_RX12_96 dX12_fewest_2 sM_0 rfl ?_
  refine E_iconst (-1) dX12_fewest_5 ic_m1 ?_
  obtain ⟨r2, w3, hc1, hf⟩ := bd2_some hf
  try dsimp only at hf
  refine E_callVi (rest := []) (ci := 12) cv_RX12_281 dX12_fewest_6 (MX12_firstOrder hc1) rfl sM_0 rfl (by decide) rfl rfl (fun _ => Nat.le_of_ble_eq_true rfl) ?_
  refine E_istore_n (ls' := [some (.ref 0), some (.int r2), none, none, none]) dX12_fewest_9 rfl rfl rfl ?_
  refine E_bipush 9 dX12_fewest_10 bp_9 ?_
  refine E_istore_n (ls' := [some (.ref 0), some (.int r2), some (.int 9), none, none]) dX12_fewest_12 rfl rfl rfl ?_
  refine E_iconst 1 dX12_fewest_13 ic_1 ?_
  refine E_istore_n (ls' := [some (.ref 0), some (.int r2), some (.int 9), some (.int 1), none]) dX12_fewest_14 rfl rfl rfl ?_
  obtain ⟨q, hw19, hf⟩ := bd_some hf
  try dsimp only at hf
  show (fun (s : Int32 × Int32 × AW) => E PM RX12 cX12_fewest 5 5 15 [some (.ref 0), some (.int r2), some (.int s.1), some (.int s.2.1), none] [] s.2.2 Q) (9, 1, w3)
  refine wh_E (K := (fun (s : Int32 × Int32 × AW) => E PM RX12 cX12_fewest 5 5 15 [some (.ref 0), some (.int r2), some (.int s.1), some (.int s.2.1), none] [] s.2.2 Q)) (X := (fun (s : Int32 × AW) => E PM RX12 cX12_fewest 5 5 55 [none, none, some (.int s.1), none, none] [] s.2 Q)) ?_ hw19 ?_
  · intro s9 z9 hf k9
    obtain ⟨x2_15_1, x3_15_1, w_15_1⟩ := s9
    dsimp only [lbX12_fewest_15_1] at hf
    show E PM RX12 cX12_fewest 5 5 15 [some (.ref 0), some (.int r2), some (.int x2_15_1), some (.int x3_15_1), none] [] w_15_1 Q
    refine E_iload_n (v := x3_15_1) dX12_fewest_15 rfl ?_
    refine E_if_eq 55 dX12_fewest_16 (by decide) (fun hc5 => ?_) (fun hc5 => ?_)
    · rw [if_pos hc5] at hf
      obtain rfl := Option.some.inj hf
      refine E.fewer (ls' := [none, none, some (.int x2_15_1), none, none]) ⟨Or.inl rfl, ⟨Or.inl rfl, ⟨Or.inr rfl, ⟨Or.inl rfl, ⟨Or.inl rfl, trivial⟩⟩⟩⟩⟩ ?_
      exact k9
    · rw [if_neg hc5] at hf
      refine E_aload_n (v := 0) dX12_fewest_19 rfl ?_
      refine E_iload_n (v := r2) dX12_fewest_20 rfl ?_
      refine E_iconst 0 dX12_fewest_21 ic_0 ?_
      refine E_iconst 0 dX12_fewest_22 ic_0 ?_
      obtain ⟨w7, hc6, hf⟩ := bd_some hf
      try dsimp only at hf
      refine E_callVv (rest := []) (ci := 12) cv_RX12_267 dX12_fewest_23 (MX12_worksAll hc6) rfl sM_0 rfl (by decide) rfl rfl (fun _ => Nat.le_of_ble_eq_true rfl) ?_
      refine E_aload_n (v := 0) dX12_fewest_26 rfl ?_
      refine E_iload_n (v := r2) dX12_fewest_27 rfl ?_
      obtain ⟨r9, hc8, hf⟩ := bd_some hf
      try dsimp only at hf
      refine E_callVi (rest := []) (ci := 12) cv_RX12_303 dX12_fewest_28 (MX12_lateMany hc8) rfl sM_0 rfl (by decide) rfl rfl (fun _ => Nat.le_of_ble_eq_true rfl) ?_
      refine E_istore (ls' := [some (.ref 0), some (.int r2), some (.int x2_15_1), some (.int x3_15_1), some (.int r9)]) dX12_fewest_31 rfl rfl rfl ?_
      refine E_iload (v := r9) dX12_fewest_33 rfl ?_
      refine E_iload_n (v := x2_15_1) dX12_fewest_35 rfl ?_
      refine E_icmp_ge 44 dX12_fewest_36 (by decide) (fun hc10 => ?_) (fun hc10 => ?_)
      · rw [if_pos hc10] at hf
        refine E_iload_n (v := x2_15_1) dX12_fewest_44 rfl ?_
        refine E_istore_n (ls' := [some (.ref 0), some (.int r2), some (.int x2_15_1), some (.int x3_15_1), some (.int r9)]) dX12_fewest_45 rfl rfl rfl ?_
        refine E_aload_n (v := 0) dX12_fewest_46 rfl ?_
        refine E_iload_n (v := r2) dX12_fewest_47 rfl ?_
        obtain ⟨r12, w13, hc11, hf⟩ := bd2_some hf
        try dsimp only at hf
        refine E_callVi (rest := []) (ci := 12) cv_RX12_288 dX12_fewest_48 (MX12_nextOrder hc11) rfl sM_0 rfl (by decide) rfl rfl (fun _ => Nat.le_of_ble_eq_true rfl) ?_
        refine E_istore_n (ls' := [some (.ref 0), some (.int r2), some (.int x2_15_1), some (.int r12), some (.int r9)]) dX12_fewest_51 rfl rfl rfl ?_
        refine E_goto 15 dX12_fewest_52 (by decide) ?_
        obtain rfl := Option.some.inj hf
        refine E.fewer (ls' := [some (.ref 0), some (.int r2), some (.int x2_15_1), some (.int r12), none]) ⟨Or.inr rfl, ⟨Or.inr rfl, ⟨Or.inr rfl, ⟨Or.inr rfl, ⟨Or.inl rfl, trivial⟩⟩⟩⟩⟩ ?_
        exact k9
      · rw [if_neg hc10] at hf
        refine E_iload (v := r9) dX12_fewest_39 rfl ?_
        refine E_goto 45 dX12_fewest_41 (by decide) ?_
        refine E_istore_n (ls' := [some (.ref 0), some (.int r2), some (.int r9), some (.int x3_15_1), some (.int r9)]) dX12_fewest_45 rfl rfl rfl ?_
        refine E_aload_n (v := 0) dX12_fewest_46 rfl ?_
        refine E_iload_n (v := r2) dX12_fewest_47 rfl ?_
        obtain ⟨r16, w17, hc15, hf⟩ := bd2_some hf
        try dsimp only at hf
        refine E_callVi (rest := []) (ci := 12) cv_RX12_288 dX12_fewest_48 (MX12_nextOrder hc15) rfl sM_0 rfl (by decide) rfl rfl (fun _ => Nat.le_of_ble_eq_true rfl) ?_
        refine E_istore_n (ls' := [some (.ref 0), some (.int r2), some (.int r9), some (.int r16), some (.int r9)]) dX12_fewest_51 rfl rfl rfl ?_
        refine E_goto 15 dX12_fewest_52 (by decide) ?_
        obtain rfl := Option.some.inj hf
        refine E.fewer (ls' := [some (.ref 0), some (.int r2), some (.int r9), some (.int r16), none]) ⟨Or.inr rfl, ⟨Or.inr rfl, ⟨Or.inr rfl, ⟨Or.inr rfl, ⟨Or.inl rfl, trivial⟩⟩⟩⟩⟩ ?_
        exact k9
  · skip
    obtain ⟨y20, w21⟩ := q
    try dsimp only at hf
    show E PM RX12 cX12_fewest 5 5 55 [none, none, some (.int y20), none, none] [] w21 Q
    refine E_iload_n (v := y20) dX12_fewest_55 rfl ?_
    obtain ⟨rfl, rfl⟩ := ret2 hf
    exact E.done (by rw [eQ]; exact ⟨rfl, Or.inl ⟨_, _, rfl, rfl, dX12_fewest_56, rfl, rfl⟩⟩)
set_option maxRecDepth 10000 in
set_option maxHeartbeats 2000000 in
theorem MX12_isLike {a0 : Int32} {a1 : Int32} {a2 : Int32} {w : AW} {rZ : Int32} (hf : fX12_isLike a0 a1 a2 w = some rZ) : CallOK PM yX12_isLike cX12_isLike 3 (some .boolean) 3 [.int a0, .int a1, .int a2] w (some (.int rZ)) w := by
  refine CallOK.of (ls := [some (.int a0), some (.int a1), some (.int a2)]) (by decide) (by simp) rfl rfl ?_
  obtain ⟨Q, eQ⟩ : ∃ Q, Q = Qret cX12_isLike (some .boolean) (some (.int rZ)) w := ⟨_, rfl⟩
  rw [← eQ]
  unfold fX12_isLike at hf
  refine E_iload_n (v := a0) dX12_isLike_0 rfl ?_
  refine E_iconst 0 dX12_isLike_1 ic_0 ?_
  refine E_iconst 5 dX12_isLike_2 ic_5 ?_
  obtain ⟨r2, hc1, hf⟩ := bd_some hf
  try dsimp only at hf
  refine E_callSi (rest := []) cs_RX12_99 dX12_isLike_3 (MX12_in hc1) rfl rfl rfl (fun _ => Nat.le_of_ble_eq_true rfl) ?_
  refine E_if_eq 30 dX12_isLike_6 (by decide) (fun hc3 => ?_) (fun hc3 => ?_)
  · rw [if_pos hc3] at hf
    refine E_iconst 0 dX12_isLike_30 ic_0 ?_
    obtain rfl := Option.some.inj hf
    exact E.done (by rw [eQ]; exact ⟨rfl, Or.inl ⟨_, _, rfl, rfl, dX12_isLike_31, rfl, rfl⟩⟩)
  · rw [if_neg hc3] at hf
    refine E_iload_n (v := a1) dX12_isLike_9 rfl ?_
    refine E_iconst 1 dX12_isLike_10 ic_1 ?_
    refine E_bipush 9 dX12_isLike_11 bp_9 ?_
    obtain ⟨r5, hc4, hf⟩ := bd_some hf
    try dsimp only at hf
    refine E_callSi (rest := []) cs_RX12_99 dX12_isLike_13 (MX12_in hc4) rfl rfl rfl (fun _ => Nat.le_of_ble_eq_true rfl) ?_
    refine E_if_eq 30 dX12_isLike_16 (by decide) (fun hc6 => ?_) (fun hc6 => ?_)
    · rw [if_pos hc6] at hf
      refine E_iconst 0 dX12_isLike_30 ic_0 ?_
      obtain rfl := Option.some.inj hf
      exact E.done (by rw [eQ]; exact ⟨rfl, Or.inl ⟨_, _, rfl, rfl, dX12_isLike_31, rfl, rfl⟩⟩)
    · rw [if_neg hc6] at hf
      refine E_iload_n (v := a2) dX12_isLike_19 rfl ?_
      obtain ⟨r8, hc7, hf⟩ := bd_some hf
      try dsimp only at hf
      refine E_callSi (rest := []) cs_RX12_103 dX12_isLike_20 (MX12_isSide hc7) rfl rfl rfl (fun _ => Nat.le_of_ble_eq_true rfl) ?_
      refine E_if_eq 30 dX12_isLike_23 (by decide) (fun hc9 => ?_) (fun hc9 => ?_)
      · rw [if_pos hc9] at hf
        refine E_iconst 0 dX12_isLike_30 ic_0 ?_
        obtain rfl := Option.some.inj hf
        exact E.done (by rw [eQ]; exact ⟨rfl, Or.inl ⟨_, _, rfl, rfl, dX12_isLike_31, rfl, rfl⟩⟩)
      · rw [if_neg hc9] at hf
        refine E_iconst 1 dX12_isLike_26 ic_1 ?_
        refine E_goto 31 dX12_isLike_27 (by decide) ?_
        obtain rfl := Option.some.inj hf
        exact E.done (by rw [eQ]; exact ⟨rfl, Or.inl ⟨_, _, rfl, rfl, dX12_isLike_31, rfl, rfl⟩⟩)
set_option maxRecDepth 10000 in
set_option maxHeartbeats 2000000 in
theorem MX12_isPromised {a0 : Int32} {a1 : Int32} {w : AW} {rZ : Int32} (hf : fX12_isPromised a0 a1 w = some rZ) : CallOK PM yX12_isPromised cX12_isPromised 2 (some .boolean) 2 [.int a0, .int a1] w (some (.int rZ)) w := by
  refine CallOK.of (ls := [some (.int a0), some (.int a1)]) (by decide) (by simp) rfl rfl ?_
  obtain ⟨Q, eQ⟩ : ∃ Q, Q = Qret cX12_isPromised (some .boolean) (some (.int rZ)) w := ⟨_, rfl⟩
  rw [← eQ]
  unfold fX12_isPromised at hf
  refine E_iload_n (v := a0) dX12_isPromised_0 rfl ?_
  refine E_iconst 0 dX12_isPromised_1 ic_0 ?_
  refine E_bipush 60 dX12_isPromised_2 bp_60 ?_
  obtain ⟨r2, hc1, hf⟩ := bd_some hf
  try dsimp only at hf
  refine E_callSi (rest := []) cs_RX12_99 dX12_isPromised_4 (MX12_in hc1) rfl rfl rfl (fun _ => Nat.le_of_ble_eq_true rfl) ?_
  refine E_if_eq 24 dX12_isPromised_7 (by decide) (fun hc3 => ?_) (fun hc3 => ?_)
  · rw [if_pos hc3] at hf
    refine E_iconst 0 dX12_isPromised_24 ic_0 ?_
    obtain rfl := Option.some.inj hf
    exact E.done (by rw [eQ]; exact ⟨rfl, Or.inl ⟨_, _, rfl, rfl, dX12_isPromised_25, rfl, rfl⟩⟩)
  · rw [if_neg hc3] at hf
    refine E_iload_n (v := a1) dX12_isPromised_10 rfl ?_
    refine E_iconst 0 dX12_isPromised_11 ic_0 ?_
    refine E_bipush 99 dX12_isPromised_12 bp_99 ?_
    obtain ⟨r5, hc4, hf⟩ := bd_some hf
    try dsimp only at hf
    refine E_callSi (rest := []) cs_RX12_99 dX12_isPromised_14 (MX12_in hc4) rfl rfl rfl (fun _ => Nat.le_of_ble_eq_true rfl) ?_
    refine E_if_eq 24 dX12_isPromised_17 (by decide) (fun hc6 => ?_) (fun hc6 => ?_)
    · rw [if_pos hc6] at hf
      refine E_iconst 0 dX12_isPromised_24 ic_0 ?_
      obtain rfl := Option.some.inj hf
      exact E.done (by rw [eQ]; exact ⟨rfl, Or.inl ⟨_, _, rfl, rfl, dX12_isPromised_25, rfl, rfl⟩⟩)
    · rw [if_neg hc6] at hf
      refine E_iconst 1 dX12_isPromised_20 ic_1 ?_
      refine E_goto 25 dX12_isPromised_21 (by decide) ?_
      obtain rfl := Option.some.inj hf
      exact E.done (by rw [eQ]; exact ⟨rfl, Or.inl ⟨_, _, rfl, rfl, dX12_isPromised_25, rfl, rfl⟩⟩)
set_option maxRecDepth 10000 in
set_option maxHeartbeats 2000000 in
theorem MX12_gain {N : Nat} {a0 : Int32} {a1 : Int32} {a2 : Int32} {a3 : Int32} {a4 : Int32} {w : AW} {rZ : Int32} {wZ : AW} (hf : fX12_gain N a0 a1 a2 a3 a4 w = some (rZ, wZ)) : CallOK PM yX12_gain cX12_gain 7 (some .int) 6 [.ref 0, .int a0, .int a1, .int a2, .int a3, .int a4] w (some (.int rZ)) wZ := by
  refine CallOK.of (ls := [some (.ref 0), some (.int a0), some (.int a1), some (.int a2), some (.int a3), some (.int a4), none]) (by decide) (by simp) rfl rfl ?_
  obtain ⟨Q, eQ⟩ : ∃ Q, Q = Qret cX12_gain (some .int) (some (.int rZ)) wZ := ⟨_, rfl⟩
  rw [← eQ]
  unfold fX12_gain at hf
  refine E_iload_n (v := a0) dX12_gain_0 rfl ?_
  refine E_iload_n (v := a1) dX12_gain_1 rfl ?_
  refine E_iload_n (v := a2) dX12_gain_2 rfl ?_
  obtain ⟨r2, hc1, hf⟩ := bd_some hf
  try dsimp only at hf
  refine E_callSi (rest := []) cs_RX12_232 dX12_gain_3 (MX12_isLike hc1) rfl rfl rfl (fun _ => Nat.le_of_ble_eq_true rfl) ?_
  refine E_if_eq 28 dX12_gain_6 (by decide) (fun hc3 => ?_) (fun hc3 => ?_)
  · rw [if_pos hc3] at hf
    refine E_ldcw (-2147483648) dX12_gain_28 wk_RX12_284 ?_
    obtain ⟨rfl, rfl⟩ := ret2 hf
    exact E.done (by rw [eQ]; exact ⟨rfl, Or.inl ⟨_, _, rfl, rfl, dX12_gain_31, rfl, rfl⟩⟩)
  · rw [if_neg hc3] at hf
    refine E_iload (v := a3) dX12_gain_9 rfl ?_
    refine E_iload (v := a4) dX12_gain_11 rfl ?_
    obtain ⟨r5, hc4, hf⟩ := bd_some hf
    try dsimp only at hf
    refine E_callSi (rest := []) cs_RX12_235 dX12_gain_13 (MX12_isPromised hc4) rfl rfl rfl (fun _ => Nat.le_of_ble_eq_true rfl) ?_
    refine E_if_eq 28 dX12_gain_16 (by decide) (fun hc6 => ?_) (fun hc6 => ?_)
    · rw [if_pos hc6] at hf
      refine E_ldcw (-2147483648) dX12_gain_28 wk_RX12_284 ?_
      obtain ⟨rfl, rfl⟩ := ret2 hf
      exact E.done (by rw [eQ]; exact ⟨rfl, Or.inl ⟨_, _, rfl, rfl, dX12_gain_31, rfl, rfl⟩⟩)
    · rw [if_neg hc6] at hf
      refine E_aload_n (v := 0) dX12_gain_19 rfl ?_
      refine E_getI fg_RX12_96 dX12_gain_20 sM_0 rfl ?_
      refine E_bipush 6 dX12_gain_23 bp_6 ?_
      refine E_icmp_ne 32 dX12_gain_25 (by decide) (fun hc7 => ?_) (fun hc7 => ?_)
      · rw [if_pos hc7] at hf
        refine E_ldcw (-2147483648) dX12_gain_28 wk_RX12_284 ?_
        obtain ⟨rfl, rfl⟩ := ret2 hf
        exact E.done (by rw [eQ]; exact ⟨rfl, Or.inl ⟨_, _, rfl, rfl, dX12_gain_31, rfl, rfl⟩⟩)
      · rw [if_neg hc7] at hf
        refine E_aload_n (v := 0) dX12_gain_32 rfl ?_
        refine E_aload_n (v := 0) dX12_gain_33 rfl ?_
        refine E_getI fg_RX12_96 dX12_gain_34 sM_0 rfl ?_
        refine E_iconst (-1) dX12_gain_37 ic_m1 ?_
        obtain ⟨r9, w10, hc8, hf⟩ := bd2_some hf
        try dsimp only at hf
        refine E_callVi (rest := []) (ci := 12) cv_RX12_297 dX12_gain_38 (MX12_mostOfAll hc8) rfl sM_0 rfl (by decide) rfl rfl (fun _ => Nat.le_of_ble_eq_true rfl) ?_
        refine E_istore (ls' := [some (.ref 0), some (.int a0), some (.int a1), some (.int a2), some (.int a3), some (.int a4), some (.int r9)]) dX12_gain_41 rfl rfl rfl ?_
        refine E_aload_n (v := 0) dX12_gain_43 rfl ?_
        refine E_aload_n (v := 0) dX12_gain_44 rfl ?_
        refine E_getI fg_RX12_96 dX12_gain_45 sM_0 rfl ?_
        refine E_iload_n (v := a0) dX12_gain_48 rfl ?_
        refine E_iload_n (v := a1) dX12_gain_49 rfl ?_
        refine E_iload_n (v := a2) dX12_gain_50 rfl ?_
        refine E_iload (v := a3) dX12_gain_51 rfl ?_
        refine E_iload (v := a4) dX12_gain_53 rfl ?_
        obtain ⟨w13, hc12, hf⟩ := bd_some hf
        try dsimp only at hf
        refine E_callVv (rest := []) (ci := 12) cv_RX12_213 dX12_gain_55 (MX12_lay hc12) rfl sM_0 rfl (by decide) rfl rfl (fun _ => Nat.le_of_ble_eq_true rfl) ?_
        refine E_aload_n (v := 0) dX12_gain_58 rfl ?_
        refine E_aload_n (v := 0) dX12_gain_59 rfl ?_
        refine E_getI fg_RX12_96 dX12_gain_60 sM_0 rfl ?_
        refine E_iconst 1 dX12_gain_63 ic_1 ?_
        refine E_iadd dX12_gain_64 ?_
        refine E_iconst (-1) dX12_gain_65 ic_m1 ?_
        obtain ⟨r15, w16, hc14, hf⟩ := bd2_some hf
        try dsimp only at hf
        refine E_callVi (rest := []) (ci := 12) cv_RX12_297 dX12_gain_66 (MX12_mostOfAll hc14) rfl sM_0 rfl (by decide) rfl rfl (fun _ => Nat.le_of_ble_eq_true rfl) ?_
        refine E_iload (v := r9) dX12_gain_69 rfl ?_
        refine E_isub dX12_gain_71 ?_
        obtain ⟨rfl, rfl⟩ := ret2 hf
        exact E.done (by rw [eQ]; exact ⟨rfl, Or.inl ⟨_, _, rfl, rfl, dX12_gain_72, rfl, rfl⟩⟩)
set_option maxRecDepth 10000 in
set_option maxHeartbeats 2000000 in
theorem MX12_goes {N : Nat} {w : AW} {rZ : Int32} {wZ : AW} (hf : fX12_goes N w = some (rZ, wZ)) : CallOK PM yX12_goes cX12_goes 5 (some .int) 4 [.ref 0] w (some (.int rZ)) wZ := by
  refine CallOK.of (ls := [some (.ref 0), none, none, none, none]) (by decide) (by simp) rfl rfl ?_
  obtain ⟨Q, eQ⟩ : ∃ Q, Q = Qret cX12_goes (some .int) (some (.int rZ)) wZ := ⟨_, rfl⟩
  rw [← eQ]
  unfold fX12_goes at hf
  refine E_aload_n (v := 0) dX12_goes_0 rfl ?_
  refine E_getI fg_RX12_217 dX12_goes_1 sM_0 rfl ?_
  refine E_bipush 60 dX12_goes_4 bp_60 ?_
  refine E_icmp_ne 12 dX12_goes_6 (by decide) (fun hc1 => ?_) (fun hc1 => ?_)
  · rw [if_pos hc1] at hf
    refine E_bipush (-4) dX12_goes_9 bp_m4 ?_
    obtain ⟨rfl, rfl⟩ := ret2 hf
    exact E.done (by rw [eQ]; exact ⟨rfl, Or.inl ⟨_, _, rfl, rfl, dX12_goes_11, rfl, rfl⟩⟩)
  · rw [if_neg hc1] at hf
    refine E_aload_n (v := 0) dX12_goes_12 rfl ?_
    refine E_aload_n (v := 0) dX12_goes_13 rfl ?_
    refine E_getI fg_RX12_96 dX12_goes_14 sM_0 rfl ?_
    refine E_iconst 0 dX12_goes_17 ic_0 ?_
    obtain ⟨w3, hc2, hf⟩ := bd_some hf
    try dsimp only at hf
    refine E_callVv (rest := []) (ci := 12) cv_RX12_291 dX12_goes_18 (MX12_lends hc2) rfl sM_0 rfl (by decide) rfl rfl (fun _ => Nat.le_of_ble_eq_true rfl) ?_
    refine E_aload_n (v := 0) dX12_goes_21 rfl ?_
    refine E_aload_n (v := 0) dX12_goes_22 rfl ?_
    refine E_getI fg_RX12_217 dX12_goes_23 sM_0 rfl ?_
    obtain ⟨r5, hc4, hf⟩ := bd_some hf
    try dsimp only at hf
    refine E_callVi (rest := []) (ci := 12) cv_RX12_248 dX12_goes_26 (MX12_slotsOf hc4) rfl sM_0 rfl (by decide) rfl rfl (fun _ => Nat.le_of_ble_eq_true rfl) ?_
    refine E_istore_n (ls' := [some (.ref 0), some (.int r5), none, none, none]) dX12_goes_29 rfl rfl rfl ?_
    refine E_iconst 0 dX12_goes_30 ic_0 ?_
    refine E_istore_n (ls' := [some (.ref 0), some (.int r5), some (.int 0), none, none]) dX12_goes_31 rfl rfl rfl ?_
    refine E_iconst 0 dX12_goes_32 ic_0 ?_
    refine E_istore_n (ls' := [some (.ref 0), some (.int r5), some (.int 0), some (.int 0), none]) dX12_goes_33 rfl rfl rfl ?_
    obtain ⟨q, hw19, hf⟩ := bd_some hf
    try dsimp only at hf
    show (fun (s : Int32 × Int32 × Int32 × AW) => E PM RX12 cX12_goes 5 4 34 [some (.ref 0), some (.int s.1), some (.int s.2.1), some (.int s.2.2.1), none] [] s.2.2.2 Q) (r5, 0, 0, w3)
    refine wh_E (K := (fun (s : Int32 × Int32 × Int32 × AW) => E PM RX12 cX12_goes 5 4 34 [some (.ref 0), some (.int s.1), some (.int s.2.1), some (.int s.2.2.1), none] [] s.2.2.2 Q)) (X := (fun (s : Int32 × AW) => E PM RX12 cX12_goes 5 4 105 [some (.ref 0), none, none, some (.int s.1), none] [] s.2 Q)) ?_ hw19 ?_
    · intro s9 z9 hf k9
      obtain ⟨x1_34_1, x2_34_1, x3_34_1, w_34_1⟩ := s9
      dsimp only [lbX12_goes_34_1] at hf
      show E PM RX12 cX12_goes 5 4 34 [some (.ref 0), some (.int x1_34_1), some (.int x2_34_1), some (.int x3_34_1), none] [] w_34_1 Q
      refine E_iload_n (v := x1_34_1) dX12_goes_34 rfl ?_
      refine E_if_le 105 dX12_goes_35 (by decide) (fun hc6 => ?_) (fun hc6 => ?_)
      · rw [if_pos hc6] at hf
        obtain rfl := Option.some.inj hf
        refine E.fewer (ls' := [some (.ref 0), none, none, some (.int x3_34_1), none]) ⟨Or.inr rfl, ⟨Or.inl rfl, ⟨Or.inl rfl, ⟨Or.inr rfl, ⟨Or.inl rfl, trivial⟩⟩⟩⟩⟩ ?_
        exact k9
      · rw [if_neg hc6] at hf
        refine E_iload_n (v := x2_34_1) dX12_goes_38 rfl ?_
        refine E_aload_n (v := 0) dX12_goes_39 rfl ?_
        refine E_getI fg_RX12_96 dX12_goes_40 sM_0 rfl ?_
        refine E_icmp_ge 105 dX12_goes_43 (by decide) (fun hc7 => ?_) (fun hc7 => ?_)
        · rw [if_pos hc7] at hf
          obtain rfl := Option.some.inj hf
          refine E.fewer (ls' := [some (.ref 0), none, none, some (.int x3_34_1), none]) ⟨Or.inr rfl, ⟨Or.inl rfl, ⟨Or.inl rfl, ⟨Or.inr rfl, ⟨Or.inl rfl, trivial⟩⟩⟩⟩⟩ ?_
          exact k9
        · rw [if_neg hc7] at hf
          refine E_iinc (ls' := [some (.ref 0), some (.int (x1_34_1 + (-1))), some (.int x2_34_1), some (.int x3_34_1), none]) (-1) dX12_goes_46 rfl ic_m1 rfl rfl rfl ?_
          refine E_aload_n (v := 0) dX12_goes_49 rfl ?_
          refine E_aload_n (v := 0) dX12_goes_50 rfl ?_
          refine E_getR fg_RX12_28 dX12_goes_51 sM_0 rfl rM_0_11 (Nat.succ_ne_zero _) ?_
          refine E_iload_n (v := x2_34_1) dX12_goes_54 rfl ?_
          obtain ⟨hi8, hf⟩ := gd_some hf
          refine E_iald (n := 8) dX12_goes_55 sM_7 (by decide) (inb_in hi8) ?_
          obtain ⟨r10, w11, hc9, hf⟩ := bd2_some hf
          try dsimp only at hf
          refine E_callVi (rest := []) (ci := 12) cv_RX12_294 dX12_goes_56 (MX12_works hc9) rfl sM_0 rfl (by decide) rfl rfl (fun _ => Nat.le_of_ble_eq_true rfl) ?_
          refine E_if_eq 34 dX12_goes_59 (by decide) (fun hc13 => ?_) (fun hc13 => ?_)
          · rw [if_pos hc13] at hf
            obtain rfl := Option.some.inj hf
            exact k9
          · rw [if_neg hc13] at hf
            refine E_aload_n (v := 0) dX12_goes_62 rfl ?_
            refine E_getR fg_RX12_53 dX12_goes_63 sM_0 rfl rM_0_28 (Nat.succ_ne_zero _) ?_
            refine E_aload_n (v := 0) dX12_goes_66 rfl ?_
            refine E_getR fg_RX12_28 dX12_goes_67 sM_0 rfl rM_0_11 (Nat.succ_ne_zero _) ?_
            refine E_iload_n (v := x2_34_1) dX12_goes_70 rfl ?_
            refine E_iald (n := 8) dX12_goes_71 sM_7 (by decide) (inb_in hi8) ?_
            refine E_aload_n (v := 0) dX12_goes_72 rfl ?_
            refine E_getI fg_RX12_217 dX12_goes_73 sM_0 rfl ?_
            obtain ⟨hi14, hf⟩ := gd_some hf
            obtain ⟨w15, ew15, hf⟩ := lw_some hf
            try dsimp only at hf
            refine E_iast (n := 8) dX12_goes_76 sM_14 (by decide) (inb_in hi14) ?_
            rw [← ew15]
            refine E_aload_n (v := 0) dX12_goes_77 rfl ?_
            refine E_dup_r dX12_goes_78 ?_
            refine E_getI fg_RX12_226 dX12_goes_79 sM_0 rfl ?_
            refine E_aload_n (v := 0) dX12_goes_82 rfl ?_
            refine E_aload_n (v := 0) dX12_goes_83 rfl ?_
            refine E_getR fg_RX12_28 dX12_goes_84 sM_0 rfl rM_0_11 (Nat.succ_ne_zero _) ?_
            refine E_iload_n (v := x2_34_1) dX12_goes_87 rfl ?_
            refine E_iald (n := 8) dX12_goes_88 sM_7 (by decide) (inb_in hi8) ?_
            obtain ⟨r17, hc16, hf⟩ := bd_some hf
            try dsimp only at hf
            refine E_callVi (rest := [.int (w15.1 0 8), .ref 0]) (ci := 12) cv_RX12_264 dX12_goes_89 (MX12_worthOf hc16) rfl sM_0 rfl (by decide) rfl rfl (fun _ => Nat.le_of_ble_eq_true rfl) ?_
            refine E_iadd dX12_goes_92 ?_
            obtain ⟨w18, ew18, hf⟩ := lw_some hf
            try dsimp only at hf
            refine E_putI fp_RX12_226 dX12_goes_93 sM_0 rfl rfl rfl ?_
            rw [← ew18]
            refine E_iinc (ls' := [some (.ref 0), some (.int (x1_34_1 + (-1))), some (.int x2_34_1), some (.int (x3_34_1 + 1)), none]) 1 dX12_goes_96 rfl ic_1 rfl rfl rfl ?_
            refine E_iinc (ls' := [some (.ref 0), some (.int (x1_34_1 + (-1))), some (.int (x2_34_1 + 1)), some (.int (x3_34_1 + 1)), none]) 1 dX12_goes_99 rfl ic_1 rfl rfl rfl ?_
            refine E_goto 34 dX12_goes_102 (by decide) ?_
            obtain rfl := Option.some.inj hf
            exact k9
    · skip
      obtain ⟨y20, w21⟩ := q
      try dsimp only at hf
      show E PM RX12 cX12_goes 5 4 105 [some (.ref 0), none, none, some (.int y20), none] [] w21 Q
      refine E_aload_n (v := 0) dX12_goes_105 rfl ?_
      refine E_aload_n (v := 0) dX12_goes_106 rfl ?_
      refine E_getI fg_RX12_251 dX12_goes_107 sM_0 rfl ?_
      obtain ⟨w22, ew22, hf⟩ := lw_some hf
      try dsimp only at hf
      refine E_putI fp_RX12_220 dX12_goes_110 sM_0 rfl rfl rfl ?_
      rw [← ew22]
      refine E_aload_n (v := 0) dX12_goes_113 rfl ?_
      refine E_aload_n (v := 0) dX12_goes_114 rfl ?_
      refine E_getI fg_RX12_254 dX12_goes_115 sM_0 rfl ?_
      obtain ⟨w23, ew23, hf⟩ := lw_some hf
      try dsimp only at hf
      refine E_putI fp_RX12_223 dX12_goes_118 sM_0 rfl rfl rfl ?_
      rw [← ew23]
      refine E_iconst 0 dX12_goes_121 ic_0 ?_
      refine E_istore (ls' := [some (.ref 0), none, none, some (.int y20), some (.int 0)]) dX12_goes_122 rfl rfl rfl ?_
      obtain ⟨q, hw28, hf⟩ := bd_some hf
      try dsimp only at hf
      show (fun (s : Int32 × AW) => E PM RX12 cX12_goes 5 4 124 [some (.ref 0), none, none, some (.int y20), some (.int s.1)] [] s.2 Q) (0, w23)
      refine wh_E (K := (fun (s : Int32 × AW) => E PM RX12 cX12_goes 5 4 124 [some (.ref 0), none, none, some (.int y20), some (.int s.1)] [] s.2 Q)) (X := (fun (s : AW) => E PM RX12 cX12_goes 5 4 157 [some (.ref 0), none, none, some (.int y20), none] [] s Q)) ?_ hw28 ?_
      · intro s9 z9 hf k9
        obtain ⟨x4_124_2, w_124_2⟩ := s9
        dsimp only [lbX12_goes_124_2] at hf
        show E PM RX12 cX12_goes 5 4 124 [some (.ref 0), none, none, some (.int y20), some (.int x4_124_2)] [] w_124_2 Q
        refine E_iload (v := x4_124_2) dX12_goes_124 rfl ?_
        refine E_aload_n (v := 0) dX12_goes_126 rfl ?_
        refine E_getI fg_RX12_96 dX12_goes_127 sM_0 rfl ?_
        refine E_icmp_ge 157 dX12_goes_130 (by decide) (fun hc24 => ?_) (fun hc24 => ?_)
        · rw [if_pos hc24] at hf
          obtain rfl := Option.some.inj hf
          refine E.fewer (ls' := [some (.ref 0), none, none, some (.int y20), none]) ⟨Or.inr rfl, ⟨Or.inl rfl, ⟨Or.inl rfl, ⟨Or.inr rfl, ⟨Or.inl rfl, trivial⟩⟩⟩⟩⟩ ?_
          exact k9
        · rw [if_neg hc24] at hf
          refine E_aload_n (v := 0) dX12_goes_133 rfl ?_
          refine E_getR fg_RX12_7 dX12_goes_134 sM_0 rfl rM_0_1 (Nat.succ_ne_zero _) ?_
          refine E_iconst 5 dX12_goes_137 ic_5 ?_
          refine E_iload (v := x4_124_2) dX12_goes_138 rfl ?_
          refine E_imul dX12_goes_140 ?_
          refine E_iconst 1 dX12_goes_141 ic_1 ?_
          refine E_iadd dX12_goes_142 ?_
          refine E_aload_n (v := 0) dX12_goes_143 rfl ?_
          refine E_getR fg_RX12_50 dX12_goes_144 sM_0 rfl rM_0_27 (Nat.succ_ne_zero _) ?_
          refine E_iload (v := x4_124_2) dX12_goes_147 rfl ?_
          obtain ⟨hi25, hf⟩ := gd_some hf
          refine E_iald (n := 8) dX12_goes_149 sM_13 (by decide) (inb_in hi25) ?_
          obtain ⟨hi26, hf⟩ := gd_some hf
          obtain ⟨w27, ew27, hf⟩ := lw_some hf
          try dsimp only at hf
          refine E_iast (n := 50) dX12_goes_150 sM_1 (by decide) (inb_in hi26) ?_
          rw [← ew27]
          refine E_iinc (ls' := [some (.ref 0), none, none, some (.int y20), some (.int (x4_124_2 + 1))]) 1 dX12_goes_151 rfl ic_1 rfl rfl rfl ?_
          refine E_goto 124 dX12_goes_154 (by decide) ?_
          obtain rfl := Option.some.inj hf
          exact k9
      · skip
        obtain ⟨w29, hq9⟩ : ∃ a, a = q := ⟨_, rfl⟩
        subst hq9
        try dsimp only at hf
        show E PM RX12 cX12_goes 5 4 157 [some (.ref 0), none, none, some (.int y20), none] [] w29 Q
        refine E_aload_n (v := 0) dX12_goes_157 rfl ?_
        refine E_getI fg_RX12_96 dX12_goes_158 sM_0 rfl ?_
        refine E_iconst 1 dX12_goes_161 ic_1 ?_
        refine E_isub dX12_goes_162 ?_
        refine E_istore (ls' := [some (.ref 0), none, none, some (.int y20), some (.int ((w29.1 0 0) - 1))]) dX12_goes_163 rfl rfl rfl ?_
        obtain ⟨q, hw36, hf⟩ := bd_some hf
        try dsimp only at hf
        show (fun (s : Int32 × AW) => E PM RX12 cX12_goes 5 4 165 [some (.ref 0), none, none, some (.int y20), some (.int s.1)] [] s.2 Q) (((w29.1 0 0) - 1), w29)
        refine wh_E (K := (fun (s : Int32 × AW) => E PM RX12 cX12_goes 5 4 165 [some (.ref 0), none, none, some (.int y20), some (.int s.1)] [] s.2 Q)) (X := (fun (s : AW) => E PM RX12 cX12_goes 5 4 192 [some (.ref 0), none, none, some (.int y20), none] [] s Q)) ?_ hw36 ?_
        · intro s9 z9 hf k9
          obtain ⟨x4_165_3, w_165_3⟩ := s9
          dsimp only [lbX12_goes_165_3] at hf
          show E PM RX12 cX12_goes 5 4 165 [some (.ref 0), none, none, some (.int y20), some (.int x4_165_3)] [] w_165_3 Q
          refine E_iload (v := x4_165_3) dX12_goes_165 rfl ?_
          refine E_if_lt 192 dX12_goes_167 (by decide) (fun hc30 => ?_) (fun hc30 => ?_)
          · rw [if_pos hc30] at hf
            obtain rfl := Option.some.inj hf
            refine E.fewer (ls' := [some (.ref 0), none, none, some (.int y20), none]) ⟨Or.inr rfl, ⟨Or.inl rfl, ⟨Or.inl rfl, ⟨Or.inr rfl, ⟨Or.inl rfl, trivial⟩⟩⟩⟩⟩ ?_
            exact k9
          · rw [if_neg hc30] at hf
            refine E_aload_n (v := 0) dX12_goes_170 rfl ?_
            refine E_iload (v := x4_165_3) dX12_goes_171 rfl ?_
            refine E_iconst 1 dX12_goes_173 ic_1 ?_
            obtain ⟨r32, hc31, hf⟩ := bd_some hf
            try dsimp only at hf
            refine E_callVi (rest := []) (ci := 12) cv_RX12_242 dX12_goes_174 (MX12_its hc31) rfl sM_0 rfl (by decide) rfl rfl (fun _ => Nat.le_of_ble_eq_true rfl) ?_
            refine E_if_ne 186 dX12_goes_177 (by decide) (fun hc33 => ?_) (fun hc33 => ?_)
            · rw [if_pos hc33] at hf
              refine E_aload_n (v := 0) dX12_goes_180 rfl ?_
              refine E_iload (v := x4_165_3) dX12_goes_181 rfl ?_
              obtain ⟨w35, hc34, hf⟩ := bd_some hf
              try dsimp only at hf
              refine E_callVv (rest := []) (ci := 12) cv_RX12_245 dX12_goes_183 (MX12_goesAway hc34) rfl sM_0 rfl (by decide) rfl rfl (fun _ => Nat.le_of_ble_eq_true rfl) ?_
              refine E_iinc (ls' := [some (.ref 0), none, none, some (.int y20), some (.int (x4_165_3 + (-1)))]) (-1) dX12_goes_186 rfl ic_m1 rfl rfl rfl ?_
              refine E_goto 165 dX12_goes_189 (by decide) ?_
              obtain rfl := Option.some.inj hf
              exact k9
            · rw [if_neg hc33] at hf
              refine E_iinc (ls' := [some (.ref 0), none, none, some (.int y20), some (.int (x4_165_3 + (-1)))]) (-1) dX12_goes_186 rfl ic_m1 rfl rfl rfl ?_
              refine E_goto 165 dX12_goes_189 (by decide) ?_
              obtain rfl := Option.some.inj hf
              exact k9
        · skip
          obtain ⟨w37, hq9⟩ : ∃ a, a = q := ⟨_, rfl⟩
          subst hq9
          try dsimp only at hf
          show E PM RX12 cX12_goes 5 4 192 [some (.ref 0), none, none, some (.int y20), none] [] w37 Q
          refine E_aload_n (v := 0) dX12_goes_192 rfl ?_
          refine E_dup_r dX12_goes_193 ?_
          refine E_getI fg_RX12_217 dX12_goes_194 sM_0 rfl ?_
          refine E_iconst 1 dX12_goes_197 ic_1 ?_
          refine E_iadd dX12_goes_198 ?_
          obtain ⟨w38, ew38, hf⟩ := lw_some hf
          try dsimp only at hf
          refine E_putI fp_RX12_217 dX12_goes_199 sM_0 rfl rfl rfl ?_
          rw [← ew38]
          refine E_iload_n (v := y20) dX12_goes_202 rfl ?_
          obtain ⟨rfl, rfl⟩ := ret2 hf
          exact E.done (by rw [eQ]; exact ⟨rfl, Or.inl ⟨_, _, rfl, rfl, dX12_goes_203, rfl, rfl⟩⟩)
set_option maxRecDepth 10000 in
set_option maxHeartbeats 2000000 in
theorem MX12_isHeld {a0 : Int32} {a1 : Int32} {w : AW} {rZ : Int32} (hf : fX12_isHeld a0 a1 w = some rZ) : CallOK PM yX12_isHeld cX12_isHeld 3 (some .boolean) 3 [.ref 0, .int a0, .int a1] w (some (.int rZ)) w := by
  refine CallOK.of (ls := [some (.ref 0), some (.int a0), some (.int a1)]) (by decide) (by simp) rfl rfl ?_
  obtain ⟨Q, eQ⟩ : ∃ Q, Q = Qret cX12_isHeld (some .boolean) (some (.int rZ)) w := ⟨_, rfl⟩
  rw [← eQ]
  unfold fX12_isHeld at hf
  refine E_iload_n (v := a0) dX12_isHeld_0 rfl ?_
  refine E_if_ne 12 dX12_isHeld_1 (by decide) (fun hc1 => ?_) (fun hc1 => ?_)
  · rw [if_pos hc1] at hf
    refine E_aload_n (v := 0) dX12_isHeld_4 rfl ?_
    refine E_iload_n (v := a1) dX12_isHeld_5 rfl ?_
    obtain ⟨r3, hc2, hf⟩ := bd_some hf
    try dsimp only at hf
    refine E_callVi (rest := []) (ci := 12) cv_RX12_239 dX12_isHeld_6 (MX12_isJob hc2) rfl sM_0 rfl (by decide) rfl rfl (fun _ => Nat.le_of_ble_eq_true rfl) ?_
    refine E_goto 34 dX12_isHeld_9 (by decide) ?_
    obtain ⟨hb4, hf⟩ := gd_some hf
    obtain rfl := Option.some.inj hf
    exact E.done (by rw [eQ]; exact ⟨rfl, Or.inl ⟨_, _, rfl, rfl, dX12_isHeld_34, rfl, (isb_n hb4)⟩⟩)
  · rw [if_neg hc1] at hf
    refine E_iload_n (v := a0) dX12_isHeld_12 rfl ?_
    refine E_iconst 1 dX12_isHeld_13 ic_1 ?_
    refine E_icmp_ne 24 dX12_isHeld_14 (by decide) (fun hc5 => ?_) (fun hc5 => ?_)
    · rw [if_pos hc5] at hf
      refine E_iload_n (v := a1) dX12_isHeld_17 rfl ?_
      obtain ⟨r7, hc6, hf⟩ := bd_some hf
      try dsimp only at hf
      refine E_callSi (rest := []) cs_RX12_346 dX12_isHeld_18 (MX12_isShelf hc6) rfl rfl rfl (fun _ => Nat.le_of_ble_eq_true rfl) ?_
      refine E_goto 34 dX12_isHeld_21 (by decide) ?_
      obtain ⟨hb8, hf⟩ := gd_some hf
      obtain rfl := Option.some.inj hf
      exact E.done (by rw [eQ]; exact ⟨rfl, Or.inl ⟨_, _, rfl, rfl, dX12_isHeld_34, rfl, (isb_n hb8)⟩⟩)
    · rw [if_neg hc5] at hf
      refine E_iload_n (v := a0) dX12_isHeld_24 rfl ?_
      refine E_iconst 2 dX12_isHeld_25 ic_2 ?_
      refine E_icmp_ne 33 dX12_isHeld_26 (by decide) (fun hc9 => ?_) (fun hc9 => ?_)
      · rw [if_pos hc9] at hf
        refine E_iconst 1 dX12_isHeld_29 ic_1 ?_
        refine E_goto 34 dX12_isHeld_30 (by decide) ?_
        obtain rfl := Option.some.inj hf
        exact E.done (by rw [eQ]; exact ⟨rfl, Or.inl ⟨_, _, rfl, rfl, dX12_isHeld_34, rfl, rfl⟩⟩)
      · rw [if_neg hc9] at hf
        refine E_iconst 0 dX12_isHeld_33 ic_0 ?_
        obtain rfl := Option.some.inj hf
        exact E.done (by rw [eQ]; exact ⟨rfl, Or.inl ⟨_, _, rfl, rfl, dX12_isHeld_34, rfl, rfl⟩⟩)
set_option maxRecDepth 10000 in
set_option maxHeartbeats 2000000 in
theorem MX12_isUnder {a0 : Int32} {a1 : Int32} {w : AW} {rZ : Int32} (hf : fX12_isUnder a0 a1 w = some rZ) : CallOK PM yX12_isUnder cX12_isUnder 2 (some .boolean) 1 [.int a0, .int a1] w (some (.int rZ)) w := by
  refine CallOK.of (ls := [some (.int a0), some (.int a1)]) (by decide) (by simp) rfl rfl ?_
  obtain ⟨Q, eQ⟩ : ∃ Q, Q = Qret cX12_isUnder (some .boolean) (some (.int rZ)) w := ⟨_, rfl⟩
  rw [← eQ]
  unfold fX12_isUnder at hf
  refine E_iload_n (v := a1) dX12_isUnder_0 rfl ?_
  refine E_if_eq 29 dX12_isUnder_1 (by decide) (fun hc1 => ?_) (fun hc1 => ?_)
  · rw [if_pos hc1] at hf
    refine E_iconst 1 dX12_isUnder_29 ic_1 ?_
    refine E_goto 34 dX12_isUnder_30 (by decide) ?_
    obtain rfl := Option.some.inj hf
    exact E.done (by rw [eQ]; exact ⟨rfl, Or.inl ⟨_, _, rfl, rfl, dX12_isUnder_34, rfl, rfl⟩⟩)
  · rw [if_neg hc1] at hf
    refine E_iload_n (v := a1) dX12_isUnder_4 rfl ?_
    refine E_iload_n (v := a0) dX12_isUnder_5 rfl ?_
    refine E_icmp_eq 29 dX12_isUnder_6 (by decide) (fun hc2 => ?_) (fun hc2 => ?_)
    · rw [if_pos hc2] at hf
      refine E_iconst 1 dX12_isUnder_29 ic_1 ?_
      refine E_goto 34 dX12_isUnder_30 (by decide) ?_
      obtain rfl := Option.some.inj hf
      exact E.done (by rw [eQ]; exact ⟨rfl, Or.inl ⟨_, _, rfl, rfl, dX12_isUnder_34, rfl, rfl⟩⟩)
    · rw [if_neg hc2] at hf
      refine E_iload_n (v := a1) dX12_isUnder_9 rfl ?_
      refine E_iconst 1 dX12_isUnder_10 ic_1 ?_
      refine E_icmp_ne 19 dX12_isUnder_11 (by decide) (fun hc3 => ?_) (fun hc3 => ?_)
      · rw [if_pos hc3] at hf
        refine E_iload_n (v := a0) dX12_isUnder_14 rfl ?_
        refine E_iconst 4 dX12_isUnder_15 ic_4 ?_
        refine E_icmp_eq 29 dX12_isUnder_16 (by decide) (fun hc4 => ?_) (fun hc4 => ?_)
        · rw [if_pos hc4] at hf
          refine E_iconst 1 dX12_isUnder_29 ic_1 ?_
          refine E_goto 34 dX12_isUnder_30 (by decide) ?_
          obtain rfl := Option.some.inj hf
          exact E.done (by rw [eQ]; exact ⟨rfl, Or.inl ⟨_, _, rfl, rfl, dX12_isUnder_34, rfl, rfl⟩⟩)
        · rw [if_neg hc4] at hf
          refine E_iload_n (v := a1) dX12_isUnder_19 rfl ?_
          refine E_iconst 2 dX12_isUnder_20 ic_2 ?_
          refine E_icmp_ne 33 dX12_isUnder_21 (by decide) (fun hc5 => ?_) (fun hc5 => ?_)
          · rw [if_pos hc5] at hf
            refine E_iload_n (v := a0) dX12_isUnder_24 rfl ?_
            refine E_iconst 3 dX12_isUnder_25 ic_3 ?_
            refine E_icmp_ne 33 dX12_isUnder_26 (by decide) (fun hc6 => ?_) (fun hc6 => ?_)
            · rw [if_pos hc6] at hf
              refine E_iconst 1 dX12_isUnder_29 ic_1 ?_
              refine E_goto 34 dX12_isUnder_30 (by decide) ?_
              obtain rfl := Option.some.inj hf
              exact E.done (by rw [eQ]; exact ⟨rfl, Or.inl ⟨_, _, rfl, rfl, dX12_isUnder_34, rfl, rfl⟩⟩)
            · rw [if_neg hc6] at hf
              refine E_iconst 0 dX12_isUnder_33 ic_0 ?_
              obtain rfl := Option.some.inj hf
              exact E.done (by rw [eQ]; exact ⟨rfl, Or.inl ⟨_, _, rfl, rfl, dX12_isUnder_34, rfl, rfl⟩⟩)
          · rw [if_neg hc5] at hf
            refine E_iconst 0 dX12_isUnder_33 ic_0 ?_
            obtain rfl := Option.some.inj hf
            exact E.done (by rw [eQ]; exact ⟨rfl, Or.inl ⟨_, _, rfl, rfl, dX12_isUnder_34, rfl, rfl⟩⟩)
      · rw [if_neg hc3] at hf
        refine E_iload_n (v := a1) dX12_isUnder_19 rfl ?_
        refine E_iconst 2 dX12_isUnder_20 ic_2 ?_
        refine E_icmp_ne 33 dX12_isUnder_21 (by decide) (fun hc7 => ?_) (fun hc7 => ?_)
        · rw [if_pos hc7] at hf
          refine E_iload_n (v := a0) dX12_isUnder_24 rfl ?_
          refine E_iconst 3 dX12_isUnder_25 ic_3 ?_
          refine E_icmp_ne 33 dX12_isUnder_26 (by decide) (fun hc8 => ?_) (fun hc8 => ?_)
          · rw [if_pos hc8] at hf
            refine E_iconst 1 dX12_isUnder_29 ic_1 ?_
            refine E_goto 34 dX12_isUnder_30 (by decide) ?_
            obtain rfl := Option.some.inj hf
            exact E.done (by rw [eQ]; exact ⟨rfl, Or.inl ⟨_, _, rfl, rfl, dX12_isUnder_34, rfl, rfl⟩⟩)
          · rw [if_neg hc8] at hf
            refine E_iconst 0 dX12_isUnder_33 ic_0 ?_
            obtain rfl := Option.some.inj hf
            exact E.done (by rw [eQ]; exact ⟨rfl, Or.inl ⟨_, _, rfl, rfl, dX12_isUnder_34, rfl, rfl⟩⟩)
        · rw [if_neg hc7] at hf
          refine E_iconst 0 dX12_isUnder_33 ic_0 ?_
          obtain rfl := Option.some.inj hf
          exact E.done (by rw [eQ]; exact ⟨rfl, Or.inl ⟨_, _, rfl, rfl, dX12_isUnder_34, rfl, rfl⟩⟩)
set_option maxRecDepth 10000 in
set_option maxHeartbeats 2000000 in
theorem MX12_lacksSort {a0 : Int32} {a1 : Int32} {w : AW} {rZ : Int32} (hf : fX12_lacksSort a0 a1 w = some rZ) : CallOK PM yX12_lacksSort cX12_lacksSort 3 (some .int) 1 [.ref 0, .int a0, .int a1] w (some (.int rZ)) w := by
  refine CallOK.of (ls := [some (.ref 0), some (.int a0), some (.int a1)]) (by decide) (by simp) rfl rfl ?_
  obtain ⟨Q, eQ⟩ : ∃ Q, Q = Qret cX12_lacksSort (some .int) (some (.int rZ)) w := ⟨_, rfl⟩
  rw [← eQ]
  unfold fX12_lacksSort at hf
  refine E_aload_n (v := 0) dX12_lacksSort_0 rfl ?_
  refine E_getR fg_RX12_68 dX12_lacksSort_1 sM_0 rfl rM_0_38 (Nat.succ_ne_zero _) ?_
  refine E_iload_n (v := a0) dX12_lacksSort_4 rfl ?_
  obtain ⟨hi1, hf⟩ := gd_some hf
  refine E_iald (n := 4) dX12_lacksSort_5 sM_19 (by decide) (inb_in hi1) ?_
  refine E_if_ge 14 dX12_lacksSort_6 (by decide) (fun hc2 => ?_) (fun hc2 => ?_)
  · rw [if_pos hc2] at hf
    refine E_aload_n (v := 0) dX12_lacksSort_14 rfl ?_
    refine E_getR fg_RX12_68 dX12_lacksSort_15 sM_0 rfl rM_0_38 (Nat.succ_ne_zero _) ?_
    refine E_iload_n (v := a0) dX12_lacksSort_18 rfl ?_
    refine E_iald (n := 4) dX12_lacksSort_19 sM_19 (by decide) (inb_in hi1) ?_
    refine E_iload_n (v := a1) dX12_lacksSort_20 rfl ?_
    refine E_icmp_eq 29 dX12_lacksSort_21 (by decide) (fun hc3 => ?_) (fun hc3 => ?_)
    · rw [if_pos hc3] at hf
      refine E_iconst 0 dX12_lacksSort_29 ic_0 ?_
      obtain rfl := Option.some.inj hf
      exact E.done (by rw [eQ]; exact ⟨rfl, Or.inl ⟨_, _, rfl, rfl, dX12_lacksSort_30, rfl, rfl⟩⟩)
    · rw [if_neg hc3] at hf
      refine E_bipush (-13) dX12_lacksSort_24 bp_m13 ?_
      refine E_goto 30 dX12_lacksSort_26 (by decide) ?_
      obtain rfl := Option.some.inj hf
      exact E.done (by rw [eQ]; exact ⟨rfl, Or.inl ⟨_, _, rfl, rfl, dX12_lacksSort_30, rfl, rfl⟩⟩)
  · rw [if_neg hc2] at hf
    refine E_bipush (-11) dX12_lacksSort_9 bp_m11 ?_
    refine E_goto 30 dX12_lacksSort_11 (by decide) ?_
    obtain rfl := Option.some.inj hf
    exact E.done (by rw [eQ]; exact ⟨rfl, Or.inl ⟨_, _, rfl, rfl, dX12_lacksSort_30, rfl, rfl⟩⟩)
set_option maxRecDepth 10000 in
set_option maxHeartbeats 2000000 in
theorem MX12_item {a0 : Int32} {a1 : Int32} {a2 : Int32} {w : AW} {rZ : Int32} (hf : fX12_item a0 a1 a2 w = some rZ) : CallOK PM yX12_item cX12_item 5 (some .int) 3 [.ref 0, .int a0, .int a1, .int a2] w (some (.int rZ)) w := by
  refine CallOK.of (ls := [some (.ref 0), some (.int a0), some (.int a1), some (.int a2), none]) (by decide) (by simp) rfl rfl ?_
  obtain ⟨Q, eQ⟩ : ∃ Q, Q = Qret cX12_item (some .int) (some (.int rZ)) w := ⟨_, rfl⟩
  rw [← eQ]
  unfold fX12_item at hf
  refine E_iload_n (v := a0) dX12_item_0 rfl ?_
  obtain ⟨r2, hc1, hf⟩ := bd_some hf
  try dsimp only at hf
  refine E_callSi (rest := []) cs_RX12_346 dX12_item_1 (MX12_isShelf hc1) rfl rfl rfl (fun _ => Nat.le_of_ble_eq_true rfl) ?_
  refine E_if_eq 16 dX12_item_4 (by decide) (fun hc3 => ?_) (fun hc3 => ?_)
  · rw [if_pos hc3] at hf
    refine E_iconst (-1) dX12_item_16 ic_m1 ?_
    obtain rfl := Option.some.inj hf
    exact E.done (by rw [eQ]; exact ⟨rfl, Or.inl ⟨_, _, rfl, rfl, dX12_item_17, rfl, rfl⟩⟩)
  · rw [if_neg hc3] at hf
    refine E_iload_n (v := a1) dX12_item_7 rfl ?_
    refine E_iconst 0 dX12_item_8 ic_0 ?_
    refine E_iconst 3 dX12_item_9 ic_3 ?_
    obtain ⟨r5, hc4, hf⟩ := bd_some hf
    try dsimp only at hf
    refine E_callSi (rest := []) cs_RX12_99 dX12_item_10 (MX12_in hc4) rfl rfl rfl (fun _ => Nat.le_of_ble_eq_true rfl) ?_
    refine E_if_ne 18 dX12_item_13 (by decide) (fun hc6 => ?_) (fun hc6 => ?_)
    · rw [if_pos hc6] at hf
      refine E_iconst (-1) dX12_item_16 ic_m1 ?_
      obtain rfl := Option.some.inj hf
      exact E.done (by rw [eQ]; exact ⟨rfl, Or.inl ⟨_, _, rfl, rfl, dX12_item_17, rfl, rfl⟩⟩)
    · rw [if_neg hc6] at hf
      refine E_aload_n (v := 0) dX12_item_18 rfl ?_
      refine E_iload_n (v := a0) dX12_item_19 rfl ?_
      refine E_iload_n (v := a1) dX12_item_20 rfl ?_
      obtain ⟨r8, hc7, hf⟩ := bd_some hf
      try dsimp only at hf
      refine E_callVi (rest := []) (ci := 12) cv_RX12_349 dX12_item_21 (MX12_lacksSort hc7) rfl sM_0 rfl (by decide) rfl rfl (fun _ => Nat.le_of_ble_eq_true rfl) ?_
      refine E_istore (ls' := [some (.ref 0), some (.int a0), some (.int a1), some (.int a2), some (.int r8)]) dX12_item_24 rfl rfl rfl ?_
      refine E_iload (v := r8) dX12_item_26 rfl ?_
      refine E_if_eq 34 dX12_item_28 (by decide) (fun hc9 => ?_) (fun hc9 => ?_)
      · rw [if_pos hc9] at hf
        refine E_iload_n (v := a2) dX12_item_34 rfl ?_
        refine E_iconst 0 dX12_item_35 ic_0 ?_
        refine E_aload_n (v := 0) dX12_item_36 rfl ?_
        refine E_getR fg_RX12_71 dX12_item_37 sM_0 rfl rM_0_39 (Nat.succ_ne_zero _) ?_
        refine E_iload_n (v := a0) dX12_item_40 rfl ?_
        obtain ⟨hi10, hf⟩ := gd_some hf
        refine E_iald (n := 4) dX12_item_41 sM_20 (by decide) (inb_in hi10) ?_
        refine E_iconst 1 dX12_item_42 ic_1 ?_
        refine E_isub dX12_item_43 ?_
        obtain ⟨r12, hc11, hf⟩ := bd_some hf
        try dsimp only at hf
        refine E_callSi (rest := []) cs_RX12_99 dX12_item_44 (MX12_in hc11) rfl rfl rfl (fun _ => Nat.le_of_ble_eq_true rfl) ?_
        refine E_if_eq 65 dX12_item_47 (by decide) (fun hc13 => ?_) (fun hc13 => ?_)
        · rw [if_pos hc13] at hf
          refine E_bipush (-12) dX12_item_65 bp_m12 ?_
          obtain rfl := Option.some.inj hf
          exact E.done (by rw [eQ]; exact ⟨rfl, Or.inl ⟨_, _, rfl, rfl, dX12_item_67, rfl, rfl⟩⟩)
        · rw [if_neg hc13] at hf
          refine E_aload_n (v := 0) dX12_item_50 rfl ?_
          refine E_getR fg_RX12_74 dX12_item_51 sM_0 rfl rM_0_40 (Nat.succ_ne_zero _) ?_
          refine E_bipush 40 dX12_item_54 bp_40 ?_
          refine E_iload_n (v := a0) dX12_item_56 rfl ?_
          refine E_imul dX12_item_57 ?_
          refine E_iload_n (v := a2) dX12_item_58 rfl ?_
          refine E_iadd dX12_item_59 ?_
          obtain ⟨hi14, hf⟩ := gd_some hf
          refine E_lald (n := 160) dX12_item_60 sM_21 (inb_in hi14) ?_
          refine E_l2i dX12_item_61 ?_
          refine E_goto 67 dX12_item_62 (by decide) ?_
          obtain rfl := Option.some.inj hf
          exact E.done (by rw [eQ]; exact ⟨rfl, Or.inl ⟨_, _, rfl, rfl, dX12_item_67, rfl, rfl⟩⟩)
      · rw [if_neg hc9] at hf
        refine E_iload (v := r8) dX12_item_31 rfl ?_
        obtain rfl := Option.some.inj hf
        exact E.done (by rw [eQ]; exact ⟨rfl, Or.inl ⟨_, _, rfl, rfl, dX12_item_33, rfl, rfl⟩⟩)
set_option maxRecDepth 10000 in
set_option maxHeartbeats 2000000 in
theorem MX12_job {a0 : Int32} {a1 : Int32} {a2 : Int32} {a3 : Int32} {a4 : Int32} {w : AW} {rZ : Int32} {wZ : AW} (hf : fX12_job a0 a1 a2 a3 a4 w = some (rZ, wZ)) : CallOK PM yX12_job cX12_job 6 (some .int) 4 [.ref 0, .int a0, .int a1, .int a2, .int a3, .int a4] w (some (.int rZ)) wZ := by
  refine CallOK.of (ls := [some (.ref 0), some (.int a0), some (.int a1), some (.int a2), some (.int a3), some (.int a4)]) (by decide) (by simp) rfl rfl ?_
  obtain ⟨Q, eQ⟩ : ∃ Q, Q = Qret cX12_job (some .int) (some (.int rZ)) wZ := ⟨_, rfl⟩
  rw [← eQ]
  unfold fX12_job at hf
  refine E_iload_n (v := a0) dX12_job_0 rfl ?_
  refine E_iload_n (v := a1) dX12_job_1 rfl ?_
  refine E_iload_n (v := a2) dX12_job_2 rfl ?_
  obtain ⟨r2, hc1, hf⟩ := bd_some hf
  try dsimp only at hf
  refine E_callSi (rest := []) cs_RX12_232 dX12_job_3 (MX12_isLike hc1) rfl rfl rfl (fun _ => Nat.le_of_ble_eq_true rfl) ?_
  refine E_if_eq 19 dX12_job_6 (by decide) (fun hc3 => ?_) (fun hc3 => ?_)
  · rw [if_pos hc3] at hf
    refine E_iconst (-1) dX12_job_19 ic_m1 ?_
    obtain ⟨rfl, rfl⟩ := ret2 hf
    exact E.done (by rw [eQ]; exact ⟨rfl, Or.inl ⟨_, _, rfl, rfl, dX12_job_20, rfl, rfl⟩⟩)
  · rw [if_neg hc3] at hf
    refine E_iload (v := a3) dX12_job_9 rfl ?_
    refine E_iload (v := a4) dX12_job_11 rfl ?_
    obtain ⟨r5, hc4, hf⟩ := bd_some hf
    try dsimp only at hf
    refine E_callSi (rest := []) cs_RX12_235 dX12_job_13 (MX12_isPromised hc4) rfl rfl rfl (fun _ => Nat.le_of_ble_eq_true rfl) ?_
    refine E_if_ne 21 dX12_job_16 (by decide) (fun hc6 => ?_) (fun hc6 => ?_)
    · rw [if_pos hc6] at hf
      refine E_iconst (-1) dX12_job_19 ic_m1 ?_
      obtain ⟨rfl, rfl⟩ := ret2 hf
      exact E.done (by rw [eQ]; exact ⟨rfl, Or.inl ⟨_, _, rfl, rfl, dX12_job_20, rfl, rfl⟩⟩)
    · rw [if_neg hc6] at hf
      refine E_aload_n (v := 0) dX12_job_21 rfl ?_
      refine E_getI fg_RX12_96 dX12_job_22 sM_0 rfl ?_
      refine E_bipush 6 dX12_job_25 bp_6 ?_
      refine E_icmp_ne 33 dX12_job_27 (by decide) (fun hc7 => ?_) (fun hc7 => ?_)
      · rw [if_pos hc7] at hf
        refine E_bipush (-2) dX12_job_30 bp_m2 ?_
        obtain ⟨rfl, rfl⟩ := ret2 hf
        exact E.done (by rw [eQ]; exact ⟨rfl, Or.inl ⟨_, _, rfl, rfl, dX12_job_32, rfl, rfl⟩⟩)
      · rw [if_neg hc7] at hf
        refine E_aload_n (v := 0) dX12_job_33 rfl ?_
        refine E_aload_n (v := 0) dX12_job_34 rfl ?_
        refine E_getI fg_RX12_96 dX12_job_35 sM_0 rfl ?_
        refine E_iload_n (v := a0) dX12_job_38 rfl ?_
        refine E_iload_n (v := a1) dX12_job_39 rfl ?_
        refine E_iload_n (v := a2) dX12_job_40 rfl ?_
        refine E_iload (v := a3) dX12_job_41 rfl ?_
        refine E_iload (v := a4) dX12_job_43 rfl ?_
        obtain ⟨w9, hc8, hf⟩ := bd_some hf
        try dsimp only at hf
        refine E_callVv (rest := []) (ci := 12) cv_RX12_213 dX12_job_45 (MX12_lay hc8) rfl sM_0 rfl (by decide) rfl rfl (fun _ => Nat.le_of_ble_eq_true rfl) ?_
        refine E_aload_n (v := 0) dX12_job_48 rfl ?_
        refine E_getR fg_RX12_28 dX12_job_49 sM_0 rfl rM_0_11 (Nat.succ_ne_zero _) ?_
        refine E_aload_n (v := 0) dX12_job_52 rfl ?_
        refine E_getI fg_RX12_96 dX12_job_53 sM_0 rfl ?_
        refine E_aload_n (v := 0) dX12_job_56 rfl ?_
        refine E_getI fg_RX12_96 dX12_job_57 sM_0 rfl ?_
        obtain ⟨hi10, hf⟩ := gd_some hf
        obtain ⟨w11, ew11, hf⟩ := lw_some hf
        try dsimp only at hf
        refine E_iast (n := 8) dX12_job_60 sM_7 (by decide) (inb_in hi10) ?_
        rw [← ew11]
        refine E_aload_n (v := 0) dX12_job_61 rfl ?_
        refine E_dup_r dX12_job_62 ?_
        refine E_getI fg_RX12_96 dX12_job_63 sM_0 rfl ?_
        refine E_iconst 1 dX12_job_66 ic_1 ?_
        refine E_iadd dX12_job_67 ?_
        obtain ⟨w12, ew12, hf⟩ := lw_some hf
        try dsimp only at hf
        refine E_putI fp_RX12_96 dX12_job_68 sM_0 rfl rfl rfl ?_
        rw [← ew12]
        refine E_aload_n (v := 0) dX12_job_71 rfl ?_
        refine E_getI fg_RX12_96 dX12_job_72 sM_0 rfl ?_
        refine E_iconst 1 dX12_job_75 ic_1 ?_
        refine E_isub dX12_job_76 ?_
        obtain ⟨rfl, rfl⟩ := ret2 hf
        exact E.done (by rw [eQ]; exact ⟨rfl, Or.inl ⟨_, _, rfl, rfl, dX12_job_77, rfl, rfl⟩⟩)
set_option maxRecDepth 10000 in
set_option maxHeartbeats 2000000 in
theorem MX12_jobOf {a0 : Int32} {a1 : Int32} {w : AW} {rZ : Int32} (hf : fX12_jobOf a0 a1 w = some rZ) : CallOK PM yX12_jobOf cX12_jobOf 3 (some .int) 3 [.ref 0, .int a0, .int a1] w (some (.int rZ)) w := by
  refine CallOK.of (ls := [some (.ref 0), some (.int a0), some (.int a1)]) (by decide) (by simp) rfl rfl ?_
  obtain ⟨Q, eQ⟩ : ∃ Q, Q = Qret cX12_jobOf (some .int) (some (.int rZ)) w := ⟨_, rfl⟩
  rw [← eQ]
  unfold fX12_jobOf at hf
  refine E_aload_n (v := 0) dX12_jobOf_0 rfl ?_
  refine E_iload_n (v := a0) dX12_jobOf_1 rfl ?_
  obtain ⟨r2, hc1, hf⟩ := bd_some hf
  try dsimp only at hf
  refine E_callVi (rest := []) (ci := 12) cv_RX12_239 dX12_jobOf_2 (MX12_isJob hc1) rfl sM_0 rfl (by decide) rfl rfl (fun _ => Nat.le_of_ble_eq_true rfl) ?_
  refine E_if_eq 26 dX12_jobOf_5 (by decide) (fun hc3 => ?_) (fun hc3 => ?_)
  · rw [if_pos hc3] at hf
    refine E_iconst (-1) dX12_jobOf_26 ic_m1 ?_
    obtain rfl := Option.some.inj hf
    exact E.done (by rw [eQ]; exact ⟨rfl, Or.inl ⟨_, _, rfl, rfl, dX12_jobOf_27, rfl, rfl⟩⟩)
  · rw [if_neg hc3] at hf
    refine E_iload_n (v := a1) dX12_jobOf_8 rfl ?_
    refine E_iconst 0 dX12_jobOf_9 ic_0 ?_
    refine E_iconst 4 dX12_jobOf_10 ic_4 ?_
    obtain ⟨r5, hc4, hf⟩ := bd_some hf
    try dsimp only at hf
    refine E_callSi (rest := []) cs_RX12_99 dX12_jobOf_11 (MX12_in hc4) rfl rfl rfl (fun _ => Nat.le_of_ble_eq_true rfl) ?_
    refine E_if_eq 26 dX12_jobOf_14 (by decide) (fun hc6 => ?_) (fun hc6 => ?_)
    · rw [if_pos hc6] at hf
      refine E_iconst (-1) dX12_jobOf_26 ic_m1 ?_
      obtain rfl := Option.some.inj hf
      exact E.done (by rw [eQ]; exact ⟨rfl, Or.inl ⟨_, _, rfl, rfl, dX12_jobOf_27, rfl, rfl⟩⟩)
    · rw [if_neg hc6] at hf
      refine E_aload_n (v := 0) dX12_jobOf_17 rfl ?_
      refine E_iload_n (v := a0) dX12_jobOf_18 rfl ?_
      refine E_iload_n (v := a1) dX12_jobOf_19 rfl ?_
      obtain ⟨r8, hc7, hf⟩ := bd_some hf
      try dsimp only at hf
      refine E_callVi (rest := []) (ci := 12) cv_RX12_242 dX12_jobOf_20 (MX12_its hc7) rfl sM_0 rfl (by decide) rfl rfl (fun _ => Nat.le_of_ble_eq_true rfl) ?_
      refine E_goto 27 dX12_jobOf_23 (by decide) ?_
      obtain rfl := Option.some.inj hf
      exact E.done (by rw [eQ]; exact ⟨rfl, Or.inl ⟨_, _, rfl, rfl, dX12_jobOf_27, rfl, rfl⟩⟩)
set_option maxRecDepth 10000 in
set_option maxHeartbeats 2000000 in
theorem MX12_judge {N : Nat} {w : AW} {rZ : Int32} {wZ : AW} (hf : fX12_judge N w = some (rZ, wZ)) : CallOK PM yX12_judge cX12_judge 4 (some .int) 4 [.ref 0] w (some (.int rZ)) wZ := by
  refine CallOK.of (ls := [some (.ref 0), none, none, none]) (by decide) (by simp) rfl rfl ?_
  obtain ⟨Q, eQ⟩ : ∃ Q, Q = Qret cX12_judge (some .int) (some (.int rZ)) wZ := ⟨_, rfl⟩
  rw [← eQ]
  unfold fX12_judge at hf
  refine E_iconst 0 dX12_judge_0 ic_0 ?_
  refine E_istore_n (ls' := [some (.ref 0), some (.int 0), none, none]) dX12_judge_1 rfl rfl rfl ?_
  refine E_iconst 0 dX12_judge_2 ic_0 ?_
  refine E_istore_n (ls' := [some (.ref 0), some (.int 0), some (.int 0), none]) dX12_judge_3 rfl rfl rfl ?_
  obtain ⟨q, hw19, hf⟩ := bd_some hf
  try dsimp only at hf
  show (fun (s : Int32 × Int32 × AW) => E PM RX12 cX12_judge 4 4 4 [some (.ref 0), some (.int s.1), some (.int s.2.1), none] [] s.2.2 Q) (0, 0, w)
  refine wh_E (K := (fun (s : Int32 × Int32 × AW) => E PM RX12 cX12_judge 4 4 4 [some (.ref 0), some (.int s.1), some (.int s.2.1), none] [] s.2.2 Q)) (X := (se (fun (s : AW) => E PM RX12 cX12_judge 4 4 115 [some (.ref 0), none, none, none] [] s Q) (se (fun (s : Int32 × AW) => E PM RX12 cX12_judge 4 4 38 [none, none, some (.int s.1), none] [] s.2 Q) (fun (s : Int32 × AW) => E PM RX12 cX12_judge 4 4 105 [none, none, some (.int s.1), none] [] s.2 Q)))) ?_ hw19 ?_
  · intro s9 z9 hf k9
    obtain ⟨x1_4_1, x2_4_1, w_4_1⟩ := s9
    dsimp only [lbX12_judge_4_1] at hf
    show E PM RX12 cX12_judge 4 4 4 [some (.ref 0), some (.int x1_4_1), some (.int x2_4_1), none] [] w_4_1 Q
    refine E_iload_n (v := x2_4_1) dX12_judge_4 rfl ?_
    refine E_aload_n (v := 0) dX12_judge_5 rfl ?_
    refine E_getI fg_RX12_229 dX12_judge_6 sM_0 rfl ?_
    refine E_icmp_ge 115 dX12_judge_9 (by decide) (fun hc1 => ?_) (fun hc1 => ?_)
    · rw [if_pos hc1] at hf
      obtain rfl := Option.some.inj hf
      refine E.fewer (ls' := [some (.ref 0), none, none, none]) ⟨Or.inr rfl, ⟨Or.inl rfl, ⟨Or.inl rfl, ⟨Or.inl rfl, trivial⟩⟩⟩⟩ ?_
      exact k9
    · rw [if_neg hc1] at hf
      refine E_aload_n (v := 0) dX12_judge_12 rfl ?_
      refine E_getR fg_RX12_65 dX12_judge_13 sM_0 rfl rM_0_36 (Nat.succ_ne_zero _) ?_
      refine E_iconst 3 dX12_judge_16 ic_3 ?_
      refine E_iload_n (v := x2_4_1) dX12_judge_17 rfl ?_
      refine E_imul dX12_judge_18 ?_
      obtain ⟨hi2, hf⟩ := gd_some hf
      refine E_iald (n := 18) dX12_judge_19 sM_18 (by decide) (inb_in hi2) ?_
      obtain ⟨v3, ev3, hf⟩ := lw_some hf
      try dsimp only at hf
      rw [← ev3]
      refine E_istore_n (ls' := [some (.ref 0), some (.int x1_4_1), some (.int x2_4_1), some (.int v3)]) dX12_judge_20 rfl rfl rfl ?_
      refine E_aload_n (v := 0) dX12_judge_21 rfl ?_
      refine E_iload_n (v := v3) dX12_judge_22 rfl ?_
      obtain ⟨r5, hc4, hf⟩ := bd_some hf
      try dsimp only at hf
      refine E_callVi (rest := []) (ci := 12) cv_RX12_239 dX12_judge_23 (MX12_isJob hc4) rfl sM_0 rfl (by decide) rfl rfl (fun _ => Nat.le_of_ble_eq_true rfl) ?_
      refine E_if_eq 38 dX12_judge_26 (by decide) (fun hc6 => ?_) (fun hc6 => ?_)
      · rw [if_pos hc6] at hf
        obtain rfl := Option.some.inj hf
        refine E.fewer (ls' := [none, none, some (.int x2_4_1), none]) ⟨Or.inl rfl, ⟨Or.inl rfl, ⟨Or.inr rfl, ⟨Or.inl rfl, trivial⟩⟩⟩⟩ ?_
        exact k9
      · rw [if_neg hc6] at hf
        refine E_iload_n (v := x1_4_1) dX12_judge_29 rfl ?_
        refine E_iload_n (v := v3) dX12_judge_30 rfl ?_
        refine E_ishr dX12_judge_31 ?_
        refine E_iconst 1 dX12_judge_32 ic_1 ?_
        refine E_iand dX12_judge_33 ?_
        refine E_iconst 1 dX12_judge_34 ic_1 ?_
        refine E_icmp_ne 42 dX12_judge_35 (by decide) (fun hc7 => ?_) (fun hc7 => ?_)
        · rw [if_pos hc7] at hf
          obtain rfl := Option.some.inj hf
          refine E.fewer (ls' := [none, none, some (.int x2_4_1), none]) ⟨Or.inl rfl, ⟨Or.inl rfl, ⟨Or.inr rfl, ⟨Or.inl rfl, trivial⟩⟩⟩⟩ ?_
          exact k9
        · rw [if_neg hc7] at hf
          refine E_iload_n (v := x1_4_1) dX12_judge_42 rfl ?_
          refine E_iconst 1 dX12_judge_43 ic_1 ?_
          refine E_iload_n (v := v3) dX12_judge_44 rfl ?_
          refine E_ishl dX12_judge_45 ?_
          refine E_ior dX12_judge_46 ?_
          refine E_istore_n (ls' := [some (.ref 0), some (.int (x1_4_1 ||| (1 <<< (v3 &&& 31)))), some (.int x2_4_1), some (.int v3)]) dX12_judge_47 rfl rfl rfl ?_
          refine E_aload_n (v := 0) dX12_judge_48 rfl ?_
          refine E_getR fg_RX12_47 dX12_judge_49 sM_0 rfl rM_0_26 (Nat.succ_ne_zero _) ?_
          refine E_iload_n (v := x2_4_1) dX12_judge_52 rfl ?_
          refine E_iload_n (v := v3) dX12_judge_53 rfl ?_
          obtain ⟨hi8, hf⟩ := gd_some hf
          obtain ⟨w9, ew9, hf⟩ := lw_some hf
          try dsimp only at hf
          refine E_iast (n := 8) dX12_judge_54 sM_12 (by decide) (inb_in hi8) ?_
          rw [← ew9]
          refine E_aload_n (v := 0) dX12_judge_55 rfl ?_
          refine E_iload_n (v := x2_4_1) dX12_judge_56 rfl ?_
          refine E_iconst 1 dX12_judge_57 ic_1 ?_
          refine E_iadd dX12_judge_58 ?_
          refine E_aload_n (v := 0) dX12_judge_59 rfl ?_
          refine E_getI fg_RX12_96 dX12_judge_60 sM_0 rfl ?_
          refine E_iconst 0 dX12_judge_63 ic_0 ?_
          refine E_iconst 0 dX12_judge_64 ic_0 ?_
          obtain ⟨w11, hc10, hf⟩ := bd_some hf
          try dsimp only at hf
          refine E_callVv (rest := []) (ci := 12) cv_RX12_257 dX12_judge_65 (MX12_worksMany hc10) rfl sM_0 rfl (by decide) rfl rfl (fun _ => Nat.le_of_ble_eq_true rfl) ?_
          refine E_aload_n (v := 0) dX12_judge_68 rfl ?_
          refine E_getR fg_RX12_65 dX12_judge_69 sM_0 rfl rM_0_36 (Nat.succ_ne_zero _) ?_
          refine E_iconst 3 dX12_judge_72 ic_3 ?_
          refine E_iload_n (v := x2_4_1) dX12_judge_73 rfl ?_
          refine E_imul dX12_judge_74 ?_
          refine E_iconst 1 dX12_judge_75 ic_1 ?_
          refine E_iadd dX12_judge_76 ?_
          obtain ⟨hi12, hf⟩ := gd_some hf
          refine E_iald (n := 18) dX12_judge_77 sM_18 (by decide) (inb_in hi12) ?_
          refine E_aload_n (v := 0) dX12_judge_78 rfl ?_
          refine E_getR fg_RX12_53 dX12_judge_79 sM_0 rfl rM_0_28 (Nat.succ_ne_zero _) ?_
          refine E_iload_n (v := v3) dX12_judge_82 rfl ?_
          obtain ⟨hi13, hf⟩ := gd_some hf
          refine E_iald (n := 8) dX12_judge_83 sM_14 (by decide) (inb_in hi13) ?_
          refine E_icmp_ne 105 dX12_judge_84 (by decide) (fun hc14 => ?_) (fun hc14 => ?_)
          · rw [if_pos hc14] at hf
            refine E_aload_n (v := 0) dX12_judge_87 rfl ?_
            refine E_getR fg_RX12_65 dX12_judge_88 sM_0 rfl rM_0_36 (Nat.succ_ne_zero _) ?_
            refine E_iconst 3 dX12_judge_91 ic_3 ?_
            refine E_iload_n (v := x2_4_1) dX12_judge_92 rfl ?_
            refine E_imul dX12_judge_93 ?_
            refine E_iconst 2 dX12_judge_94 ic_2 ?_
            refine E_iadd dX12_judge_95 ?_
            obtain ⟨hi15, hf⟩ := gd_some hf
            refine E_iald (n := 18) dX12_judge_96 sM_18 (by decide) (inb_in hi15) ?_
            refine E_aload_n (v := 0) dX12_judge_97 rfl ?_
            refine E_iload_n (v := v3) dX12_judge_98 rfl ?_
            obtain ⟨r17, hc16, hf⟩ := bd_some hf
            try dsimp only at hf
            refine E_callVi (rest := [.int (w11.1 18 ((3 * x2_4_1) + 2).toNatClampNeg)]) (ci := 12) cv_RX12_264 dX12_judge_99 (MX12_worthOf hc16) rfl sM_0 rfl (by decide) rfl rfl (fun _ => Nat.le_of_ble_eq_true rfl) ?_
            refine E_icmp_eq 109 dX12_judge_102 (by decide) (fun hc18 => ?_) (fun hc18 => ?_)
            · rw [if_pos hc18] at hf
              refine E_iinc (ls' := [some (.ref 0), some (.int (x1_4_1 ||| (1 <<< (v3 &&& 31)))), some (.int (x2_4_1 + 1)), some (.int v3)]) 1 dX12_judge_109 rfl ic_1 rfl rfl rfl ?_
              refine E_goto 4 dX12_judge_112 (by decide) ?_
              obtain rfl := Option.some.inj hf
              refine E.fewer (ls' := [some (.ref 0), some (.int (x1_4_1 ||| (1 <<< (v3 &&& 31)))), some (.int (x2_4_1 + 1)), none]) ⟨Or.inr rfl, ⟨Or.inr rfl, ⟨Or.inr rfl, ⟨Or.inl rfl, trivial⟩⟩⟩⟩ ?_
              exact k9
            · rw [if_neg hc18] at hf
              obtain rfl := Option.some.inj hf
              refine E.fewer (ls' := [none, none, some (.int x2_4_1), none]) ⟨Or.inl rfl, ⟨Or.inl rfl, ⟨Or.inr rfl, ⟨Or.inl rfl, trivial⟩⟩⟩⟩ ?_
              exact k9
          · rw [if_neg hc14] at hf
            obtain rfl := Option.some.inj hf
            refine E.fewer (ls' := [none, none, some (.int x2_4_1), none]) ⟨Or.inl rfl, ⟨Or.inl rfl, ⟨Or.inr rfl, ⟨Or.inl rfl, trivial⟩⟩⟩⟩ ?_
            exact k9
  · skip
    rcases q with q | q
    · dsimp only [se] at hf
      obtain ⟨w20, hq9⟩ : ∃ a, a = q := ⟨_, rfl⟩
      subst hq9
      try dsimp only at hf
      show E PM RX12 cX12_judge 4 4 115 [some (.ref 0), none, none, none] [] w20 Q
      refine E_aload_n (v := 0) dX12_judge_115 rfl ?_
      refine E_getI fg_RX12_229 dX12_judge_116 sM_0 rfl ?_
      refine E_aload_n (v := 0) dX12_judge_119 rfl ?_
      refine E_getI fg_RX12_96 dX12_judge_120 sM_0 rfl ?_
      refine E_icmp_ge 132 dX12_judge_123 (by decide) (fun hc21 => ?_) (fun hc21 => ?_)
      · rw [if_pos hc21] at hf
        refine E_iconst 0 dX12_judge_132 ic_0 ?_
        obtain ⟨rfl, rfl⟩ := ret2 hf
        exact E.done (by rw [eQ]; exact ⟨rfl, Or.inl ⟨_, _, rfl, rfl, dX12_judge_133, rfl, rfl⟩⟩)
      · rw [if_neg hc21] at hf
        refine E_sipush 222 dX12_judge_126 sp_222 ?_
        refine E_goto 133 dX12_judge_129 (by decide) ?_
        obtain ⟨rfl, rfl⟩ := ret2 hf
        exact E.done (by rw [eQ]; exact ⟨rfl, Or.inl ⟨_, _, rfl, rfl, dX12_judge_133, rfl, rfl⟩⟩)
    · dsimp only [se] at hf
      rcases q with q | q
      · dsimp only [se] at hf
        obtain ⟨y22, w23⟩ := q
        try dsimp only at hf
        show E PM RX12 cX12_judge 4 4 38 [none, none, some (.int y22), none] [] w23 Q
        refine E_iload_n (v := y22) dX12_judge_38 rfl ?_
        refine E_iconst 1 dX12_judge_39 ic_1 ?_
        refine E_iadd dX12_judge_40 ?_
        obtain ⟨rfl, rfl⟩ := ret2 hf
        exact E.done (by rw [eQ]; exact ⟨rfl, Or.inl ⟨_, _, rfl, rfl, dX12_judge_41, rfl, rfl⟩⟩)
      · dsimp only [se] at hf
        obtain ⟨y24, w25⟩ := q
        try dsimp only at hf
        show E PM RX12 cX12_judge 4 4 105 [none, none, some (.int y24), none] [] w25 Q
        refine E_iload_n (v := y24) dX12_judge_105 rfl ?_
        refine E_iconst 1 dX12_judge_106 ic_1 ?_
        refine E_iadd dX12_judge_107 ?_
        obtain ⟨rfl, rfl⟩ := ret2 hf
        exact E.done (by rw [eQ]; exact ⟨rfl, Or.inl ⟨_, _, rfl, rfl, dX12_judge_108, rfl, rfl⟩⟩)
set_option maxRecDepth 10000 in
set_option maxHeartbeats 2000000 in
theorem MX12_keep {N : Nat} {w : AW} {rZ : Int32} {wZ : AW} (hf : fX12_keep N w = some (rZ, wZ)) : CallOK PM yX12_keep cX12_keep 1 (some .int) 3 [.ref 0] w (some (.int rZ)) wZ := by
  refine CallOK.of (ls := [some (.ref 0)]) (by decide) (by simp) rfl rfl ?_
  obtain ⟨Q, eQ⟩ : ∃ Q, Q = Qret cX12_keep (some .int) (some (.int rZ)) wZ := ⟨_, rfl⟩
  rw [← eQ]
  unfold fX12_keep at hf
  refine E_aload_n (v := 0) dX12_keep_0 rfl ?_
  refine E_iconst 1 dX12_keep_1 ic_1 ?_
  obtain ⟨w2, hc1, hf⟩ := bd_some hf
  try dsimp only at hf
  refine E_callVv (rest := []) (ci := 12) cv_RX12_416 dX12_keep_2 (MX12_moveAll hc1) rfl sM_0 rfl (by decide) rfl rfl (fun _ => Nat.le_of_ble_eq_true rfl) ?_
  refine E_aload_n (v := 0) dX12_keep_5 rfl ?_
  refine E_iconst 1 dX12_keep_6 ic_1 ?_
  obtain ⟨w3, ew3, hf⟩ := lw_some hf
  try dsimp only at hf
  refine E_putI fp_RX12_420 dX12_keep_7 sM_0 rfl rfl rfl ?_
  rw [← ew3]
  refine E_iconst 1 dX12_keep_10 ic_1 ?_
  obtain ⟨rfl, rfl⟩ := ret2 hf
  exact E.done (by rw [eQ]; exact ⟨rfl, Or.inl ⟨_, _, rfl, rfl, dX12_keep_11, rfl, rfl⟩⟩)
set_option maxRecDepth 10000 in
set_option maxHeartbeats 2000000 in
theorem MX12_late {N : Nat} {w : AW} {rZ : Int32} {wZ : AW} (hf : fX12_late N w = some (rZ, wZ)) : CallOK PM yX12_late cX12_late 3 (some .int) 6 [.ref 0] w (some (.int rZ)) wZ := by
  refine CallOK.of (ls := [some (.ref 0), none, none]) (by decide) (by simp) rfl rfl ?_
  obtain ⟨Q, eQ⟩ : ∃ Q, Q = Qret cX12_late (some .int) (some (.int rZ)) wZ := ⟨_, rfl⟩
  rw [← eQ]
  unfold fX12_late at hf
  refine E_aload_n (v := 0) dX12_late_0 rfl ?_
  obtain ⟨w2, hc1, hf⟩ := bd_some hf
  try dsimp only at hf
  refine E_callVv (rest := []) (ci := 12) cv_RX12_271 dX12_late_1 (MX12_byPlan hc1) rfl sM_0 rfl (by decide) rfl rfl (fun _ => Nat.le_of_ble_eq_true rfl) ?_
  refine E_iconst 0 dX12_late_4 ic_0 ?_
  refine E_istore_n (ls' := [some (.ref 0), some (.int 0), none]) dX12_late_5 rfl rfl rfl ?_
  refine E_iconst 0 dX12_late_6 ic_0 ?_
  refine E_istore_n (ls' := [some (.ref 0), some (.int 0), some (.int 0)]) dX12_late_7 rfl rfl rfl ?_
  obtain ⟨q, hw7, hf⟩ := bd_some hf
  try dsimp only at hf
  show (fun (s : Int32 × Int32) => E PM RX12 cX12_late 3 6 8 [some (.ref 0), some (.int s.1), some (.int s.2)] [] w2 Q) (0, 0)
  refine wh_E (K := (fun (s : Int32 × Int32) => E PM RX12 cX12_late 3 6 8 [some (.ref 0), some (.int s.1), some (.int s.2)] [] w2 Q)) (X := (fun (s : Int32) => E PM RX12 cX12_late 3 6 40 [none, some (.int s), none] [] w2 Q)) ?_ hw7 ?_
  · intro s9 z9 hf k9
    obtain ⟨x1_8_1, x2_8_1⟩ := s9
    dsimp only [lbX12_late_8_1] at hf
    show E PM RX12 cX12_late 3 6 8 [some (.ref 0), some (.int x1_8_1), some (.int x2_8_1)] [] w2 Q
    refine E_iload_n (v := x2_8_1) dX12_late_8 rfl ?_
    refine E_aload_n (v := 0) dX12_late_9 rfl ?_
    refine E_getI fg_RX12_96 dX12_late_10 sM_0 rfl ?_
    refine E_icmp_ge 40 dX12_late_13 (by decide) (fun hc3 => ?_) (fun hc3 => ?_)
    · rw [if_pos hc3] at hf
      obtain rfl := Option.some.inj hf
      refine E.fewer (ls' := [none, some (.int x1_8_1), none]) ⟨Or.inl rfl, ⟨Or.inr rfl, ⟨Or.inl rfl, trivial⟩⟩⟩ ?_
      exact k9
    · rw [if_neg hc3] at hf
      refine E_iload_n (v := x1_8_1) dX12_late_16 rfl ?_
      refine E_aload_n (v := 0) dX12_late_17 rfl ?_
      refine E_iload_n (v := x2_8_1) dX12_late_18 rfl ?_
      obtain ⟨r5, hc4, hf⟩ := bd_some hf
      try dsimp only at hf
      refine E_callVi (rest := [.int x1_8_1]) (ci := 12) cv_RX12_261 dX12_late_19 (MX12_isLate hc4) rfl sM_0 rfl (by decide) rfl rfl (fun _ => Nat.le_of_ble_eq_true rfl) ?_
      refine E_if_eq 31 dX12_late_22 (by decide) (fun hc6 => ?_) (fun hc6 => ?_)
      · rw [if_pos hc6] at hf
        refine E_iconst 0 dX12_late_31 ic_0 ?_
        refine E_ior dX12_late_32 ?_
        refine E_istore_n (ls' := [some (.ref 0), some (.int (x1_8_1 ||| 0)), some (.int x2_8_1)]) dX12_late_33 rfl rfl rfl ?_
        refine E_iinc (ls' := [some (.ref 0), some (.int (x1_8_1 ||| 0)), some (.int (x2_8_1 + 1))]) 1 dX12_late_34 rfl ic_1 rfl rfl rfl ?_
        refine E_goto 8 dX12_late_37 (by decide) ?_
        obtain rfl := Option.some.inj hf
        exact k9
      · rw [if_neg hc6] at hf
        refine E_iconst 1 dX12_late_25 ic_1 ?_
        refine E_iload_n (v := x2_8_1) dX12_late_26 rfl ?_
        refine E_ishl dX12_late_27 ?_
        refine E_goto 32 dX12_late_28 (by decide) ?_
        refine E_ior dX12_late_32 ?_
        refine E_istore_n (ls' := [some (.ref 0), some (.int (x1_8_1 ||| (1 <<< (x2_8_1 &&& 31)))), some (.int x2_8_1)]) dX12_late_33 rfl rfl rfl ?_
        refine E_iinc (ls' := [some (.ref 0), some (.int (x1_8_1 ||| (1 <<< (x2_8_1 &&& 31)))), some (.int (x2_8_1 + 1))]) 1 dX12_late_34 rfl ic_1 rfl rfl rfl ?_
        refine E_goto 8 dX12_late_37 (by decide) ?_
        obtain rfl := Option.some.inj hf
        exact k9
  · skip
    obtain ⟨y8, hq9⟩ : ∃ a, a = q := ⟨_, rfl⟩
    subst hq9
    try dsimp only at hf
    show E PM RX12 cX12_late 3 6 40 [none, some (.int y8), none] [] w2 Q
    refine E_iload_n (v := y8) dX12_late_40 rfl ?_
    obtain ⟨rfl, rfl⟩ := ret2 hf
    exact E.done (by rw [eQ]; exact ⟨rfl, Or.inl ⟨_, _, rfl, rfl, dX12_late_41, rfl, rfl⟩⟩)
set_option maxRecDepth 10000 in
set_option maxHeartbeats 2000000 in
theorem MX12_lose {a0 : Int32} {a1 : Int32} {w : AW} {rZ : Int32} {wZ : AW} (hf : fX12_lose a0 a1 w = some (rZ, wZ)) : CallOK PM yX12_lose cX12_lose 4 (some .int) 2 [.ref 0, .int a0, .int a1] w (some (.int rZ)) wZ := by
  refine CallOK.of (ls := [some (.ref 0), some (.int a0), some (.int a1), none]) (by decide) (by simp) rfl rfl ?_
  obtain ⟨Q, eQ⟩ : ∃ Q, Q = Qret cX12_lose (some .int) (some (.int rZ)) wZ := ⟨_, rfl⟩
  rw [← eQ]
  unfold fX12_lose at hf
  refine E_iload_n (v := a0) dX12_lose_0 rfl ?_
  refine E_iconst 0 dX12_lose_1 ic_0 ?_
  refine E_bipush 60 dX12_lose_2 bp_60 ?_
  obtain ⟨r2, hc1, hf⟩ := bd_some hf
  try dsimp only at hf
  refine E_callSi (rest := []) cs_RX12_99 dX12_lose_4 (MX12_in hc1) rfl rfl rfl (fun _ => Nat.le_of_ble_eq_true rfl) ?_
  refine E_if_eq 20 dX12_lose_7 (by decide) (fun hc3 => ?_) (fun hc3 => ?_)
  · rw [if_pos hc3] at hf
    refine E_iconst (-1) dX12_lose_20 ic_m1 ?_
    obtain ⟨rfl, rfl⟩ := ret2 hf
    exact E.done (by rw [eQ]; exact ⟨rfl, Or.inl ⟨_, _, rfl, rfl, dX12_lose_21, rfl, rfl⟩⟩)
  · rw [if_neg hc3] at hf
    refine E_iload_n (v := a1) dX12_lose_10 rfl ?_
    refine E_iconst 0 dX12_lose_11 ic_0 ?_
    refine E_bipush 9 dX12_lose_12 bp_9 ?_
    obtain ⟨r5, hc4, hf⟩ := bd_some hf
    try dsimp only at hf
    refine E_callSi (rest := []) cs_RX12_99 dX12_lose_14 (MX12_in hc4) rfl rfl rfl (fun _ => Nat.le_of_ble_eq_true rfl) ?_
    refine E_if_ne 22 dX12_lose_17 (by decide) (fun hc6 => ?_) (fun hc6 => ?_)
    · rw [if_pos hc6] at hf
      refine E_iconst (-1) dX12_lose_20 ic_m1 ?_
      obtain ⟨rfl, rfl⟩ := ret2 hf
      exact E.done (by rw [eQ]; exact ⟨rfl, Or.inl ⟨_, _, rfl, rfl, dX12_lose_21, rfl, rfl⟩⟩)
    · rw [if_neg hc6] at hf
      refine E_aload_n (v := 0) dX12_lose_22 rfl ?_
      refine E_getR fg_RX12_22 dX12_lose_23 sM_0 rfl rM_0_9 (Nat.succ_ne_zero _) ?_
      refine E_iload_n (v := a0) dX12_lose_26 rfl ?_
      obtain ⟨hi7, hf⟩ := gd_some hf
      refine E_iald (n := 61) dX12_lose_27 sM_5 (by decide) (inb_in hi7) ?_
      refine E_istore_n (ls' := [some (.ref 0), some (.int a0), some (.int a1), some (.int (w.1 5 a0.toNatClampNeg))]) dX12_lose_28 rfl rfl rfl ?_
      refine E_aload_n (v := 0) dX12_lose_29 rfl ?_
      refine E_getR fg_RX12_22 dX12_lose_30 sM_0 rfl rM_0_9 (Nat.succ_ne_zero _) ?_
      refine E_iload_n (v := a0) dX12_lose_33 rfl ?_
      refine E_iload_n (v := a1) dX12_lose_34 rfl ?_
      obtain ⟨w8, ew8, hf⟩ := lw_some hf
      try dsimp only at hf
      refine E_iast (n := 61) dX12_lose_35 sM_5 (by decide) (inb_in hi7) ?_
      rw [← ew8]
      refine E_iload_n (v := (w.1 5 a0.toNatClampNeg)) dX12_lose_36 rfl ?_
      obtain ⟨rfl, rfl⟩ := ret2 hf
      exact E.done (by rw [eQ]; exact ⟨rfl, Or.inl ⟨_, _, rfl, rfl, dX12_lose_37, rfl, rfl⟩⟩)
set_option maxRecDepth 10000 in
set_option maxHeartbeats 2000000 in
theorem MX12_many {a0 : Int32} {w : AW} {rZ : Int32} (hf : fX12_many a0 w = some rZ) : CallOK PM yX12_many cX12_many 2 (some .int) 1 [.ref 0, .int a0] w (some (.int rZ)) w := by
  refine CallOK.of (ls := [some (.ref 0), some (.int a0)]) (by decide) (by simp) rfl rfl ?_
  obtain ⟨Q, eQ⟩ : ∃ Q, Q = Qret cX12_many (some .int) (some (.int rZ)) w := ⟨_, rfl⟩
  rw [← eQ]
  unfold fX12_many at hf
  refine E_iload_n (v := a0) dX12_many_0 rfl ?_
  by_cases hc1 : a0 = 0
  · rw [if_pos hc1] at hf
    refine E_tableIn 36 dX12_many_1 (by rw [hc1]; decide) (by rw [hc1]; decide) (by rw [hc1]; rfl) (by decide) ?_
    refine E_aload_n (v := 0) dX12_many_36 rfl ?_
    refine E_getI fg_RX12_96 dX12_many_37 sM_0 rfl ?_
    obtain rfl := Option.some.inj hf
    exact E.done (by rw [eQ]; exact ⟨rfl, Or.inl ⟨_, _, rfl, rfl, dX12_many_40, rfl, rfl⟩⟩)
  · rw [if_neg hc1] at hf
    by_cases hc2 : a0 = 1
    · rw [if_pos hc2] at hf
      refine E_tableIn 41 dX12_many_1 (by rw [hc2]; decide) (by rw [hc2]; decide) (by rw [hc2]; rfl) (by decide) ?_
      refine E_aload_n (v := 0) dX12_many_41 rfl ?_
      refine E_getI fg_RX12_324 dX12_many_42 sM_0 rfl ?_
      obtain rfl := Option.some.inj hf
      exact E.done (by rw [eQ]; exact ⟨rfl, Or.inl ⟨_, _, rfl, rfl, dX12_many_45, rfl, rfl⟩⟩)
    · rw [if_neg hc2] at hf
      by_cases hc3 : a0 = 2
      · rw [if_pos hc3] at hf
        refine E_tableIn 46 dX12_many_1 (by rw [hc3]; decide) (by rw [hc3]; decide) (by rw [hc3]; rfl) (by decide) ?_
        refine E_aload_n (v := 0) dX12_many_46 rfl ?_
        refine E_getI fg_RX12_229 dX12_many_47 sM_0 rfl ?_
        obtain rfl := Option.some.inj hf
        exact E.done (by rw [eQ]; exact ⟨rfl, Or.inl ⟨_, _, rfl, rfl, dX12_many_50, rfl, rfl⟩⟩)
      · rw [if_neg hc3] at hf
        by_cases hc4 : a0 = 3
        · rw [if_pos hc4] at hf
          refine E_tableIn 51 dX12_many_1 (by rw [hc4]; decide) (by rw [hc4]; decide) (by rw [hc4]; rfl) (by decide) ?_
          refine E_aload_n (v := 0) dX12_many_51 rfl ?_
          refine E_getI fg_RX12_111 dX12_many_52 sM_0 rfl ?_
          obtain rfl := Option.some.inj hf
          exact E.done (by rw [eQ]; exact ⟨rfl, Or.inl ⟨_, _, rfl, rfl, dX12_many_55, rfl, rfl⟩⟩)
        · rw [if_neg hc4] at hf
          by_cases hc5 : a0 = 4
          · rw [if_pos hc5] at hf
            refine E_tableIn 56 dX12_many_1 (by rw [hc5]; decide) (by rw [hc5]; decide) (by rw [hc5]; rfl) (by decide) ?_
            refine E_aload_n (v := 0) dX12_many_56 rfl ?_
            refine E_getI fg_RX12_361 dX12_many_57 sM_0 rfl ?_
            obtain rfl := Option.some.inj hf
            exact E.done (by rw [eQ]; exact ⟨rfl, Or.inl ⟨_, _, rfl, rfl, dX12_many_60, rfl, rfl⟩⟩)
          · rw [if_neg hc5] at hf
            refine E_tableOut 61 dX12_many_1 (tb_0_4 hc1 hc2 hc3 hc4 hc5) (by decide) ?_
            refine E_iconst (-1) dX12_many_61 ic_m1 ?_
            obtain rfl := Option.some.inj hf
            exact E.done (by rw [eQ]; exact ⟨rfl, Or.inl ⟨_, _, rfl, rfl, dX12_many_62, rfl, rfl⟩⟩)
set_option maxRecDepth 10000 in
set_option maxHeartbeats 2000000 in
theorem MX12_oftenOf {N : Nat} {a0 : Int32} {w : AW} {rZ : Int32} (hf : fX12_oftenOf N a0 w = some rZ) : CallOK PM yX12_oftenOf cX12_oftenOf 4 (some .int) 1 [.ref 0, .int a0] w (some (.int rZ)) w := by
  refine CallOK.of (ls := [some (.ref 0), some (.int a0), none, none]) (by decide) (by simp) rfl rfl ?_
  obtain ⟨Q, eQ⟩ : ∃ Q, Q = Qret cX12_oftenOf (some .int) (some (.int rZ)) w := ⟨_, rfl⟩
  rw [← eQ]
  unfold fX12_oftenOf at hf
  refine E_iconst 1 dX12_oftenOf_0 ic_1 ?_
  refine E_istore_n (ls' := [some (.ref 0), some (.int a0), some (.int 1), none]) dX12_oftenOf_1 rfl rfl rfl ?_
  refine E_iconst 0 dX12_oftenOf_2 ic_0 ?_
  refine E_istore_n (ls' := [some (.ref 0), some (.int a0), some (.int 1), some (.int 0)]) dX12_oftenOf_3 rfl rfl rfl ?_
  obtain ⟨q, hw5, hf⟩ := bd_some hf
  try dsimp only at hf
  show (fun (s : Int32 × Int32) => E PM RX12 cX12_oftenOf 4 1 4 [some (.ref 0), some (.int a0), some (.int s.1), some (.int s.2)] [] w Q) (1, 0)
  refine wh_E (K := (fun (s : Int32 × Int32) => E PM RX12 cX12_oftenOf 4 1 4 [some (.ref 0), some (.int a0), some (.int s.1), some (.int s.2)] [] w Q)) (X := (fun (s : Int32) => E PM RX12 cX12_oftenOf 4 1 47 [none, none, some (.int s), none] [] w Q)) ?_ hw5 ?_
  · intro s9 z9 hf k9
    obtain ⟨x2_4_1, x3_4_1⟩ := s9
    dsimp only [lbX12_oftenOf_4_1] at hf
    show E PM RX12 cX12_oftenOf 4 1 4 [some (.ref 0), some (.int a0), some (.int x2_4_1), some (.int x3_4_1)] [] w Q
    refine E_iload_n (v := x3_4_1) dX12_oftenOf_4 rfl ?_
    refine E_aload_n (v := 0) dX12_oftenOf_5 rfl ?_
    refine E_getI fg_RX12_96 dX12_oftenOf_6 sM_0 rfl ?_
    refine E_icmp_ge 47 dX12_oftenOf_9 (by decide) (fun hc1 => ?_) (fun hc1 => ?_)
    · rw [if_pos hc1] at hf
      obtain rfl := Option.some.inj hf
      refine E.fewer (ls' := [none, none, some (.int x2_4_1), none]) ⟨Or.inl rfl, ⟨Or.inl rfl, ⟨Or.inr rfl, ⟨Or.inl rfl, trivial⟩⟩⟩⟩ ?_
      exact k9
    · rw [if_neg hc1] at hf
      refine E_iload_n (v := x2_4_1) dX12_oftenOf_12 rfl ?_
      refine E_iload_n (v := a0) dX12_oftenOf_13 rfl ?_
      refine E_iload_n (v := x3_4_1) dX12_oftenOf_14 rfl ?_
      refine E_ishr dX12_oftenOf_15 ?_
      refine E_iconst 1 dX12_oftenOf_16 ic_1 ?_
      refine E_iand dX12_oftenOf_17 ?_
      refine E_iconst 1 dX12_oftenOf_18 ic_1 ?_
      refine E_icmp_ne 31 dX12_oftenOf_19 (by decide) (fun hc2 => ?_) (fun hc2 => ?_)
      · rw [if_pos hc2] at hf
        refine E_aload_n (v := 0) dX12_oftenOf_22 rfl ?_
        refine E_getR fg_RX12_13 dX12_oftenOf_23 sM_0 rfl rM_0_2 (Nat.succ_ne_zero _) ?_
        refine E_iconst 3 dX12_oftenOf_26 ic_3 ?_
        refine E_iald (n := 4) dX12_oftenOf_27 sM_2 (by decide) (inb_in (by decide)) ?_
        refine E_goto 39 dX12_oftenOf_28 (by decide) ?_
        refine E_imul dX12_oftenOf_39 ?_
        obtain ⟨v3, ev3, hf⟩ := lw_some hf
        try dsimp only at hf
        rw [← ev3]
        refine E_istore_n (ls' := [some (.ref 0), some (.int a0), some (.int v3), some (.int x3_4_1)]) dX12_oftenOf_40 rfl rfl rfl ?_
        refine E_iinc (ls' := [some (.ref 0), some (.int a0), some (.int v3), some (.int (x3_4_1 + 1))]) 1 dX12_oftenOf_41 rfl ic_1 rfl rfl rfl ?_
        refine E_goto 4 dX12_oftenOf_44 (by decide) ?_
        obtain rfl := Option.some.inj hf
        exact k9
      · rw [if_neg hc2] at hf
        refine E_iconst 4 dX12_oftenOf_31 ic_4 ?_
        refine E_aload_n (v := 0) dX12_oftenOf_32 rfl ?_
        refine E_getR fg_RX12_13 dX12_oftenOf_33 sM_0 rfl rM_0_2 (Nat.succ_ne_zero _) ?_
        refine E_iconst 3 dX12_oftenOf_36 ic_3 ?_
        refine E_iald (n := 4) dX12_oftenOf_37 sM_2 (by decide) (inb_in (by decide)) ?_
        refine E_isub dX12_oftenOf_38 ?_
        refine E_imul dX12_oftenOf_39 ?_
        obtain ⟨v4, ev4, hf⟩ := lw_some hf
        try dsimp only at hf
        rw [← ev4]
        refine E_istore_n (ls' := [some (.ref 0), some (.int a0), some (.int v4), some (.int x3_4_1)]) dX12_oftenOf_40 rfl rfl rfl ?_
        refine E_iinc (ls' := [some (.ref 0), some (.int a0), some (.int v4), some (.int (x3_4_1 + 1))]) 1 dX12_oftenOf_41 rfl ic_1 rfl rfl rfl ?_
        refine E_goto 4 dX12_oftenOf_44 (by decide) ?_
        obtain rfl := Option.some.inj hf
        exact k9
  · skip
    obtain ⟨y6, hq9⟩ : ∃ a, a = q := ⟨_, rfl⟩
    subst hq9
    try dsimp only at hf
    show E PM RX12 cX12_oftenOf 4 1 47 [none, none, some (.int y6), none] [] w Q
    refine E_iload_n (v := y6) dX12_oftenOf_47 rfl ?_
    obtain rfl := Option.some.inj hf
    exact E.done (by rw [eQ]; exact ⟨rfl, Or.inl ⟨_, _, rfl, rfl, dX12_oftenOf_48, rfl, rfl⟩⟩)
set_option maxRecDepth 10000 in
set_option maxHeartbeats 2000000 in
theorem MX12_orderOfPlan {N : Nat} {w : AW} {wZ : AW} (hf : fX12_orderOfPlan N w = some wZ) : CallOK PM yX12_orderOfPlan cX12_orderOfPlan 2 none 1 [.ref 0] w none wZ := by
  refine CallOK.of (ls := [some (.ref 0), none]) (by decide) (by simp) rfl rfl ?_
  obtain ⟨Q, eQ⟩ : ∃ Q, Q = Qret cX12_orderOfPlan none none wZ := ⟨_, rfl⟩
  rw [← eQ]
  unfold fX12_orderOfPlan at hf
  refine E_iconst 0 dX12_orderOfPlan_0 ic_0 ?_
  refine E_istore_n (ls' := [some (.ref 0), some (.int 0)]) dX12_orderOfPlan_1 rfl rfl rfl ?_
  obtain ⟨q, hw4, hf⟩ := bd_some hf
  try dsimp only at hf
  show (fun (s : Int32 × AW) => E PM RX12 cX12_orderOfPlan 2 1 2 [some (.ref 0), some (.int s.1)] [] s.2 Q) (0, w)
  refine wh_E (K := (fun (s : Int32 × AW) => E PM RX12 cX12_orderOfPlan 2 1 2 [some (.ref 0), some (.int s.1)] [] s.2 Q)) (X := (fun (s : AW) => E PM RX12 cX12_orderOfPlan 2 1 28 [none, none] [] s Q)) ?_ hw4 ?_
  · intro s9 z9 hf k9
    obtain ⟨x1_2_1, w_2_1⟩ := s9
    dsimp only [lbX12_orderOfPlan_2_1] at hf
    show E PM RX12 cX12_orderOfPlan 2 1 2 [some (.ref 0), some (.int x1_2_1)] [] w_2_1 Q
    refine E_iload_n (v := x1_2_1) dX12_orderOfPlan_2 rfl ?_
    refine E_aload_n (v := 0) dX12_orderOfPlan_3 rfl ?_
    refine E_getI fg_RX12_96 dX12_orderOfPlan_4 sM_0 rfl ?_
    refine E_icmp_ge 28 dX12_orderOfPlan_7 (by decide) (fun hc1 => ?_) (fun hc1 => ?_)
    · rw [if_pos hc1] at hf
      obtain rfl := Option.some.inj hf
      refine E.fewer (ls' := [none, none]) ⟨Or.inl rfl, ⟨Or.inl rfl, trivial⟩⟩ ?_
      exact k9
    · rw [if_neg hc1] at hf
      refine E_aload_n (v := 0) dX12_orderOfPlan_10 rfl ?_
      refine E_getR fg_RX12_47 dX12_orderOfPlan_11 sM_0 rfl rM_0_26 (Nat.succ_ne_zero _) ?_
      refine E_iload_n (v := x1_2_1) dX12_orderOfPlan_14 rfl ?_
      refine E_aload_n (v := 0) dX12_orderOfPlan_15 rfl ?_
      refine E_getR fg_RX12_28 dX12_orderOfPlan_16 sM_0 rfl rM_0_11 (Nat.succ_ne_zero _) ?_
      refine E_iload_n (v := x1_2_1) dX12_orderOfPlan_19 rfl ?_
      obtain ⟨hi2, hf⟩ := gd_some hf
      refine E_iald (n := 8) dX12_orderOfPlan_20 sM_7 (by decide) (inb_in hi2) ?_
      obtain ⟨w3, ew3, hf⟩ := lw_some hf
      try dsimp only at hf
      refine E_iast (n := 8) dX12_orderOfPlan_21 sM_12 (by decide) (inb_in hi2) ?_
      rw [← ew3]
      refine E_iinc (ls' := [some (.ref 0), some (.int (x1_2_1 + 1))]) 1 dX12_orderOfPlan_22 rfl ic_1 rfl rfl rfl ?_
      refine E_goto 2 dX12_orderOfPlan_25 (by decide) ?_
      obtain rfl := Option.some.inj hf
      exact k9
  · skip
    obtain ⟨w5, hq9⟩ : ∃ a, a = q := ⟨_, rfl⟩
    subst hq9
    try dsimp only at hf
    show E PM RX12 cX12_orderOfPlan 2 1 28 [none, none] [] w5 Q
    obtain rfl := Option.some.inj hf
    exact E.done (by rw [eQ]; exact ⟨rfl, Or.inr ⟨rfl, rfl, dX12_orderOfPlan_28, rfl⟩⟩)
set_option maxRecDepth 10000 in
set_option maxHeartbeats 2000000 in
theorem MX12_mean {N : Nat} {a0 : Int32} {w : AW} {rZ : Int32} {wZ : AW} (hf : fX12_mean N a0 w = some (rZ, wZ)) : CallOK PM yX12_mean cX12_mean 5 (some .int) 5 [.ref 0, .int a0] w (some (.int rZ)) wZ := by
  refine CallOK.of (ls := [some (.ref 0), some (.int a0), none, none, none]) (by decide) (by simp) rfl rfl ?_
  obtain ⟨Q, eQ⟩ : ∃ Q, Q = Qret cX12_mean (some .int) (some (.int rZ)) wZ := ⟨_, rfl⟩
  rw [← eQ]
  unfold fX12_mean at hf
  refine E_iload_n (v := a0) dX12_mean_0 rfl ?_
  obtain ⟨r2, hc1, hf⟩ := bd_some hf
  try dsimp only at hf
  refine E_callSi (rest := []) cs_RX12_103 dX12_mean_1 (MX12_isSide hc1) rfl rfl rfl (fun _ => Nat.le_of_ble_eq_true rfl) ?_
  refine E_if_ne 11 dX12_mean_4 (by decide) (fun hc3 => ?_) (fun hc3 => ?_)
  · rw [if_pos hc3] at hf
    refine E_ldcw (-2147483648) dX12_mean_7 wk_RX12_284 ?_
    obtain ⟨rfl, rfl⟩ := ret2 hf
    exact E.done (by rw [eQ]; exact ⟨rfl, Or.inl ⟨_, _, rfl, rfl, dX12_mean_10, rfl, rfl⟩⟩)
  · rw [if_neg hc3] at hf
    refine E_aload_n (v := 0) dX12_mean_11 rfl ?_
    obtain ⟨w5, hc4, hf⟩ := bd_some hf
    try dsimp only at hf
    refine E_callVv (rest := []) (ci := 12) cv_RX12_315 dX12_mean_12 (MX12_orderOfPlan hc4) rfl sM_0 rfl (by decide) rfl rfl (fun _ => Nat.le_of_ble_eq_true rfl) ?_
    refine E_iconst 0 dX12_mean_15 ic_0 ?_
    refine E_istore_n (ls' := [some (.ref 0), some (.int a0), some (.int 0), none, none]) dX12_mean_16 rfl rfl rfl ?_
    refine E_iconst 0 dX12_mean_17 ic_0 ?_
    refine E_istore_n (ls' := [some (.ref 0), some (.int a0), some (.int 0), some (.int 0), none]) dX12_mean_18 rfl rfl rfl ?_
    obtain ⟨q, hw13, hf⟩ := bd_some hf
    try dsimp only at hf
    show (fun (s : Int32 × Int32 × AW) => E PM RX12 cX12_mean 5 5 19 [some (.ref 0), some (.int a0), some (.int s.1), some (.int s.2.1), none] [] s.2.2 Q) (0, 0, w5)
    refine wh_E (K := (fun (s : Int32 × Int32 × AW) => E PM RX12 cX12_mean 5 5 19 [some (.ref 0), some (.int a0), some (.int s.1), some (.int s.2.1), none] [] s.2.2 Q)) (X := (fun (s : Int32 × AW) => E PM RX12 cX12_mean 5 5 66 [some (.ref 0), some (.int a0), some (.int s.1), none, none] [] s.2 Q)) ?_ hw13 ?_
    · intro s9 z9 hf k9
      obtain ⟨x2_19_1, x3_19_1, w_19_1⟩ := s9
      dsimp only [lbX12_mean_19_1] at hf
      show E PM RX12 cX12_mean 5 5 19 [some (.ref 0), some (.int a0), some (.int x2_19_1), some (.int x3_19_1), none] [] w_19_1 Q
      refine E_iload_n (v := x3_19_1) dX12_mean_19 rfl ?_
      refine E_iconst 1 dX12_mean_20 ic_1 ?_
      refine E_aload_n (v := 0) dX12_mean_21 rfl ?_
      refine E_getI fg_RX12_96 dX12_mean_22 sM_0 rfl ?_
      refine E_ishl dX12_mean_25 ?_
      refine E_icmp_ge 66 dX12_mean_26 (by decide) (fun hc6 => ?_) (fun hc6 => ?_)
      · rw [if_pos hc6] at hf
        obtain rfl := Option.some.inj hf
        refine E.fewer (ls' := [some (.ref 0), some (.int a0), some (.int x2_19_1), none, none]) ⟨Or.inr rfl, ⟨Or.inr rfl, ⟨Or.inr rfl, ⟨Or.inl rfl, ⟨Or.inl rfl, trivial⟩⟩⟩⟩⟩ ?_
        exact k9
      · rw [if_neg hc6] at hf
        refine E_aload_n (v := 0) dX12_mean_29 rfl ?_
        refine E_iload_n (v := x3_19_1) dX12_mean_30 rfl ?_
        obtain ⟨r8, hc7, hf⟩ := bd_some hf
        try dsimp only at hf
        refine E_callVi (rest := []) (ci := 12) cv_RX12_312 dX12_mean_31 (MX12_oftenOf hc7) rfl sM_0 rfl (by decide) rfl rfl (fun _ => Nat.le_of_ble_eq_true rfl) ?_
        refine E_istore (ls' := [some (.ref 0), some (.int a0), some (.int x2_19_1), some (.int x3_19_1), some (.int r8)]) dX12_mean_34 rfl rfl rfl ?_
        refine E_aload_n (v := 0) dX12_mean_36 rfl ?_
        refine E_aload_n (v := 0) dX12_mean_37 rfl ?_
        refine E_getI fg_RX12_96 dX12_mean_38 sM_0 rfl ?_
        refine E_iload_n (v := x3_19_1) dX12_mean_41 rfl ?_
        refine E_iconst 0 dX12_mean_42 ic_0 ?_
        obtain ⟨w10, hc9, hf⟩ := bd_some hf
        try dsimp only at hf
        refine E_callVv (rest := []) (ci := 12) cv_RX12_267 dX12_mean_43 (MX12_worksAll hc9) rfl sM_0 rfl (by decide) rfl rfl (fun _ => Nat.le_of_ble_eq_true rfl) ?_
        refine E_iload_n (v := x2_19_1) dX12_mean_46 rfl ?_
        refine E_iload (v := r8) dX12_mean_47 rfl ?_
        refine E_aload_n (v := 0) dX12_mean_49 rfl ?_
        refine E_aload_n (v := 0) dX12_mean_50 rfl ?_
        refine E_getI fg_RX12_96 dX12_mean_51 sM_0 rfl ?_
        obtain ⟨r12, hc11, hf⟩ := bd_some hf
        try dsimp only at hf
        refine E_callVi (rest := [.int r8, .int x2_19_1]) (ci := 12) cv_RX12_274 dX12_mean_54 (MX12_worthAll hc11) rfl sM_0 rfl (by decide) rfl rfl (fun _ => Nat.le_of_ble_eq_true rfl) ?_
        refine E_imul dX12_mean_57 ?_
        refine E_iadd dX12_mean_58 ?_
        refine E_istore_n (ls' := [some (.ref 0), some (.int a0), some (.int (x2_19_1 + (r8 * r12))), some (.int x3_19_1), some (.int r8)]) dX12_mean_59 rfl rfl rfl ?_
        refine E_iinc (ls' := [some (.ref 0), some (.int a0), some (.int (x2_19_1 + (r8 * r12))), some (.int (x3_19_1 + 1)), some (.int r8)]) 1 dX12_mean_60 rfl ic_1 rfl rfl rfl ?_
        refine E_goto 19 dX12_mean_63 (by decide) ?_
        obtain rfl := Option.some.inj hf
        refine E.fewer (ls' := [some (.ref 0), some (.int a0), some (.int (x2_19_1 + (r8 * r12))), some (.int (x3_19_1 + 1)), none]) ⟨Or.inr rfl, ⟨Or.inr rfl, ⟨Or.inr rfl, ⟨Or.inr rfl, ⟨Or.inl rfl, trivial⟩⟩⟩⟩⟩ ?_
        exact k9
    · skip
      obtain ⟨y14, w15⟩ := q
      try dsimp only at hf
      show E PM RX12 cX12_mean 5 5 66 [some (.ref 0), some (.int a0), some (.int y14), none, none] [] w15 Q
      refine E_aload_n (v := 0) dX12_mean_66 rfl ?_
      refine E_iload_n (v := y14) dX12_mean_67 rfl ?_
      refine E_iconst 1 dX12_mean_68 ic_1 ?_
      refine E_iconst 2 dX12_mean_69 ic_2 ?_
      refine E_aload_n (v := 0) dX12_mean_70 rfl ?_
      refine E_getI fg_RX12_96 dX12_mean_71 sM_0 rfl ?_
      refine E_imul dX12_mean_74 ?_
      refine E_ishl dX12_mean_75 ?_
      obtain ⟨w17, hc16, hf⟩ := bd_some hf
      try dsimp only at hf
      refine E_callVv (rest := []) (ci := 12) cv_RX12_321 dX12_mean_76 (MX12_lowest hc16) rfl sM_0 rfl (by decide) rfl rfl (fun _ => Nat.le_of_ble_eq_true rfl) ?_
      refine E_iload_n (v := a0) dX12_mean_79 rfl ?_
      refine E_if_ne 90 dX12_mean_80 (by decide) (fun hc18 => ?_) (fun hc18 => ?_)
      · rw [if_pos hc18] at hf
        refine E_aload_n (v := 0) dX12_mean_83 rfl ?_
        refine E_getI fg_RX12_306 dX12_mean_84 sM_0 rfl ?_
        refine E_goto 94 dX12_mean_87 (by decide) ?_
        obtain ⟨rfl, rfl⟩ := ret2 hf
        exact E.done (by rw [eQ]; exact ⟨rfl, Or.inl ⟨_, _, rfl, rfl, dX12_mean_94, rfl, rfl⟩⟩)
      · rw [if_neg hc18] at hf
        refine E_aload_n (v := 0) dX12_mean_90 rfl ?_
        refine E_getI fg_RX12_309 dX12_mean_91 sM_0 rfl ?_
        obtain ⟨rfl, rfl⟩ := ret2 hf
        exact E.done (by rw [eQ]; exact ⟨rfl, Or.inl ⟨_, _, rfl, rfl, dX12_mean_94, rfl, rfl⟩⟩)
set_option maxRecDepth 10000 in
set_option maxHeartbeats 2000000 in
theorem MX12_night {a0 : Int32} {a1 : Int32} {w : AW} {rZ : Int32} {wZ : AW} (hf : fX12_night a0 a1 w = some (rZ, wZ)) : CallOK PM yX12_night cX12_night 4 (some .int) 2 [.ref 0, .int a0, .int a1] w (some (.int rZ)) wZ := by
  refine CallOK.of (ls := [some (.ref 0), some (.int a0), some (.int a1), none]) (by decide) (by simp) rfl rfl ?_
  obtain ⟨Q, eQ⟩ : ∃ Q, Q = Qret cX12_night (some .int) (some (.int rZ)) wZ := ⟨_, rfl⟩
  rw [← eQ]
  unfold fX12_night at hf
  refine E_iload_n (v := a0) dX12_night_0 rfl ?_
  refine E_iconst 0 dX12_night_1 ic_0 ?_
  refine E_bipush 60 dX12_night_2 bp_60 ?_
  obtain ⟨r2, hc1, hf⟩ := bd_some hf
  try dsimp only at hf
  refine E_callSi (rest := []) cs_RX12_99 dX12_night_4 (MX12_in hc1) rfl rfl rfl (fun _ => Nat.le_of_ble_eq_true rfl) ?_
  refine E_if_eq 20 dX12_night_7 (by decide) (fun hc3 => ?_) (fun hc3 => ?_)
  · rw [if_pos hc3] at hf
    refine E_iconst (-1) dX12_night_20 ic_m1 ?_
    obtain ⟨rfl, rfl⟩ := ret2 hf
    exact E.done (by rw [eQ]; exact ⟨rfl, Or.inl ⟨_, _, rfl, rfl, dX12_night_21, rfl, rfl⟩⟩)
  · rw [if_neg hc3] at hf
    refine E_iload_n (v := a1) dX12_night_10 rfl ?_
    refine E_iconst 0 dX12_night_11 ic_0 ?_
    refine E_bipush 9 dX12_night_12 bp_9 ?_
    obtain ⟨r5, hc4, hf⟩ := bd_some hf
    try dsimp only at hf
    refine E_callSi (rest := []) cs_RX12_99 dX12_night_14 (MX12_in hc4) rfl rfl rfl (fun _ => Nat.le_of_ble_eq_true rfl) ?_
    refine E_if_ne 22 dX12_night_17 (by decide) (fun hc6 => ?_) (fun hc6 => ?_)
    · rw [if_pos hc6] at hf
      refine E_iconst (-1) dX12_night_20 ic_m1 ?_
      obtain ⟨rfl, rfl⟩ := ret2 hf
      exact E.done (by rw [eQ]; exact ⟨rfl, Or.inl ⟨_, _, rfl, rfl, dX12_night_21, rfl, rfl⟩⟩)
    · rw [if_neg hc6] at hf
      refine E_aload_n (v := 0) dX12_night_22 rfl ?_
      refine E_getR fg_RX12_25 dX12_night_23 sM_0 rfl rM_0_10 (Nat.succ_ne_zero _) ?_
      refine E_iload_n (v := a0) dX12_night_26 rfl ?_
      obtain ⟨hi7, hf⟩ := gd_some hf
      refine E_iald (n := 61) dX12_night_27 sM_6 (by decide) (inb_in hi7) ?_
      refine E_istore_n (ls' := [some (.ref 0), some (.int a0), some (.int a1), some (.int (w.1 6 a0.toNatClampNeg))]) dX12_night_28 rfl rfl rfl ?_
      refine E_aload_n (v := 0) dX12_night_29 rfl ?_
      refine E_getR fg_RX12_25 dX12_night_30 sM_0 rfl rM_0_10 (Nat.succ_ne_zero _) ?_
      refine E_iload_n (v := a0) dX12_night_33 rfl ?_
      refine E_iload_n (v := a1) dX12_night_34 rfl ?_
      obtain ⟨w8, ew8, hf⟩ := lw_some hf
      try dsimp only at hf
      refine E_iast (n := 61) dX12_night_35 sM_6 (by decide) (inb_in hi7) ?_
      rw [← ew8]
      refine E_iload_n (v := (w.1 6 a0.toNatClampNeg)) dX12_night_36 rfl ?_
      obtain ⟨rfl, rfl⟩ := ret2 hf
      exact E.done (by rw [eQ]; exact ⟨rfl, Or.inl ⟨_, _, rfl, rfl, dX12_night_37, rfl, rfl⟩⟩)
set_option maxRecDepth 10000 in
set_option maxHeartbeats 2000000 in
theorem MX12_nights {N : Nat} {w : AW} {rZ : Int32} {wZ : AW} (hf : fX12_nights N w = some (rZ, wZ)) : CallOK PM yX12_nights cX12_nights 4 (some .int) 5 [.ref 0] w (some (.int rZ)) wZ := by
  refine CallOK.of (ls := [some (.ref 0), none, none, none]) (by decide) (by simp) rfl rfl ?_
  obtain ⟨Q, eQ⟩ : ∃ Q, Q = Qret cX12_nights (some .int) (some (.int rZ)) wZ := ⟨_, rfl⟩
  rw [← eQ]
  unfold fX12_nights at hf
  refine E_iconst 0 dX12_nights_0 ic_0 ?_
  refine E_istore_n (ls' := [some (.ref 0), some (.int 0), none, none]) dX12_nights_1 rfl rfl rfl ?_
  obtain ⟨q, hw19, hf⟩ := bd_some hf
  try dsimp only at hf
  show (fun (s : Int32 × AW) => E PM RX12 cX12_nights 4 5 2 [some (.ref 0), some (.int s.1), none, none] [] s.2 Q) (0, w)
  refine wh_E (K := (fun (s : Int32 × AW) => E PM RX12 cX12_nights 4 5 2 [some (.ref 0), some (.int s.1), none, none] [] s.2 Q)) (X := (se (fun (s : AW) => E PM RX12 cX12_nights 4 5 56 [none, none, none, none] [] s Q) (fun (s : Int32 × AW) => E PM RX12 cX12_nights 4 5 39 [none, some (.int s.1), none, none] [] s.2 Q))) ?_ hw19 ?_
  · intro s9 z9 hf k9
    obtain ⟨x1_2_1, w_2_1⟩ := s9
    dsimp only [lbX12_nights_2_1] at hf
    show E PM RX12 cX12_nights 4 5 2 [some (.ref 0), some (.int x1_2_1), none, none] [] w_2_1 Q
    refine E_iload_n (v := x1_2_1) dX12_nights_2 rfl ?_
    refine E_bipush 10 dX12_nights_3 bp_10 ?_
    refine E_icmp_ge 56 dX12_nights_5 (by decide) (fun hc1 => ?_) (fun hc1 => ?_)
    · rw [if_pos hc1] at hf
      obtain rfl := Option.some.inj hf
      refine E.fewer (ls' := [none, none, none, none]) ⟨Or.inl rfl, ⟨Or.inl rfl, ⟨Or.inl rfl, ⟨Or.inl rfl, trivial⟩⟩⟩⟩ ?_
      exact k9
    · rw [if_neg hc1] at hf
      refine E_aload_n (v := 0) dX12_nights_8 rfl ?_
      refine E_aload_n (v := 0) dX12_nights_9 rfl ?_
      refine E_getI fg_RX12_96 dX12_nights_10 sM_0 rfl ?_
      refine E_iconst (-1) dX12_nights_13 ic_m1 ?_
      obtain ⟨r3, w4, hc2, hf⟩ := bd2_some hf
      try dsimp only at hf
      refine E_callVi (rest := []) (ci := 12) cv_RX12_281 dX12_nights_14 (MX12_firstOrder hc2) rfl sM_0 rfl (by decide) rfl rfl (fun _ => Nat.le_of_ble_eq_true rfl) ?_
      refine E_istore_n (ls' := [some (.ref 0), some (.int x1_2_1), some (.int r3), none]) dX12_nights_17 rfl rfl rfl ?_
      refine E_iconst 1 dX12_nights_18 ic_1 ?_
      refine E_istore_n (ls' := [some (.ref 0), some (.int x1_2_1), some (.int r3), some (.int 1)]) dX12_nights_19 rfl rfl rfl ?_
      obtain ⟨q, hw16, hf⟩ := bd_some hf
      try dsimp only at hf
      show (fun (s : Int32 × AW) => E PM RX12 cX12_nights 4 5 20 [some (.ref 0), some (.int x1_2_1), some (.int r3), some (.int s.1)] [] s.2 Q) (1, w4)
      refine wh_E (K := (fun (s : Int32 × AW) => E PM RX12 cX12_nights 4 5 20 [some (.ref 0), some (.int x1_2_1), some (.int r3), some (.int s.1)] [] s.2 Q)) (X := (se (fun (s : AW) => E PM RX12 cX12_nights 4 5 50 [some (.ref 0), some (.int x1_2_1), none, none] [] s Q) (fun (s : AW) => E PM RX12 cX12_nights 4 5 39 [none, some (.int x1_2_1), none, none] [] s Q))) ?_ hw16 ?_
      · intro s9 z9 hf k9
        obtain ⟨x3_20_2, w_20_2⟩ := s9
        dsimp only [lbX12_nights_20_2] at hf
        show E PM RX12 cX12_nights 4 5 20 [some (.ref 0), some (.int x1_2_1), some (.int r3), some (.int x3_20_2)] [] w_20_2 Q
        refine E_iload_n (v := x3_20_2) dX12_nights_20 rfl ?_
        refine E_if_eq 50 dX12_nights_21 (by decide) (fun hc6 => ?_) (fun hc6 => ?_)
        · rw [if_pos hc6] at hf
          obtain rfl := Option.some.inj hf
          refine E.fewer (ls' := [some (.ref 0), some (.int x1_2_1), none, none]) ⟨Or.inr rfl, ⟨Or.inr rfl, ⟨Or.inl rfl, ⟨Or.inl rfl, trivial⟩⟩⟩⟩ ?_
          exact k9
        · rw [if_neg hc6] at hf
          refine E_aload_n (v := 0) dX12_nights_24 rfl ?_
          refine E_iload_n (v := r3) dX12_nights_25 rfl ?_
          refine E_iconst 0 dX12_nights_26 ic_0 ?_
          refine E_iload_n (v := x1_2_1) dX12_nights_27 rfl ?_
          obtain ⟨w8, hc7, hf⟩ := bd_some hf
          try dsimp only at hf
          refine E_callVv (rest := []) (ci := 12) cv_RX12_267 dX12_nights_28 (MX12_worksAll hc7) rfl sM_0 rfl (by decide) rfl rfl (fun _ => Nat.le_of_ble_eq_true rfl) ?_
          refine E_aload_n (v := 0) dX12_nights_31 rfl ?_
          refine E_iload_n (v := r3) dX12_nights_32 rfl ?_
          obtain ⟨r10, hc9, hf⟩ := bd_some hf
          try dsimp only at hf
          refine E_callVi (rest := []) (ci := 12) cv_RX12_303 dX12_nights_33 (MX12_lateMany hc9) rfl sM_0 rfl (by decide) rfl rfl (fun _ => Nat.le_of_ble_eq_true rfl) ?_
          refine E_if_ne 41 dX12_nights_36 (by decide) (fun hc11 => ?_) (fun hc11 => ?_)
          · rw [if_pos hc11] at hf
            obtain rfl := Option.some.inj hf
            refine E.fewer (ls' := [none, some (.int x1_2_1), none, none]) ⟨Or.inl rfl, ⟨Or.inr rfl, ⟨Or.inl rfl, ⟨Or.inl rfl, trivial⟩⟩⟩⟩ ?_
            exact k9
          · rw [if_neg hc11] at hf
            refine E_aload_n (v := 0) dX12_nights_41 rfl ?_
            refine E_iload_n (v := r3) dX12_nights_42 rfl ?_
            obtain ⟨r13, w14, hc12, hf⟩ := bd2_some hf
            try dsimp only at hf
            refine E_callVi (rest := []) (ci := 12) cv_RX12_288 dX12_nights_43 (MX12_nextOrder hc12) rfl sM_0 rfl (by decide) rfl rfl (fun _ => Nat.le_of_ble_eq_true rfl) ?_
            refine E_istore_n (ls' := [some (.ref 0), some (.int x1_2_1), some (.int r3), some (.int r13)]) dX12_nights_46 rfl rfl rfl ?_
            refine E_goto 20 dX12_nights_47 (by decide) ?_
            obtain rfl := Option.some.inj hf
            exact k9
      · skip
        rcases q with q | q
        · dsimp only [se] at hf
          obtain ⟨w17, hq9⟩ : ∃ a, a = q := ⟨_, rfl⟩
          subst hq9
          try dsimp only at hf
          show E PM RX12 cX12_nights 4 5 50 [some (.ref 0), some (.int x1_2_1), none, none] [] w17 Q
          refine E_iinc (ls' := [some (.ref 0), some (.int (x1_2_1 + 1)), none, none]) 1 dX12_nights_50 rfl ic_1 rfl rfl rfl ?_
          refine E_goto 2 dX12_nights_53 (by decide) ?_
          obtain rfl := Option.some.inj hf
          exact k9
        · dsimp only [se] at hf
          obtain ⟨w18, hq9⟩ : ∃ a, a = q := ⟨_, rfl⟩
          subst hq9
          try dsimp only at hf
          show E PM RX12 cX12_nights 4 5 39 [none, some (.int x1_2_1), none, none] [] w18 Q
          obtain rfl := Option.some.inj hf
          exact k9
  · skip
    rcases q with q | q
    · dsimp only [se] at hf
      obtain ⟨w20, hq9⟩ : ∃ a, a = q := ⟨_, rfl⟩
      subst hq9
      try dsimp only at hf
      show E PM RX12 cX12_nights 4 5 56 [none, none, none, none] [] w20 Q
      refine E_bipush (-3) dX12_nights_56 bp_m3 ?_
      obtain ⟨rfl, rfl⟩ := ret2 hf
      exact E.done (by rw [eQ]; exact ⟨rfl, Or.inl ⟨_, _, rfl, rfl, dX12_nights_58, rfl, rfl⟩⟩)
    · dsimp only [se] at hf
      obtain ⟨y21, w22⟩ := q
      try dsimp only at hf
      show E PM RX12 cX12_nights 4 5 39 [none, some (.int y21), none, none] [] w22 Q
      refine E_iload_n (v := y21) dX12_nights_39 rfl ?_
      obtain ⟨rfl, rfl⟩ := ret2 hf
      exact E.done (by rw [eQ]; exact ⟨rfl, Or.inl ⟨_, _, rfl, rfl, dX12_nights_40, rfl, rfl⟩⟩)
set_option maxRecDepth 10000 in
set_option maxHeartbeats 2000000 in
theorem MX12_plan {N : Nat} {a0 : Int32} {w : AW} {rZ : Int32} {wZ : AW} (hf : fX12_plan N a0 w = some (rZ, wZ)) : CallOK PM yX12_plan cX12_plan 4 (some .int) 1 [.ref 0, .int a0] w (some (.int rZ)) wZ := by
  refine CallOK.of (ls := [some (.ref 0), some (.int a0), none, none]) (by decide) (by simp) rfl rfl ?_
  obtain ⟨Q, eQ⟩ : ∃ Q, Q = Qret cX12_plan (some .int) (some (.int rZ)) wZ := ⟨_, rfl⟩
  rw [← eQ]
  unfold fX12_plan at hf
  refine E_iconst 0 dX12_plan_0 ic_0 ?_
  refine E_istore_n (ls' := [some (.ref 0), some (.int a0), some (.int 0), none]) dX12_plan_1 rfl rfl rfl ?_
  refine E_iconst 0 dX12_plan_2 ic_0 ?_
  refine E_istore_n (ls' := [some (.ref 0), some (.int a0), some (.int 0), some (.int 0)]) dX12_plan_3 rfl rfl rfl ?_
  obtain ⟨q, hw3, hf⟩ := bd_some hf
  try dsimp only at hf
  show (fun (s : Int32 × Int32) => E PM RX12 cX12_plan 4 1 4 [some (.ref 0), some (.int a0), some (.int s.1), some (.int s.2)] [] w Q) (0, 0)
  refine wh_E (K := (fun (s : Int32 × Int32) => E PM RX12 cX12_plan 4 1 4 [some (.ref 0), some (.int a0), some (.int s.1), some (.int s.2)] [] w Q)) (X := (fun (s : Int32) => E PM RX12 cX12_plan 4 1 31 [some (.ref 0), some (.int a0), some (.int s), none] [] w Q)) ?_ hw3 ?_
  · intro s9 z9 hf k9
    obtain ⟨x2_4_1, x3_4_1⟩ := s9
    dsimp only [lbX12_plan_4_1] at hf
    show E PM RX12 cX12_plan 4 1 4 [some (.ref 0), some (.int a0), some (.int x2_4_1), some (.int x3_4_1)] [] w Q
    refine E_iload_n (v := x3_4_1) dX12_plan_4 rfl ?_
    refine E_aload_n (v := 0) dX12_plan_5 rfl ?_
    refine E_getI fg_RX12_96 dX12_plan_6 sM_0 rfl ?_
    refine E_icmp_ge 31 dX12_plan_9 (by decide) (fun hc1 => ?_) (fun hc1 => ?_)
    · rw [if_pos hc1] at hf
      obtain rfl := Option.some.inj hf
      refine E.fewer (ls' := [some (.ref 0), some (.int a0), some (.int x2_4_1), none]) ⟨Or.inr rfl, ⟨Or.inr rfl, ⟨Or.inr rfl, ⟨Or.inl rfl, trivial⟩⟩⟩⟩ ?_
      exact k9
    · rw [if_neg hc1] at hf
      refine E_iload_n (v := x2_4_1) dX12_plan_12 rfl ?_
      refine E_iconst 1 dX12_plan_13 ic_1 ?_
      refine E_iload_n (v := a0) dX12_plan_14 rfl ?_
      refine E_iconst 3 dX12_plan_15 ic_3 ?_
      refine E_iload_n (v := x3_4_1) dX12_plan_16 rfl ?_
      refine E_imul dX12_plan_17 ?_
      refine E_ishr dX12_plan_18 ?_
      refine E_bipush 7 dX12_plan_19 bp_7 ?_
      refine E_iand dX12_plan_21 ?_
      refine E_ishl dX12_plan_22 ?_
      refine E_ior dX12_plan_23 ?_
      obtain ⟨v2, ev2, hf⟩ := lw_some hf
      try dsimp only at hf
      rw [← ev2]
      refine E_istore_n (ls' := [some (.ref 0), some (.int a0), some (.int v2), some (.int x3_4_1)]) dX12_plan_24 rfl rfl rfl ?_
      refine E_iinc (ls' := [some (.ref 0), some (.int a0), some (.int v2), some (.int (x3_4_1 + 1))]) 1 dX12_plan_25 rfl ic_1 rfl rfl rfl ?_
      refine E_goto 4 dX12_plan_28 (by decide) ?_
      obtain rfl := Option.some.inj hf
      exact k9
  · skip
    obtain ⟨y4, hq9⟩ : ∃ a, a = q := ⟨_, rfl⟩
    subst hq9
    try dsimp only at hf
    show E PM RX12 cX12_plan 4 1 31 [some (.ref 0), some (.int a0), some (.int y4), none] [] w Q
    refine E_iload_n (v := a0) dX12_plan_31 rfl ?_
    refine E_if_lt 58 dX12_plan_32 (by decide) (fun hc5 => ?_) (fun hc5 => ?_)
    · rw [if_pos hc5] at hf
      refine E_iconst (-1) dX12_plan_58 ic_m1 ?_
      obtain ⟨rfl, rfl⟩ := ret2 hf
      exact E.done (by rw [eQ]; exact ⟨rfl, Or.inl ⟨_, _, rfl, rfl, dX12_plan_59, rfl, rfl⟩⟩)
    · rw [if_neg hc5] at hf
      refine E_iload_n (v := a0) dX12_plan_35 rfl ?_
      refine E_iconst 3 dX12_plan_36 ic_3 ?_
      refine E_aload_n (v := 0) dX12_plan_37 rfl ?_
      refine E_getI fg_RX12_96 dX12_plan_38 sM_0 rfl ?_
      refine E_imul dX12_plan_41 ?_
      refine E_ishr dX12_plan_42 ?_
      refine E_if_ne 58 dX12_plan_43 (by decide) (fun hc6 => ?_) (fun hc6 => ?_)
      · rw [if_pos hc6] at hf
        refine E_iload_n (v := y4) dX12_plan_46 rfl ?_
        refine E_iconst 1 dX12_plan_47 ic_1 ?_
        refine E_aload_n (v := 0) dX12_plan_48 rfl ?_
        refine E_getI fg_RX12_96 dX12_plan_49 sM_0 rfl ?_
        refine E_ishl dX12_plan_52 ?_
        refine E_iconst 1 dX12_plan_53 ic_1 ?_
        refine E_isub dX12_plan_54 ?_
        refine E_icmp_eq 60 dX12_plan_55 (by decide) (fun hc7 => ?_) (fun hc7 => ?_)
        · rw [if_pos hc7] at hf
          refine E_iconst 0 dX12_plan_60 ic_0 ?_
          refine E_istore_n (ls' := [some (.ref 0), some (.int a0), some (.int y4), some (.int 0)]) dX12_plan_61 rfl rfl rfl ?_
          obtain ⟨q, hw11, hf⟩ := bd_some hf
          try dsimp only at hf
          refine E.fewer (ls' := [some (.ref 0), some (.int a0), none, some (.int 0)]) ⟨Or.inr rfl, ⟨Or.inr rfl, ⟨Or.inl rfl, ⟨Or.inr rfl, trivial⟩⟩⟩⟩ ?_
          show (fun (s : Int32 × AW) => E PM RX12 cX12_plan 4 1 62 [some (.ref 0), some (.int a0), none, some (.int s.1)] [] s.2 Q) (0, w)
          refine wh_E (K := (fun (s : Int32 × AW) => E PM RX12 cX12_plan 4 1 62 [some (.ref 0), some (.int a0), none, some (.int s.1)] [] s.2 Q)) (X := (fun (s : AW) => E PM RX12 cX12_plan 4 1 90 [none, none, none, none] [] s Q)) ?_ hw11 ?_
          · intro s9 z9 hf k9
            obtain ⟨x3_62_2, w_62_2⟩ := s9
            dsimp only [lbX12_plan_62_2] at hf
            show E PM RX12 cX12_plan 4 1 62 [some (.ref 0), some (.int a0), none, some (.int x3_62_2)] [] w_62_2 Q
            refine E_iload_n (v := x3_62_2) dX12_plan_62 rfl ?_
            refine E_aload_n (v := 0) dX12_plan_63 rfl ?_
            refine E_getI fg_RX12_96 dX12_plan_64 sM_0 rfl ?_
            refine E_icmp_ge 90 dX12_plan_67 (by decide) (fun hc8 => ?_) (fun hc8 => ?_)
            · rw [if_pos hc8] at hf
              obtain rfl := Option.some.inj hf
              refine E.fewer (ls' := [none, none, none, none]) ⟨Or.inl rfl, ⟨Or.inl rfl, ⟨Or.inl rfl, ⟨Or.inl rfl, trivial⟩⟩⟩⟩ ?_
              exact k9
            · rw [if_neg hc8] at hf
              refine E_aload_n (v := 0) dX12_plan_70 rfl ?_
              refine E_getR fg_RX12_28 dX12_plan_71 sM_0 rfl rM_0_11 (Nat.succ_ne_zero _) ?_
              refine E_iload_n (v := x3_62_2) dX12_plan_74 rfl ?_
              refine E_iload_n (v := a0) dX12_plan_75 rfl ?_
              refine E_iconst 3 dX12_plan_76 ic_3 ?_
              refine E_iload_n (v := x3_62_2) dX12_plan_77 rfl ?_
              refine E_imul dX12_plan_78 ?_
              refine E_ishr dX12_plan_79 ?_
              refine E_bipush 7 dX12_plan_80 bp_7 ?_
              refine E_iand dX12_plan_82 ?_
              obtain ⟨hi9, hf⟩ := gd_some hf
              obtain ⟨w10, ew10, hf⟩ := lw_some hf
              try dsimp only at hf
              refine E_iast (n := 8) dX12_plan_83 sM_7 (by decide) (inb_in hi9) ?_
              rw [← ew10]
              refine E_iinc (ls' := [some (.ref 0), some (.int a0), none, some (.int (x3_62_2 + 1))]) 1 dX12_plan_84 rfl ic_1 rfl rfl rfl ?_
              refine E_goto 62 dX12_plan_87 (by decide) ?_
              obtain rfl := Option.some.inj hf
              exact k9
          · skip
            obtain ⟨w12, hq9⟩ : ∃ a, a = q := ⟨_, rfl⟩
            subst hq9
            try dsimp only at hf
            show E PM RX12 cX12_plan 4 1 90 [none, none, none, none] [] w12 Q
            refine E_iconst 1 dX12_plan_90 ic_1 ?_
            obtain ⟨rfl, rfl⟩ := ret2 hf
            exact E.done (by rw [eQ]; exact ⟨rfl, Or.inl ⟨_, _, rfl, rfl, dX12_plan_91, rfl, rfl⟩⟩)
        · rw [if_neg hc7] at hf
          refine E_iconst (-1) dX12_plan_58 ic_m1 ?_
          obtain ⟨rfl, rfl⟩ := ret2 hf
          exact E.done (by rw [eQ]; exact ⟨rfl, Or.inl ⟨_, _, rfl, rfl, dX12_plan_59, rfl, rfl⟩⟩)
      · rw [if_neg hc6] at hf
        refine E_iconst (-1) dX12_plan_58 ic_m1 ?_
        obtain ⟨rfl, rfl⟩ := ret2 hf
        exact E.done (by rw [eQ]; exact ⟨rfl, Or.inl ⟨_, _, rfl, rfl, dX12_plan_59, rfl, rfl⟩⟩)
