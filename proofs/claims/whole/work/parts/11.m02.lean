set_option maxRecDepth 10000 in
set_option maxHeartbeats 2000000 in
theorem MJ0_length_8abf5 {i : Nat} {w : AW} {rZ : Int32} (hi : i < 12) (hf : fJ0_length_8abf5 i w = some rZ) : CallOK PC yJ0_length_8abf5 cJ0_length_8abf5 1 (some .int) 2 [.retAddr (9 + i + 1)] w (some (.int rZ)) w := by
  refine CallOK.of (ls := [some (.retAddr (9 + i + 1))]) (by decide) (by simp) rfl rfl ?_
  obtain ⟨Q, eQ⟩ : ∃ Q, Q = Qret cJ0_length_8abf5 (some .int) (some (.int rZ)) w := ⟨_, rfl⟩
  rw [← eQ]
  unfold fJ0_length_8abf5 at hf
  refine E_aloadx_n dJ0_length_8abf5_0 rfl ?_
  refine E_xval i wf_RJ0_9 dJ0_length_8abf5_1 hi ?_
  refine E_xlen i dJ0_length_8abf5_4 hi ?_
  refine E_aloadx_n dJ0_length_8abf5_5 rfl ?_
  obtain ⟨r2, hc1, hf⟩ := bd_some hf
  try dsimp only at hf
  refine E_callXi (rest := [.int (Int32.ofNat (lenS.getD i 0))]) cv_RJ0_335 dJ0_length_8abf5_6 (MJ0_coder_7d493 hi hc1) rfl hi rfl rfl (fun _ => Nat.le_of_ble_eq_true rfl) ?_
  refine E_ishr dJ0_length_8abf5_9 ?_
  obtain rfl := Option.some.inj hf
  exact E.done (by rw [eQ]; exact ⟨rfl, Or.inl ⟨_, _, rfl, rfl, dJ0_length_8abf5_10, rfl, rfl⟩⟩)
set_option maxRecDepth 10000 in
set_option maxHeartbeats 2000000 in
theorem MX8_isNamed {N : Nat} {i0 : Nat} {w : AW} {rZ : Int32} (hi0 : i0 < 12) (hf : fX8_isNamed N i0 w = some rZ) : CallOK PC yX8_isNamed cX8_isNamed 3 (some .boolean) 6 [.ref 37, .retAddr (9 + i0 + 1)] w (some (.int rZ)) w := by
  refine CallOK.of (ls := [some (.ref 37), some (.retAddr (9 + i0 + 1)), none]) (by decide) (by simp) rfl rfl ?_
  obtain ⟨Q, eQ⟩ : ∃ Q, Q = Qret cX8_isNamed (some .boolean) (some (.int rZ)) w := ⟨_, rfl⟩
  rw [← eQ]
  unfold fX8_isNamed at hf
  refine E_aload_n (v := 37) dX8_isNamed_0 rfl ?_
  refine E_getI fg_RX8_30 dX8_isNamed_1 sC_37 rfl ?_
  refine E_iconst 1 dX8_isNamed_4 ic_1 ?_
  refine E_icmp_ne 24 dX8_isNamed_5 (by decide) (fun hc1 => ?_) (fun hc1 => ?_)
  · rw [if_pos hc1] at hf
    refine E_aload_n (v := 37) dX8_isNamed_8 rfl ?_
    refine E_getI fg_RX8_36 dX8_isNamed_9 sC_37 rfl ?_
    refine E_aload_n (v := 37) dX8_isNamed_12 rfl ?_
    refine E_getI fg_RX8_33 dX8_isNamed_13 sC_37 rfl ?_
    refine E_isub dX8_isNamed_16 ?_
    refine E_aloadx_n dX8_isNamed_17 rfl ?_
    obtain ⟨r3, hc2, hf⟩ := bd_some hf
    try dsimp only at hf
    refine E_callXi (rest := [.int ((w.1 37 6) - (w.1 37 5))]) cv_RX8_109 dX8_isNamed_18 (MJ0_length_8abf5 hi0 hc2) rfl hi0 rfl rfl (fun _ => Nat.le_of_ble_eq_true rfl) ?_
    refine E_icmp_eq 26 dX8_isNamed_21 (by decide) (fun hc4 => ?_) (fun hc4 => ?_)
    · rw [if_pos hc4] at hf
      refine E_iconst 0 dX8_isNamed_26 ic_0 ?_
      refine E_istore_n (ls' := [some (.ref 37), some (.retAddr (9 + i0 + 1)), some (.int 0)]) dX8_isNamed_27 rfl rfl rfl ?_
      obtain ⟨q, hw12, hf⟩ := bd_some hf
      try dsimp only at hf
      show (fun (s : Int32) => E PC RX8 cX8_isNamed 3 6 28 [some (.ref 37), some (.retAddr (9 + i0 + 1)), some (.int s)] [] w Q) 0
      refine wh_E (K := (fun (s : Int32) => E PC RX8 cX8_isNamed 3 6 28 [some (.ref 37), some (.retAddr (9 + i0 + 1)), some (.int s)] [] w Q)) (X := (se (fun (s : Unit) => E PC RX8 cX8_isNamed 3 6 63 [none, none, none] [] w Q) (fun (s : Unit) => E PC RX8 cX8_isNamed 3 6 55 [none, none, none] [] w Q))) ?_ hw12 ?_
      · intro s9 z9 hf k9
        obtain ⟨x2_28_1, hs9⟩ : ∃ a, a = s9 := ⟨_, rfl⟩
        subst hs9
        dsimp only [lbX8_isNamed_28_1] at hf
        show E PC RX8 cX8_isNamed 3 6 28 [some (.ref 37), some (.retAddr (9 + i0 + 1)), some (.int x2_28_1)] [] w Q
        refine E_iload_n (v := x2_28_1) dX8_isNamed_28 rfl ?_
        refine E_aloadx_n dX8_isNamed_29 rfl ?_
        obtain ⟨r6, hc5, hf⟩ := bd_some hf
        try dsimp only at hf
        refine E_callXi (rest := [.int x2_28_1]) cv_RX8_109 dX8_isNamed_30 (MJ0_length_8abf5 hi0 hc5) rfl hi0 rfl rfl (fun _ => Nat.le_of_ble_eq_true rfl) ?_
        refine E_icmp_ge 63 dX8_isNamed_33 (by decide) (fun hc7 => ?_) (fun hc7 => ?_)
        · rw [if_pos hc7] at hf
          obtain rfl := Option.some.inj hf
          refine E.fewer (ls' := [none, none, none]) ⟨Or.inl rfl, ⟨Or.inl rfl, ⟨Or.inl rfl, trivial⟩⟩⟩ ?_
          exact k9
        · rw [if_neg hc7] at hf
          refine E_aload_n (v := 37) dX8_isNamed_36 rfl ?_
          refine E_getR fg_RX8_11 dX8_isNamed_37 sC_37 rfl rC_37_0 (Nat.succ_ne_zero _) ?_
          refine E_aload_n (v := 37) dX8_isNamed_40 rfl ?_
          refine E_getI fg_RX8_33 dX8_isNamed_41 sC_37 rfl ?_
          refine E_iload_n (v := x2_28_1) dX8_isNamed_44 rfl ?_
          refine E_iadd dX8_isNamed_45 ?_
          obtain ⟨hi8, hf⟩ := gd_some hf
          refine E_bald (n := 200) dX8_isNamed_46 sC_38 (by decide) (inb_in hi8) ?_
          refine E_aloadx_n dX8_isNamed_47 rfl ?_
          refine E_iload_n (v := x2_28_1) dX8_isNamed_48 rfl ?_
          obtain ⟨r10, hc9, hf⟩ := bd_some hf
          try dsimp only at hf
          refine E_callXi (rest := [.int (w.1 38 ((w.1 37 5) + x2_28_1).toNatClampNeg)]) cv_RX8_114 dX8_isNamed_49 (MJ0_charAt_5068e hi0 hc9) rfl hi0 rfl rfl (fun _ => Nat.le_of_ble_eq_true rfl) ?_
          refine E_icmp_eq 57 dX8_isNamed_52 (by decide) (fun hc11 => ?_) (fun hc11 => ?_)
          · rw [if_pos hc11] at hf
            refine E_iinc (ls' := [some (.ref 37), some (.retAddr (9 + i0 + 1)), some (.int (x2_28_1 + 1))]) 1 dX8_isNamed_57 rfl ic_1 rfl rfl rfl ?_
            refine E_goto 28 dX8_isNamed_60 (by decide) ?_
            obtain rfl := Option.some.inj hf
            exact k9
          · rw [if_neg hc11] at hf
            obtain rfl := Option.some.inj hf
            refine E.fewer (ls' := [none, none, none]) ⟨Or.inl rfl, ⟨Or.inl rfl, ⟨Or.inl rfl, trivial⟩⟩⟩ ?_
            exact k9
      · skip
        rcases q with q | q
        · dsimp only [se] at hf
          try dsimp only at hf
          show E PC RX8 cX8_isNamed 3 6 63 [none, none, none] [] w Q
          refine E_iconst 1 dX8_isNamed_63 ic_1 ?_
          obtain rfl := Option.some.inj hf
          exact E.done (by rw [eQ]; exact ⟨rfl, Or.inl ⟨_, _, rfl, rfl, dX8_isNamed_64, rfl, rfl⟩⟩)
        · dsimp only [se] at hf
          try dsimp only at hf
          show E PC RX8 cX8_isNamed 3 6 55 [none, none, none] [] w Q
          refine E_iconst 0 dX8_isNamed_55 ic_0 ?_
          obtain rfl := Option.some.inj hf
          exact E.done (by rw [eQ]; exact ⟨rfl, Or.inl ⟨_, _, rfl, rfl, dX8_isNamed_56, rfl, rfl⟩⟩)
    · rw [if_neg hc4] at hf
      refine E_iconst 0 dX8_isNamed_24 ic_0 ?_
      obtain rfl := Option.some.inj hf
      exact E.done (by rw [eQ]; exact ⟨rfl, Or.inl ⟨_, _, rfl, rfl, dX8_isNamed_25, rfl, rfl⟩⟩)
  · rw [if_neg hc1] at hf
    refine E_iconst 0 dX8_isNamed_24 ic_0 ?_
    obtain rfl := Option.some.inj hf
    exact E.done (by rw [eQ]; exact ⟨rfl, Or.inl ⟨_, _, rfl, rfl, dX8_isNamed_25, rfl, rfl⟩⟩)
set_option maxRecDepth 10000 in
set_option maxHeartbeats 2000000 in
theorem MX8_lawNamed {N : Nat} {w : AW} {rZ : Int32} (hf : fX8_lawNamed N w = some rZ) : CallOK PC yX8_lawNamed cX8_lawNamed 1 (some .int) 7 [.ref 37] w (some (.int rZ)) w := by
  refine CallOK.of (ls := [some (.ref 37)]) (by decide) (by simp) rfl rfl ?_
  obtain ⟨Q, eQ⟩ : ∃ Q, Q = Qret cX8_lawNamed (some .int) (some (.int rZ)) w := ⟨_, rfl⟩
  rw [← eQ]
  unfold fX8_lawNamed at hf
  refine E_aload_n (v := 37) dX8_lawNamed_0 rfl ?_
  refine E_ldcS 0 dX8_lawNamed_1 rfl (by decide) rfl ?_
  obtain ⟨r2, hc1, hf⟩ := bd_some hf
  try dsimp only at hf
  refine E_callVi (rest := []) (ci := 8) cv_RX8_90 dX8_lawNamed_3 (MX8_isNamed (by decide) hc1) rfl sC_37 rfl (by decide) rfl rfl (fun _ => Nat.le_of_ble_eq_true rfl) ?_
  refine E_if_eq 11 dX8_lawNamed_6 (by decide) (fun hc3 => ?_) (fun hc3 => ?_)
  · rw [if_pos hc3] at hf
    refine E_aload_n (v := 37) dX8_lawNamed_11 rfl ?_
    refine E_ldcS 1 dX8_lawNamed_12 rfl (by decide) rfl ?_
    obtain ⟨r5, hc4, hf⟩ := bd_some hf
    try dsimp only at hf
    refine E_callVi (rest := []) (ci := 8) cv_RX8_90 dX8_lawNamed_14 (MX8_isNamed (by decide) hc4) rfl sC_37 rfl (by decide) rfl rfl (fun _ => Nat.le_of_ble_eq_true rfl) ?_
    refine E_if_eq 22 dX8_lawNamed_17 (by decide) (fun hc6 => ?_) (fun hc6 => ?_)
    · rw [if_pos hc6] at hf
      refine E_aload_n (v := 37) dX8_lawNamed_22 rfl ?_
      refine E_ldcS 2 dX8_lawNamed_23 rfl (by decide) rfl ?_
      obtain ⟨r8, hc7, hf⟩ := bd_some hf
      try dsimp only at hf
      refine E_callVi (rest := []) (ci := 8) cv_RX8_90 dX8_lawNamed_25 (MX8_isNamed (by decide) hc7) rfl sC_37 rfl (by decide) rfl rfl (fun _ => Nat.le_of_ble_eq_true rfl) ?_
      refine E_if_eq 33 dX8_lawNamed_28 (by decide) (fun hc9 => ?_) (fun hc9 => ?_)
      · rw [if_pos hc9] at hf
        refine E_iconst (-1) dX8_lawNamed_33 ic_m1 ?_
        obtain rfl := Option.some.inj hf
        exact E.done (by rw [eQ]; exact ⟨rfl, Or.inl ⟨_, _, rfl, rfl, dX8_lawNamed_34, rfl, rfl⟩⟩)
      · rw [if_neg hc9] at hf
        refine E_iconst 2 dX8_lawNamed_31 ic_2 ?_
        obtain rfl := Option.some.inj hf
        exact E.done (by rw [eQ]; exact ⟨rfl, Or.inl ⟨_, _, rfl, rfl, dX8_lawNamed_32, rfl, rfl⟩⟩)
    · rw [if_neg hc6] at hf
      refine E_iconst 1 dX8_lawNamed_20 ic_1 ?_
      obtain rfl := Option.some.inj hf
      exact E.done (by rw [eQ]; exact ⟨rfl, Or.inl ⟨_, _, rfl, rfl, dX8_lawNamed_21, rfl, rfl⟩⟩)
  · rw [if_neg hc3] at hf
    refine E_iconst 0 dX8_lawNamed_9 ic_0 ?_
    obtain rfl := Option.some.inj hf
    exact E.done (by rw [eQ]; exact ⟨rfl, Or.inl ⟨_, _, rfl, rfl, dX8_lawNamed_10, rfl, rfl⟩⟩)
set_option maxRecDepth 10000 in
set_option maxHeartbeats 2000000 in
theorem MX8_sortAt {a0 : Int32} {w : AW} {rZ : Int32} (hf : fX8_sortAt a0 w = some rZ) : CallOK PC yX8_sortAt cX8_sortAt 2 (some .int) 1 [.ref 37, .int a0] w (some (.int rZ)) w := by
  refine CallOK.of (ls := [some (.ref 37), some (.int a0)]) (by decide) (by simp) rfl rfl ?_
  obtain ⟨Q, eQ⟩ : ∃ Q, Q = Qret cX8_sortAt (some .int) (some (.int rZ)) w := ⟨_, rfl⟩
  rw [← eQ]
  unfold fX8_sortAt at hf
  refine E_iload_n (v := a0) dX8_sortAt_0 rfl ?_
  refine E_if_lt 12 dX8_sortAt_1 (by decide) (fun hc1 => ?_) (fun hc1 => ?_)
  · rw [if_pos hc1] at hf
    refine E_iconst 0 dX8_sortAt_12 ic_0 ?_
    obtain rfl := Option.some.inj hf
    exact E.done (by rw [eQ]; exact ⟨rfl, Or.inl ⟨_, _, rfl, rfl, dX8_sortAt_13, rfl, rfl⟩⟩)
  · rw [if_neg hc1] at hf
    refine E_iload_n (v := a0) dX8_sortAt_4 rfl ?_
    refine E_aload_n (v := 37) dX8_sortAt_5 rfl ?_
    refine E_getI fg_RX8_15 dX8_sortAt_6 sC_37 rfl ?_
    refine E_icmp_lt 14 dX8_sortAt_9 (by decide) (fun hc2 => ?_) (fun hc2 => ?_)
    · rw [if_pos hc2] at hf
      refine E_aload_n (v := 37) dX8_sortAt_14 rfl ?_
      refine E_getR fg_RX8_11 dX8_sortAt_15 sC_37 rfl rC_37_0 (Nat.succ_ne_zero _) ?_
      refine E_iload_n (v := a0) dX8_sortAt_18 rfl ?_
      obtain ⟨hi3, hf⟩ := gd_some hf
      refine E_bald (n := 200) dX8_sortAt_19 sC_38 (by decide) (inb_in hi3) ?_
      refine E_bipush 97 dX8_sortAt_20 bp_97 ?_
      refine E_icmp_lt 38 dX8_sortAt_22 (by decide) (fun hc4 => ?_) (fun hc4 => ?_)
      · rw [if_pos hc4] at hf
        refine E_aload_n (v := 37) dX8_sortAt_38 rfl ?_
        refine E_getR fg_RX8_11 dX8_sortAt_39 sC_37 rfl rC_37_0 (Nat.succ_ne_zero _) ?_
        refine E_iload_n (v := a0) dX8_sortAt_42 rfl ?_
        refine E_bald (n := 200) dX8_sortAt_43 sC_38 (by decide) (inb_in hi3) ?_
        refine E_bipush 48 dX8_sortAt_44 bp_48 ?_
        refine E_icmp_lt 64 dX8_sortAt_46 (by decide) (fun hc5 => ?_) (fun hc5 => ?_)
        · rw [if_pos hc5] at hf
          refine E_iconst 3 dX8_sortAt_64 ic_3 ?_
          obtain rfl := Option.some.inj hf
          exact E.done (by rw [eQ]; exact ⟨rfl, Or.inl ⟨_, _, rfl, rfl, dX8_sortAt_65, rfl, rfl⟩⟩)
        · rw [if_neg hc5] at hf
          refine E_aload_n (v := 37) dX8_sortAt_49 rfl ?_
          refine E_getR fg_RX8_11 dX8_sortAt_50 sC_37 rfl rC_37_0 (Nat.succ_ne_zero _) ?_
          refine E_iload_n (v := a0) dX8_sortAt_53 rfl ?_
          refine E_bald (n := 200) dX8_sortAt_54 sC_38 (by decide) (inb_in hi3) ?_
          refine E_bipush 57 dX8_sortAt_55 bp_57 ?_
          refine E_icmp_gt 64 dX8_sortAt_57 (by decide) (fun hc6 => ?_) (fun hc6 => ?_)
          · rw [if_pos hc6] at hf
            refine E_iconst 3 dX8_sortAt_64 ic_3 ?_
            obtain rfl := Option.some.inj hf
            exact E.done (by rw [eQ]; exact ⟨rfl, Or.inl ⟨_, _, rfl, rfl, dX8_sortAt_65, rfl, rfl⟩⟩)
          · rw [if_neg hc6] at hf
            refine E_iconst 2 dX8_sortAt_60 ic_2 ?_
            refine E_goto 65 dX8_sortAt_61 (by decide) ?_
            obtain rfl := Option.some.inj hf
            exact E.done (by rw [eQ]; exact ⟨rfl, Or.inl ⟨_, _, rfl, rfl, dX8_sortAt_65, rfl, rfl⟩⟩)
      · rw [if_neg hc4] at hf
        refine E_aload_n (v := 37) dX8_sortAt_25 rfl ?_
        refine E_getR fg_RX8_11 dX8_sortAt_26 sC_37 rfl rC_37_0 (Nat.succ_ne_zero _) ?_
        refine E_iload_n (v := a0) dX8_sortAt_29 rfl ?_
        refine E_bald (n := 200) dX8_sortAt_30 sC_38 (by decide) (inb_in hi3) ?_
        refine E_bipush 122 dX8_sortAt_31 bp_122 ?_
        refine E_icmp_gt 38 dX8_sortAt_33 (by decide) (fun hc7 => ?_) (fun hc7 => ?_)
        · rw [if_pos hc7] at hf
          refine E_aload_n (v := 37) dX8_sortAt_38 rfl ?_
          refine E_getR fg_RX8_11 dX8_sortAt_39 sC_37 rfl rC_37_0 (Nat.succ_ne_zero _) ?_
          refine E_iload_n (v := a0) dX8_sortAt_42 rfl ?_
          refine E_bald (n := 200) dX8_sortAt_43 sC_38 (by decide) (inb_in hi3) ?_
          refine E_bipush 48 dX8_sortAt_44 bp_48 ?_
          refine E_icmp_lt 64 dX8_sortAt_46 (by decide) (fun hc8 => ?_) (fun hc8 => ?_)
          · rw [if_pos hc8] at hf
            refine E_iconst 3 dX8_sortAt_64 ic_3 ?_
            obtain rfl := Option.some.inj hf
            exact E.done (by rw [eQ]; exact ⟨rfl, Or.inl ⟨_, _, rfl, rfl, dX8_sortAt_65, rfl, rfl⟩⟩)
          · rw [if_neg hc8] at hf
            refine E_aload_n (v := 37) dX8_sortAt_49 rfl ?_
            refine E_getR fg_RX8_11 dX8_sortAt_50 sC_37 rfl rC_37_0 (Nat.succ_ne_zero _) ?_
            refine E_iload_n (v := a0) dX8_sortAt_53 rfl ?_
            refine E_bald (n := 200) dX8_sortAt_54 sC_38 (by decide) (inb_in hi3) ?_
            refine E_bipush 57 dX8_sortAt_55 bp_57 ?_
            refine E_icmp_gt 64 dX8_sortAt_57 (by decide) (fun hc9 => ?_) (fun hc9 => ?_)
            · rw [if_pos hc9] at hf
              refine E_iconst 3 dX8_sortAt_64 ic_3 ?_
              obtain rfl := Option.some.inj hf
              exact E.done (by rw [eQ]; exact ⟨rfl, Or.inl ⟨_, _, rfl, rfl, dX8_sortAt_65, rfl, rfl⟩⟩)
            · rw [if_neg hc9] at hf
              refine E_iconst 2 dX8_sortAt_60 ic_2 ?_
              refine E_goto 65 dX8_sortAt_61 (by decide) ?_
              obtain rfl := Option.some.inj hf
              exact E.done (by rw [eQ]; exact ⟨rfl, Or.inl ⟨_, _, rfl, rfl, dX8_sortAt_65, rfl, rfl⟩⟩)
        · rw [if_neg hc7] at hf
          refine E_iconst 1 dX8_sortAt_36 ic_1 ?_
          obtain rfl := Option.some.inj hf
          exact E.done (by rw [eQ]; exact ⟨rfl, Or.inl ⟨_, _, rfl, rfl, dX8_sortAt_37, rfl, rfl⟩⟩)
    · rw [if_neg hc2] at hf
      refine E_iconst 0 dX8_sortAt_12 ic_0 ?_
      obtain rfl := Option.some.inj hf
      exact E.done (by rw [eQ]; exact ⟨rfl, Or.inl ⟨_, _, rfl, rfl, dX8_sortAt_13, rfl, rfl⟩⟩)
set_option maxRecDepth 10000 in
set_option maxHeartbeats 2000000 in
theorem BX8_next_46 (N : Nat) (w : AW) (wZ : AW) {Q : Nat → List (Option Value) → List Value → AW → Prop} (eQ : Q = Qret cX8_next none none wZ) (hf : bX8_next_46 N w = some wZ) : E PC RX8 cX8_next 1 2 46 [some (.ref 37)] [] w Q := by
  unfold bX8_next_46 at hf
  refine E_aload_n (v := 37) dX8_next_46 rfl ?_
  refine E_aload_n (v := 37) dX8_next_47 rfl ?_
  refine E_aload_n (v := 37) dX8_next_48 rfl ?_
  refine E_getI fg_RX8_33 dX8_next_49 sC_37 rfl ?_
  obtain ⟨r9, hc8, hf⟩ := bd_some hf
  try dsimp only at hf
  refine E_callVi (rest := [.ref 37]) (ci := 8) cv_RX8_122 dX8_next_52 (MX8_sortAt hc8) rfl sC_37 rfl (by decide) rfl rfl (fun _ => Nat.le_of_ble_eq_true rfl) ?_
  obtain ⟨w10, ew10, hf⟩ := lw_some hf
  try dsimp only at hf
  refine E_putI fp_RX8_30 dX8_next_55 sC_37 rfl rfl rfl ?_
  rw [← ew10]
  refine E_aload_n (v := 37) dX8_next_58 rfl ?_
  refine E_aload_n (v := 37) dX8_next_59 rfl ?_
  refine E_getI fg_RX8_30 dX8_next_60 sC_37 rfl ?_
  refine E_if_ne 73 dX8_next_63 (by decide) (fun hc11 => ?_) (fun hc11 => ?_)
  · rw [if_pos hc11] at hf
    refine E_aload_n (v := 37) dX8_next_66 rfl ?_
    refine E_getI fg_RX8_33 dX8_next_67 sC_37 rfl ?_
    refine E_goto 79 dX8_next_70 (by decide) ?_
    obtain ⟨w12, ew12, hf⟩ := lw_some hf
    try dsimp only at hf
    refine E_putI fp_RX8_36 dX8_next_79 sC_37 rfl rfl rfl ?_
    rw [← ew12]
    obtain ⟨q, hw25, hf⟩ := bd_some hf
    try dsimp only at hf
    show (fun (s : AW) => E PC RX8 cX8_next 1 2 82 [some (.ref 37)] [] s Q) w12
    refine wh_E (K := (fun (s : AW) => E PC RX8 cX8_next 1 2 82 [some (.ref 37)] [] s Q)) (X := (fun (s : AW) => E PC RX8 cX8_next 1 2 137 [none] [] s Q)) ?_ hw25 ?_
    · intro s9 z9 hf k9
      obtain ⟨w_82_2, hs9⟩ : ∃ a, a = s9 := ⟨_, rfl⟩
      subst hs9
      dsimp only [lbX8_next_82_2] at hf
      show E PC RX8 cX8_next 1 2 82 [some (.ref 37)] [] w_82_2 Q
      refine E_aload_n (v := 37) dX8_next_82 rfl ?_
      refine E_getI fg_RX8_30 dX8_next_83 sC_37 rfl ?_
      refine E_iconst 1 dX8_next_86 ic_1 ?_
      refine E_icmp_eq 98 dX8_next_87 (by decide) (fun hc13 => ?_) (fun hc13 => ?_)
      · rw [if_pos hc13] at hf
        refine E_aload_n (v := 37) dX8_next_98 rfl ?_
        refine E_getI fg_RX8_36 dX8_next_99 sC_37 rfl ?_
        refine E_aload_n (v := 37) dX8_next_102 rfl ?_
        refine E_getI fg_RX8_15 dX8_next_103 sC_37 rfl ?_
        refine E_icmp_ge 137 dX8_next_106 (by decide) (fun hc14 => ?_) (fun hc14 => ?_)
        · rw [if_pos hc14] at hf
          obtain rfl := Option.some.inj hf
          refine E.fewer (ls' := [none]) ⟨Or.inl rfl, trivial⟩ ?_
          exact k9
        · rw [if_neg hc14] at hf
          refine E_aload_n (v := 37) dX8_next_109 rfl ?_
          refine E_aload_n (v := 37) dX8_next_110 rfl ?_
          refine E_getI fg_RX8_36 dX8_next_111 sC_37 rfl ?_
          obtain ⟨r16, hc15, hf⟩ := bd_some hf
          try dsimp only at hf
          refine E_callVi (rest := []) (ci := 8) cv_RX8_122 dX8_next_114 (MX8_sortAt hc15) rfl sC_37 rfl (by decide) rfl rfl (fun _ => Nat.le_of_ble_eq_true rfl) ?_
          refine E_aload_n (v := 37) dX8_next_117 rfl ?_
          refine E_getI fg_RX8_30 dX8_next_118 sC_37 rfl ?_
          refine E_icmp_ne 137 dX8_next_121 (by decide) (fun hc17 => ?_) (fun hc17 => ?_)
          · rw [if_pos hc17] at hf
            refine E_aload_n (v := 37) dX8_next_124 rfl ?_
            refine E_dup_r dX8_next_125 ?_
            refine E_getI fg_RX8_36 dX8_next_126 sC_37 rfl ?_
            refine E_iconst 1 dX8_next_129 ic_1 ?_
            refine E_iadd dX8_next_130 ?_
            obtain ⟨w18, ew18, hf⟩ := lw_some hf
            try dsimp only at hf
            refine E_putI fp_RX8_36 dX8_next_131 sC_37 rfl rfl rfl ?_
            rw [← ew18]
            refine E_goto 82 dX8_next_134 (by decide) ?_
            obtain rfl := Option.some.inj hf
            exact k9
          · rw [if_neg hc17] at hf
            obtain rfl := Option.some.inj hf
            refine E.fewer (ls' := [none]) ⟨Or.inl rfl, trivial⟩ ?_
            exact k9
      · rw [if_neg hc13] at hf
        refine E_aload_n (v := 37) dX8_next_90 rfl ?_
        refine E_getI fg_RX8_30 dX8_next_91 sC_37 rfl ?_
        refine E_iconst 2 dX8_next_94 ic_2 ?_
        refine E_icmp_ne 137 dX8_next_95 (by decide) (fun hc19 => ?_) (fun hc19 => ?_)
        · rw [if_pos hc19] at hf
          refine E_aload_n (v := 37) dX8_next_98 rfl ?_
          refine E_getI fg_RX8_36 dX8_next_99 sC_37 rfl ?_
          refine E_aload_n (v := 37) dX8_next_102 rfl ?_
          refine E_getI fg_RX8_15 dX8_next_103 sC_37 rfl ?_
          refine E_icmp_ge 137 dX8_next_106 (by decide) (fun hc20 => ?_) (fun hc20 => ?_)
          · rw [if_pos hc20] at hf
            obtain rfl := Option.some.inj hf
            refine E.fewer (ls' := [none]) ⟨Or.inl rfl, trivial⟩ ?_
            exact k9
          · rw [if_neg hc20] at hf
            refine E_aload_n (v := 37) dX8_next_109 rfl ?_
            refine E_aload_n (v := 37) dX8_next_110 rfl ?_
            refine E_getI fg_RX8_36 dX8_next_111 sC_37 rfl ?_
            obtain ⟨r22, hc21, hf⟩ := bd_some hf
            try dsimp only at hf
            refine E_callVi (rest := []) (ci := 8) cv_RX8_122 dX8_next_114 (MX8_sortAt hc21) rfl sC_37 rfl (by decide) rfl rfl (fun _ => Nat.le_of_ble_eq_true rfl) ?_
            refine E_aload_n (v := 37) dX8_next_117 rfl ?_
            refine E_getI fg_RX8_30 dX8_next_118 sC_37 rfl ?_
            refine E_icmp_ne 137 dX8_next_121 (by decide) (fun hc23 => ?_) (fun hc23 => ?_)
            · rw [if_pos hc23] at hf
              refine E_aload_n (v := 37) dX8_next_124 rfl ?_
              refine E_dup_r dX8_next_125 ?_
              refine E_getI fg_RX8_36 dX8_next_126 sC_37 rfl ?_
              refine E_iconst 1 dX8_next_129 ic_1 ?_
              refine E_iadd dX8_next_130 ?_
              obtain ⟨w24, ew24, hf⟩ := lw_some hf
              try dsimp only at hf
              refine E_putI fp_RX8_36 dX8_next_131 sC_37 rfl rfl rfl ?_
              rw [← ew24]
              refine E_goto 82 dX8_next_134 (by decide) ?_
              obtain rfl := Option.some.inj hf
              exact k9
            · rw [if_neg hc23] at hf
              obtain rfl := Option.some.inj hf
              refine E.fewer (ls' := [none]) ⟨Or.inl rfl, trivial⟩ ?_
              exact k9
        · rw [if_neg hc19] at hf
          obtain rfl := Option.some.inj hf
          refine E.fewer (ls' := [none]) ⟨Or.inl rfl, trivial⟩ ?_
          exact k9
    · skip
      obtain ⟨w26, hq9⟩ : ∃ a, a = q := ⟨_, rfl⟩
      subst hq9
      try dsimp only at hf
      show E PC RX8 cX8_next 1 2 137 [none] [] w26 Q
      obtain rfl := Option.some.inj hf
      exact E.done (by rw [eQ]; exact ⟨rfl, Or.inr ⟨rfl, rfl, dX8_next_137, rfl⟩⟩)
  · rw [if_neg hc11] at hf
    refine E_aload_n (v := 37) dX8_next_73 rfl ?_
    refine E_getI fg_RX8_33 dX8_next_74 sC_37 rfl ?_
    refine E_iconst 1 dX8_next_77 ic_1 ?_
    refine E_iadd dX8_next_78 ?_
    obtain ⟨w27, ew27, hf⟩ := lw_some hf
    try dsimp only at hf
    refine E_putI fp_RX8_36 dX8_next_79 sC_37 rfl rfl rfl ?_
    rw [← ew27]
    obtain ⟨q, hw40, hf⟩ := bd_some hf
    try dsimp only at hf
    show (fun (s : AW) => E PC RX8 cX8_next 1 2 82 [some (.ref 37)] [] s Q) w27
    refine wh_E (K := (fun (s : AW) => E PC RX8 cX8_next 1 2 82 [some (.ref 37)] [] s Q)) (X := (fun (s : AW) => E PC RX8 cX8_next 1 2 137 [none] [] s Q)) ?_ hw40 ?_
    · intro s9 z9 hf k9
      obtain ⟨w_82_3, hs9⟩ : ∃ a, a = s9 := ⟨_, rfl⟩
      subst hs9
      dsimp only [lbX8_next_82_3] at hf
      show E PC RX8 cX8_next 1 2 82 [some (.ref 37)] [] w_82_3 Q
      refine E_aload_n (v := 37) dX8_next_82 rfl ?_
      refine E_getI fg_RX8_30 dX8_next_83 sC_37 rfl ?_
      refine E_iconst 1 dX8_next_86 ic_1 ?_
      refine E_icmp_eq 98 dX8_next_87 (by decide) (fun hc28 => ?_) (fun hc28 => ?_)
      · rw [if_pos hc28] at hf
        refine E_aload_n (v := 37) dX8_next_98 rfl ?_
        refine E_getI fg_RX8_36 dX8_next_99 sC_37 rfl ?_
        refine E_aload_n (v := 37) dX8_next_102 rfl ?_
        refine E_getI fg_RX8_15 dX8_next_103 sC_37 rfl ?_
        refine E_icmp_ge 137 dX8_next_106 (by decide) (fun hc29 => ?_) (fun hc29 => ?_)
        · rw [if_pos hc29] at hf
          obtain rfl := Option.some.inj hf
          refine E.fewer (ls' := [none]) ⟨Or.inl rfl, trivial⟩ ?_
          exact k9
        · rw [if_neg hc29] at hf
          refine E_aload_n (v := 37) dX8_next_109 rfl ?_
          refine E_aload_n (v := 37) dX8_next_110 rfl ?_
          refine E_getI fg_RX8_36 dX8_next_111 sC_37 rfl ?_
          obtain ⟨r31, hc30, hf⟩ := bd_some hf
          try dsimp only at hf
          refine E_callVi (rest := []) (ci := 8) cv_RX8_122 dX8_next_114 (MX8_sortAt hc30) rfl sC_37 rfl (by decide) rfl rfl (fun _ => Nat.le_of_ble_eq_true rfl) ?_
          refine E_aload_n (v := 37) dX8_next_117 rfl ?_
          refine E_getI fg_RX8_30 dX8_next_118 sC_37 rfl ?_
          refine E_icmp_ne 137 dX8_next_121 (by decide) (fun hc32 => ?_) (fun hc32 => ?_)
          · rw [if_pos hc32] at hf
            refine E_aload_n (v := 37) dX8_next_124 rfl ?_
            refine E_dup_r dX8_next_125 ?_
            refine E_getI fg_RX8_36 dX8_next_126 sC_37 rfl ?_
            refine E_iconst 1 dX8_next_129 ic_1 ?_
            refine E_iadd dX8_next_130 ?_
            obtain ⟨w33, ew33, hf⟩ := lw_some hf
            try dsimp only at hf
            refine E_putI fp_RX8_36 dX8_next_131 sC_37 rfl rfl rfl ?_
            rw [← ew33]
            refine E_goto 82 dX8_next_134 (by decide) ?_
            obtain rfl := Option.some.inj hf
            exact k9
          · rw [if_neg hc32] at hf
            obtain rfl := Option.some.inj hf
            refine E.fewer (ls' := [none]) ⟨Or.inl rfl, trivial⟩ ?_
            exact k9
      · rw [if_neg hc28] at hf
        refine E_aload_n (v := 37) dX8_next_90 rfl ?_
        refine E_getI fg_RX8_30 dX8_next_91 sC_37 rfl ?_
        refine E_iconst 2 dX8_next_94 ic_2 ?_
        refine E_icmp_ne 137 dX8_next_95 (by decide) (fun hc34 => ?_) (fun hc34 => ?_)
        · rw [if_pos hc34] at hf
          refine E_aload_n (v := 37) dX8_next_98 rfl ?_
          refine E_getI fg_RX8_36 dX8_next_99 sC_37 rfl ?_
          refine E_aload_n (v := 37) dX8_next_102 rfl ?_
          refine E_getI fg_RX8_15 dX8_next_103 sC_37 rfl ?_
          refine E_icmp_ge 137 dX8_next_106 (by decide) (fun hc35 => ?_) (fun hc35 => ?_)
          · rw [if_pos hc35] at hf
            obtain rfl := Option.some.inj hf
            refine E.fewer (ls' := [none]) ⟨Or.inl rfl, trivial⟩ ?_
            exact k9
          · rw [if_neg hc35] at hf
            refine E_aload_n (v := 37) dX8_next_109 rfl ?_
            refine E_aload_n (v := 37) dX8_next_110 rfl ?_
            refine E_getI fg_RX8_36 dX8_next_111 sC_37 rfl ?_
            obtain ⟨r37, hc36, hf⟩ := bd_some hf
            try dsimp only at hf
            refine E_callVi (rest := []) (ci := 8) cv_RX8_122 dX8_next_114 (MX8_sortAt hc36) rfl sC_37 rfl (by decide) rfl rfl (fun _ => Nat.le_of_ble_eq_true rfl) ?_
            refine E_aload_n (v := 37) dX8_next_117 rfl ?_
            refine E_getI fg_RX8_30 dX8_next_118 sC_37 rfl ?_
            refine E_icmp_ne 137 dX8_next_121 (by decide) (fun hc38 => ?_) (fun hc38 => ?_)
            · rw [if_pos hc38] at hf
              refine E_aload_n (v := 37) dX8_next_124 rfl ?_
              refine E_dup_r dX8_next_125 ?_
              refine E_getI fg_RX8_36 dX8_next_126 sC_37 rfl ?_
              refine E_iconst 1 dX8_next_129 ic_1 ?_
              refine E_iadd dX8_next_130 ?_
              obtain ⟨w39, ew39, hf⟩ := lw_some hf
              try dsimp only at hf
              refine E_putI fp_RX8_36 dX8_next_131 sC_37 rfl rfl rfl ?_
              rw [← ew39]
              refine E_goto 82 dX8_next_134 (by decide) ?_
              obtain rfl := Option.some.inj hf
              exact k9
            · rw [if_neg hc38] at hf
              obtain rfl := Option.some.inj hf
              refine E.fewer (ls' := [none]) ⟨Or.inl rfl, trivial⟩ ?_
              exact k9
        · rw [if_neg hc34] at hf
          obtain rfl := Option.some.inj hf
          refine E.fewer (ls' := [none]) ⟨Or.inl rfl, trivial⟩ ?_
          exact k9
    · skip
      obtain ⟨w41, hq9⟩ : ∃ a, a = q := ⟨_, rfl⟩
      subst hq9
      try dsimp only at hf
      show E PC RX8 cX8_next 1 2 137 [none] [] w41 Q
      obtain rfl := Option.some.inj hf
      exact E.done (by rw [eQ]; exact ⟨rfl, Or.inr ⟨rfl, rfl, dX8_next_137, rfl⟩⟩)
set_option maxRecDepth 10000 in
set_option maxHeartbeats 2000000 in
theorem MX8_next {N : Nat} {w : AW} {wZ : AW} (hf : fX8_next N w = some wZ) : CallOK PC yX8_next cX8_next 1 none 2 [.ref 37] w none wZ := by
  refine CallOK.of (ls := [some (.ref 37)]) (by decide) (by simp) rfl rfl ?_
  obtain ⟨Q, eQ⟩ : ∃ Q, Q = Qret cX8_next none none wZ := ⟨_, rfl⟩
  rw [← eQ]
  unfold fX8_next at hf
  refine E_aload_n (v := 37) dX8_next_0 rfl ?_
  refine E_aload_n (v := 37) dX8_next_1 rfl ?_
  refine E_getI fg_RX8_36 dX8_next_2 sC_37 rfl ?_
  obtain ⟨w1, ew1, hf⟩ := lw_some hf
  try dsimp only at hf
  refine E_putI fp_RX8_33 dX8_next_5 sC_37 rfl rfl rfl ?_
  rw [← ew1]
  obtain ⟨q, hw6, hf⟩ := bd_some hf
  try dsimp only at hf
  show (fun (s : AW) => E PC RX8 cX8_next 1 2 8 [some (.ref 37)] [] s Q) w1
  refine wh_E (K := (fun (s : AW) => E PC RX8 cX8_next 1 2 8 [some (.ref 37)] [] s Q)) (X := (fun (s : AW) => E PC RX8 cX8_next 1 2 46 [some (.ref 37)] [] s Q)) ?_ hw6 ?_
  · intro s9 z9 hf k9
    obtain ⟨w_8_1, hs9⟩ : ∃ a, a = s9 := ⟨_, rfl⟩
    subst hs9
    dsimp only [lbX8_next_8_1] at hf
    show E PC RX8 cX8_next 1 2 8 [some (.ref 37)] [] w_8_1 Q
    refine E_aload_n (v := 37) dX8_next_8 rfl ?_
    refine E_getI fg_RX8_33 dX8_next_9 sC_37 rfl ?_
    refine E_aload_n (v := 37) dX8_next_12 rfl ?_
    refine E_getI fg_RX8_15 dX8_next_13 sC_37 rfl ?_
    refine E_icmp_ge 46 dX8_next_16 (by decide) (fun hc2 => ?_) (fun hc2 => ?_)
    · rw [if_pos hc2] at hf
      obtain rfl := Option.some.inj hf
      exact k9
    · rw [if_neg hc2] at hf
      refine E_aload_n (v := 37) dX8_next_19 rfl ?_
      refine E_getR fg_RX8_11 dX8_next_20 sC_37 rfl rC_37_0 (Nat.succ_ne_zero _) ?_
      refine E_aload_n (v := 37) dX8_next_23 rfl ?_
      refine E_getI fg_RX8_33 dX8_next_24 sC_37 rfl ?_
      obtain ⟨hi3, hf⟩ := gd_some hf
      refine E_bald (n := 200) dX8_next_27 sC_38 (by decide) (inb_in hi3) ?_
      refine E_bipush 32 dX8_next_28 bp_32 ?_
      refine E_icmp_ne 46 dX8_next_30 (by decide) (fun hc4 => ?_) (fun hc4 => ?_)
      · rw [if_pos hc4] at hf
        refine E_aload_n (v := 37) dX8_next_33 rfl ?_
        refine E_dup_r dX8_next_34 ?_
        refine E_getI fg_RX8_33 dX8_next_35 sC_37 rfl ?_
        refine E_iconst 1 dX8_next_38 ic_1 ?_
        refine E_iadd dX8_next_39 ?_
        obtain ⟨w5, ew5, hf⟩ := lw_some hf
        try dsimp only at hf
        refine E_putI fp_RX8_33 dX8_next_40 sC_37 rfl rfl rfl ?_
        rw [← ew5]
        refine E_goto 8 dX8_next_43 (by decide) ?_
        obtain rfl := Option.some.inj hf
        exact k9
      · rw [if_neg hc4] at hf
        obtain rfl := Option.some.inj hf
        exact k9
  · skip
    obtain ⟨w7, hq9⟩ : ∃ a, a = q := ⟨_, rfl⟩
    subst hq9
    try dsimp only at hf
    show E PC RX8 cX8_next 1 2 46 [some (.ref 37)] [] w7 Q
    exact BX8_next_46 N w7  wZ eQ hf
set_option maxRecDepth 10000 in
set_option maxHeartbeats 2000000 in
theorem MX8_kindNamed {N : Nat} {w : AW} {rZ : Int32} (hf : fX8_kindNamed N w = some rZ) : CallOK PC yX8_kindNamed cX8_kindNamed 1 (some .int) 7 [.ref 37] w (some (.int rZ)) w := by
  refine CallOK.of (ls := [some (.ref 37)]) (by decide) (by simp) rfl rfl ?_
  obtain ⟨Q, eQ⟩ : ∃ Q, Q = Qret cX8_kindNamed (some .int) (some (.int rZ)) w := ⟨_, rfl⟩
  rw [← eQ]
  unfold fX8_kindNamed at hf
  refine E_aload_n (v := 37) dX8_kindNamed_0 rfl ?_
  refine E_ldcS 3 dX8_kindNamed_1 rfl (by decide) rfl ?_
  obtain ⟨r2, hc1, hf⟩ := bd_some hf
  try dsimp only at hf
  refine E_callVi (rest := []) (ci := 8) cv_RX8_90 dX8_kindNamed_3 (MX8_isNamed (by decide) hc1) rfl sC_37 rfl (by decide) rfl rfl (fun _ => Nat.le_of_ble_eq_true rfl) ?_
  refine E_if_eq 11 dX8_kindNamed_6 (by decide) (fun hc3 => ?_) (fun hc3 => ?_)
  · rw [if_pos hc3] at hf
    refine E_aload_n (v := 37) dX8_kindNamed_11 rfl ?_
    refine E_ldcS 4 dX8_kindNamed_12 rfl (by decide) rfl ?_
    obtain ⟨r5, hc4, hf⟩ := bd_some hf
    try dsimp only at hf
    refine E_callVi (rest := []) (ci := 8) cv_RX8_90 dX8_kindNamed_14 (MX8_isNamed (by decide) hc4) rfl sC_37 rfl (by decide) rfl rfl (fun _ => Nat.le_of_ble_eq_true rfl) ?_
    refine E_if_eq 22 dX8_kindNamed_17 (by decide) (fun hc6 => ?_) (fun hc6 => ?_)
    · rw [if_pos hc6] at hf
      refine E_aload_n (v := 37) dX8_kindNamed_22 rfl ?_
      refine E_ldcS 5 dX8_kindNamed_23 rfl (by decide) rfl ?_
      obtain ⟨r8, hc7, hf⟩ := bd_some hf
      try dsimp only at hf
      refine E_callVi (rest := []) (ci := 8) cv_RX8_90 dX8_kindNamed_25 (MX8_isNamed (by decide) hc7) rfl sC_37 rfl (by decide) rfl rfl (fun _ => Nat.le_of_ble_eq_true rfl) ?_
      refine E_if_eq 33 dX8_kindNamed_28 (by decide) (fun hc9 => ?_) (fun hc9 => ?_)
      · rw [if_pos hc9] at hf
        refine E_aload_n (v := 37) dX8_kindNamed_33 rfl ?_
        refine E_ldcS 6 dX8_kindNamed_34 rfl (by decide) rfl ?_
        obtain ⟨r11, hc10, hf⟩ := bd_some hf
        try dsimp only at hf
        refine E_callVi (rest := []) (ci := 8) cv_RX8_90 dX8_kindNamed_36 (MX8_isNamed (by decide) hc10) rfl sC_37 rfl (by decide) rfl rfl (fun _ => Nat.le_of_ble_eq_true rfl) ?_
        refine E_if_eq 44 dX8_kindNamed_39 (by decide) (fun hc12 => ?_) (fun hc12 => ?_)
        · rw [if_pos hc12] at hf
          refine E_aload_n (v := 37) dX8_kindNamed_44 rfl ?_
          refine E_ldcS 7 dX8_kindNamed_45 rfl (by decide) rfl ?_
          obtain ⟨r14, hc13, hf⟩ := bd_some hf
          try dsimp only at hf
          refine E_callVi (rest := []) (ci := 8) cv_RX8_90 dX8_kindNamed_47 (MX8_isNamed (by decide) hc13) rfl sC_37 rfl (by decide) rfl rfl (fun _ => Nat.le_of_ble_eq_true rfl) ?_
          refine E_if_eq 55 dX8_kindNamed_50 (by decide) (fun hc15 => ?_) (fun hc15 => ?_)
          · rw [if_pos hc15] at hf
            refine E_aload_n (v := 37) dX8_kindNamed_55 rfl ?_
            refine E_ldcS 8 dX8_kindNamed_56 rfl (by decide) rfl ?_
            obtain ⟨r17, hc16, hf⟩ := bd_some hf
            try dsimp only at hf
            refine E_callVi (rest := []) (ci := 8) cv_RX8_90 dX8_kindNamed_58 (MX8_isNamed (by decide) hc16) rfl sC_37 rfl (by decide) rfl rfl (fun _ => Nat.le_of_ble_eq_true rfl) ?_
            refine E_if_eq 66 dX8_kindNamed_61 (by decide) (fun hc18 => ?_) (fun hc18 => ?_)
            · rw [if_pos hc18] at hf
              refine E_iconst (-1) dX8_kindNamed_66 ic_m1 ?_
              obtain rfl := Option.some.inj hf
              exact E.done (by rw [eQ]; exact ⟨rfl, Or.inl ⟨_, _, rfl, rfl, dX8_kindNamed_67, rfl, rfl⟩⟩)
            · rw [if_neg hc18] at hf
              refine E_iconst 5 dX8_kindNamed_64 ic_5 ?_
              obtain rfl := Option.some.inj hf
              exact E.done (by rw [eQ]; exact ⟨rfl, Or.inl ⟨_, _, rfl, rfl, dX8_kindNamed_65, rfl, rfl⟩⟩)
          · rw [if_neg hc15] at hf
            refine E_iconst 4 dX8_kindNamed_53 ic_4 ?_
            obtain rfl := Option.some.inj hf
            exact E.done (by rw [eQ]; exact ⟨rfl, Or.inl ⟨_, _, rfl, rfl, dX8_kindNamed_54, rfl, rfl⟩⟩)
        · rw [if_neg hc12] at hf
          refine E_iconst 3 dX8_kindNamed_42 ic_3 ?_
          obtain rfl := Option.some.inj hf
          exact E.done (by rw [eQ]; exact ⟨rfl, Or.inl ⟨_, _, rfl, rfl, dX8_kindNamed_43, rfl, rfl⟩⟩)
      · rw [if_neg hc9] at hf
        refine E_iconst 2 dX8_kindNamed_31 ic_2 ?_
        obtain rfl := Option.some.inj hf
        exact E.done (by rw [eQ]; exact ⟨rfl, Or.inl ⟨_, _, rfl, rfl, dX8_kindNamed_32, rfl, rfl⟩⟩)
    · rw [if_neg hc6] at hf
      refine E_iconst 1 dX8_kindNamed_20 ic_1 ?_
      obtain rfl := Option.some.inj hf
      exact E.done (by rw [eQ]; exact ⟨rfl, Or.inl ⟨_, _, rfl, rfl, dX8_kindNamed_21, rfl, rfl⟩⟩)
  · rw [if_neg hc3] at hf
    refine E_iconst 0 dX8_kindNamed_9 ic_0 ?_
    obtain rfl := Option.some.inj hf
    exact E.done (by rw [eQ]; exact ⟨rfl, Or.inl ⟨_, _, rfl, rfl, dX8_kindNamed_10, rfl, rfl⟩⟩)
set_option maxRecDepth 10000 in
set_option maxHeartbeats 2000000 in
theorem MX8_passName {N : Nat} {i0 : Nat} {w : AW} {rZ : Int32} {wZ : AW} (hi0 : i0 < 12) (hf : fX8_passName N i0 w = some (rZ, wZ)) : CallOK PC yX8_passName cX8_passName 2 (some .boolean) 7 [.ref 37, .retAddr (9 + i0 + 1)] w (some (.int rZ)) wZ := by
  refine CallOK.of (ls := [some (.ref 37), some (.retAddr (9 + i0 + 1))]) (by decide) (by simp) rfl rfl ?_
  obtain ⟨Q, eQ⟩ : ∃ Q, Q = Qret cX8_passName (some .boolean) (some (.int rZ)) wZ := ⟨_, rfl⟩
  rw [← eQ]
  unfold fX8_passName at hf
  refine E_aload_n (v := 37) dX8_passName_0 rfl ?_
  refine E_aloadx_n dX8_passName_1 rfl ?_
  obtain ⟨r2, hc1, hf⟩ := bd_some hf
  try dsimp only at hf
  refine E_callVi (rest := []) (ci := 8) cv_RX8_90 dX8_passName_2 (MX8_isNamed hi0 hc1) rfl sC_37 rfl (by decide) rfl rfl (fun _ => Nat.le_of_ble_eq_true rfl) ?_
  refine E_if_ne 10 dX8_passName_5 (by decide) (fun hc3 => ?_) (fun hc3 => ?_)
  · rw [if_pos hc3] at hf
    refine E_iconst 0 dX8_passName_8 ic_0 ?_
    obtain ⟨rfl, rfl⟩ := ret2 hf
    exact E.done (by rw [eQ]; exact ⟨rfl, Or.inl ⟨_, _, rfl, rfl, dX8_passName_9, rfl, rfl⟩⟩)
  · rw [if_neg hc3] at hf
    refine E_aload_n (v := 37) dX8_passName_10 rfl ?_
    obtain ⟨w5, hc4, hf⟩ := bd_some hf
    try dsimp only at hf
    refine E_callVv (rest := []) (ci := 8) cv_RX8_43 dX8_passName_11 (MX8_next hc4) rfl sC_37 rfl (by decide) rfl rfl (fun _ => Nat.le_of_ble_eq_true rfl) ?_
    refine E_iconst 1 dX8_passName_14 ic_1 ?_
    obtain ⟨rfl, rfl⟩ := ret2 hf
    exact E.done (by rw [eQ]; exact ⟨rfl, Or.inl ⟨_, _, rfl, rfl, dX8_passName_15, rfl, rfl⟩⟩)
set_option maxRecDepth 10000 in
set_option maxHeartbeats 2000000 in
theorem MX8_passNumber {N : Nat} {a0 : Int32} {a1 : Int32} {w : AW} {rZ : Int32} {wZ : AW} (hf : fX8_passNumber N a0 a1 w = some (rZ, wZ)) : CallOK PC yX8_passNumber cX8_passNumber 5 (some .boolean) 3 [.ref 37, .int a0, .int a1] w (some (.int rZ)) wZ := by
  refine CallOK.of (ls := [some (.ref 37), some (.int a0), some (.int a1), none, none]) (by decide) (by simp) rfl rfl ?_
  obtain ⟨Q, eQ⟩ : ∃ Q, Q = Qret cX8_passNumber (some .boolean) (some (.int rZ)) wZ := ⟨_, rfl⟩
  rw [← eQ]
  unfold fX8_passNumber at hf
  refine E_aload_n (v := 37) dX8_passNumber_0 rfl ?_
  refine E_getI fg_RX8_30 dX8_passNumber_1 sC_37 rfl ?_
  refine E_iconst 2 dX8_passNumber_4 ic_2 ?_
  refine E_icmp_ne 21 dX8_passNumber_5 (by decide) (fun hc1 => ?_) (fun hc1 => ?_)
  · rw [if_pos hc1] at hf
    refine E_aload_n (v := 37) dX8_passNumber_8 rfl ?_
    refine E_getI fg_RX8_36 dX8_passNumber_9 sC_37 rfl ?_
    refine E_aload_n (v := 37) dX8_passNumber_12 rfl ?_
    refine E_getI fg_RX8_33 dX8_passNumber_13 sC_37 rfl ?_
    refine E_isub dX8_passNumber_16 ?_
    refine E_iconst 2 dX8_passNumber_17 ic_2 ?_
    refine E_icmp_le 23 dX8_passNumber_18 (by decide) (fun hc2 => ?_) (fun hc2 => ?_)
    · rw [if_pos hc2] at hf
      refine E_iconst 0 dX8_passNumber_23 ic_0 ?_
      refine E_istore_n (ls' := [some (.ref 37), some (.int a0), some (.int a1), some (.int 0), none]) dX8_passNumber_24 rfl rfl rfl ?_
      refine E_aload_n (v := 37) dX8_passNumber_25 rfl ?_
      refine E_getI fg_RX8_33 dX8_passNumber_26 sC_37 rfl ?_
      refine E_istore (ls' := [some (.ref 37), some (.int a0), some (.int a1), some (.int 0), some (.int (w.1 37 5))]) dX8_passNumber_29 rfl rfl rfl ?_
      obtain ⟨q, hw6, hf⟩ := bd_some hf
      try dsimp only at hf
      show (fun (s : Int32 × Int32) => E PC RX8 cX8_passNumber 5 3 31 [some (.ref 37), some (.int a0), some (.int a1), some (.int s.1), some (.int s.2)] [] w Q) (0, (w.1 37 5))
      refine wh_E (K := (fun (s : Int32 × Int32) => E PC RX8 cX8_passNumber 5 3 31 [some (.ref 37), some (.int a0), some (.int a1), some (.int s.1), some (.int s.2)] [] w Q)) (X := (fun (s : Int32) => E PC RX8 cX8_passNumber 5 3 62 [some (.ref 37), some (.int a0), some (.int a1), some (.int s), none] [] w Q)) ?_ hw6 ?_
      · intro s9 z9 hf k9
        obtain ⟨x3_31_1, x4_31_1⟩ := s9
        dsimp only [lbX8_passNumber_31_1] at hf
        show E PC RX8 cX8_passNumber 5 3 31 [some (.ref 37), some (.int a0), some (.int a1), some (.int x3_31_1), some (.int x4_31_1)] [] w Q
        refine E_iload (v := x4_31_1) dX8_passNumber_31 rfl ?_
        refine E_aload_n (v := 37) dX8_passNumber_33 rfl ?_
        refine E_getI fg_RX8_36 dX8_passNumber_34 sC_37 rfl ?_
        refine E_icmp_ge 62 dX8_passNumber_37 (by decide) (fun hc3 => ?_) (fun hc3 => ?_)
        · rw [if_pos hc3] at hf
          obtain rfl := Option.some.inj hf
          refine E.fewer (ls' := [some (.ref 37), some (.int a0), some (.int a1), some (.int x3_31_1), none]) ⟨Or.inr rfl, ⟨Or.inr rfl, ⟨Or.inr rfl, ⟨Or.inr rfl, ⟨Or.inl rfl, trivial⟩⟩⟩⟩⟩ ?_
          exact k9
        · rw [if_neg hc3] at hf
          refine E_iload_n (v := x3_31_1) dX8_passNumber_40 rfl ?_
          refine E_bipush 10 dX8_passNumber_41 bp_10 ?_
          refine E_imul dX8_passNumber_43 ?_
          refine E_aload_n (v := 37) dX8_passNumber_44 rfl ?_
          refine E_getR fg_RX8_11 dX8_passNumber_45 sC_37 rfl rC_37_0 (Nat.succ_ne_zero _) ?_
          refine E_iload (v := x4_31_1) dX8_passNumber_48 rfl ?_
          obtain ⟨hi4, hf⟩ := gd_some hf
          refine E_bald (n := 200) dX8_passNumber_50 sC_38 (by decide) (inb_in hi4) ?_
          refine E_iadd dX8_passNumber_51 ?_
          refine E_bipush 48 dX8_passNumber_52 bp_48 ?_
          refine E_isub dX8_passNumber_54 ?_
          obtain ⟨v5, ev5, hf⟩ := lw_some hf
          try dsimp only at hf
          rw [← ev5]
          refine E_istore_n (ls' := [some (.ref 37), some (.int a0), some (.int a1), some (.int v5), some (.int x4_31_1)]) dX8_passNumber_55 rfl rfl rfl ?_
          refine E_iinc (ls' := [some (.ref 37), some (.int a0), some (.int a1), some (.int v5), some (.int (x4_31_1 + 1))]) 1 dX8_passNumber_56 rfl ic_1 rfl rfl rfl ?_
          refine E_goto 31 dX8_passNumber_59 (by decide) ?_
          obtain rfl := Option.some.inj hf
          exact k9
      · skip
        obtain ⟨y7, hq9⟩ : ∃ a, a = q := ⟨_, rfl⟩
        subst hq9
        try dsimp only at hf
        show E PC RX8 cX8_passNumber 5 3 62 [some (.ref 37), some (.int a0), some (.int a1), some (.int y7), none] [] w Q
        refine E_iload_n (v := y7) dX8_passNumber_62 rfl ?_
        refine E_iload_n (v := a0) dX8_passNumber_63 rfl ?_
        refine E_iload_n (v := a1) dX8_passNumber_64 rfl ?_
        obtain ⟨r9, hc8, hf⟩ := bd_some hf
        try dsimp only at hf
        refine E_callNi (rest := []) cn_RX8_118 dX8_passNumber_65 (MX11_within hc8) rfl rfl rfl (fun _ => Nat.le_of_ble_eq_true rfl) ?_
        refine E_if_ne 73 dX8_passNumber_68 (by decide) (fun hc10 => ?_) (fun hc10 => ?_)
        · rw [if_pos hc10] at hf
          refine E_iconst 0 dX8_passNumber_71 ic_0 ?_
          obtain ⟨rfl, rfl⟩ := ret2 hf
          exact E.done (by rw [eQ]; exact ⟨rfl, Or.inl ⟨_, _, rfl, rfl, dX8_passNumber_72, rfl, rfl⟩⟩)
        · rw [if_neg hc10] at hf
          refine E_aload_n (v := 37) dX8_passNumber_73 rfl ?_
          refine E_iload_n (v := y7) dX8_passNumber_74 rfl ?_
          obtain ⟨w11, ew11, hf⟩ := lw_some hf
          try dsimp only at hf
          refine E_putI fp_RX8_39 dX8_passNumber_75 sC_37 rfl rfl rfl ?_
          rw [← ew11]
          refine E_aload_n (v := 37) dX8_passNumber_78 rfl ?_
          obtain ⟨w13, hc12, hf⟩ := bd_some hf
          try dsimp only at hf
          refine E_callVv (rest := []) (ci := 8) cv_RX8_43 dX8_passNumber_79 (MX8_next hc12) rfl sC_37 rfl (by decide) rfl rfl (fun _ => Nat.le_of_ble_eq_true rfl) ?_
          refine E_iconst 1 dX8_passNumber_82 ic_1 ?_
          obtain ⟨rfl, rfl⟩ := ret2 hf
          exact E.done (by rw [eQ]; exact ⟨rfl, Or.inl ⟨_, _, rfl, rfl, dX8_passNumber_83, rfl, rfl⟩⟩)
    · rw [if_neg hc2] at hf
      refine E_iconst 0 dX8_passNumber_21 ic_0 ?_
      obtain ⟨rfl, rfl⟩ := ret2 hf
      exact E.done (by rw [eQ]; exact ⟨rfl, Or.inl ⟨_, _, rfl, rfl, dX8_passNumber_22, rfl, rfl⟩⟩)
  · rw [if_neg hc1] at hf
    refine E_iconst 0 dX8_passNumber_21 ic_0 ?_
    obtain ⟨rfl, rfl⟩ := ret2 hf
    exact E.done (by rw [eQ]; exact ⟨rfl, Or.inl ⟨_, _, rfl, rfl, dX8_passNumber_22, rfl, rfl⟩⟩)
set_option maxRecDepth 10000 in
set_option maxHeartbeats 2000000 in
theorem MX8_passStop {N : Nat} {w : AW} {rZ : Int32} {wZ : AW} (hf : fX8_passStop N w = some (rZ, wZ)) : CallOK PC yX8_passStop cX8_passStop 1 (some .boolean) 3 [.ref 37] w (some (.int rZ)) wZ := by
  refine CallOK.of (ls := [some (.ref 37)]) (by decide) (by simp) rfl rfl ?_
  obtain ⟨Q, eQ⟩ : ∃ Q, Q = Qret cX8_passStop (some .boolean) (some (.int rZ)) wZ := ⟨_, rfl⟩
  rw [← eQ]
  unfold fX8_passStop at hf
  refine E_aload_n (v := 37) dX8_passStop_0 rfl ?_
  refine E_getI fg_RX8_30 dX8_passStop_1 sC_37 rfl ?_
  refine E_iconst 3 dX8_passStop_4 ic_3 ?_
  refine E_icmp_ne 22 dX8_passStop_5 (by decide) (fun hc1 => ?_) (fun hc1 => ?_)
  · rw [if_pos hc1] at hf
    refine E_aload_n (v := 37) dX8_passStop_8 rfl ?_
    refine E_getR fg_RX8_11 dX8_passStop_9 sC_37 rfl rC_37_0 (Nat.succ_ne_zero _) ?_
    refine E_aload_n (v := 37) dX8_passStop_12 rfl ?_
    refine E_getI fg_RX8_33 dX8_passStop_13 sC_37 rfl ?_
    obtain ⟨hi2, hf⟩ := gd_some hf
    refine E_bald (n := 200) dX8_passStop_16 sC_38 (by decide) (inb_in hi2) ?_
    refine E_bipush 59 dX8_passStop_17 bp_59 ?_
    refine E_icmp_eq 24 dX8_passStop_19 (by decide) (fun hc3 => ?_) (fun hc3 => ?_)
    · rw [if_pos hc3] at hf
      refine E_aload_n (v := 37) dX8_passStop_24 rfl ?_
      obtain ⟨w5, hc4, hf⟩ := bd_some hf
      try dsimp only at hf
      refine E_callVv (rest := []) (ci := 8) cv_RX8_43 dX8_passStop_25 (MX8_next hc4) rfl sC_37 rfl (by decide) rfl rfl (fun _ => Nat.le_of_ble_eq_true rfl) ?_
      refine E_iconst 1 dX8_passStop_28 ic_1 ?_
      obtain ⟨rfl, rfl⟩ := ret2 hf
      exact E.done (by rw [eQ]; exact ⟨rfl, Or.inl ⟨_, _, rfl, rfl, dX8_passStop_29, rfl, rfl⟩⟩)
    · rw [if_neg hc3] at hf
      refine E_iconst 0 dX8_passStop_22 ic_0 ?_
      obtain ⟨rfl, rfl⟩ := ret2 hf
      exact E.done (by rw [eQ]; exact ⟨rfl, Or.inl ⟨_, _, rfl, rfl, dX8_passStop_23, rfl, rfl⟩⟩)
  · rw [if_neg hc1] at hf
    refine E_iconst 0 dX8_passStop_22 ic_0 ?_
    obtain ⟨rfl, rfl⟩ := ret2 hf
    exact E.done (by rw [eQ]; exact ⟨rfl, Or.inl ⟨_, _, rfl, rfl, dX8_passStop_23, rfl, rfl⟩⟩)
set_option maxRecDepth 10000 in
set_option maxHeartbeats 2000000 in
theorem BX8_readJob_70 (N : Nat) (p1_70 : Int32) (p2_70 : Int32) (q0_70 : Int32) (w : AW) (rZ : Int32) (wZ : AW) {Q : Nat → List (Option Value) → List Value → AW → Prop} (eQ : Q = Qret cX8_readJob (some .boolean) (some (.int rZ)) wZ) (hf : bX8_readJob_70 N p1_70 p2_70 q0_70 w = some (rZ, wZ)) : E PC RX8 cX8_readJob 6 8 70 [some (.ref 37), some (.int p1_70), some (.int p2_70), none, none, none] [.int q0_70] w Q := by
  unfold bX8_readJob_70 at hf
  refine E_istore_n (ls' := [some (.ref 37), some (.int p1_70), some (.int p2_70), some (.int q0_70), none, none]) dX8_readJob_70 rfl rfl rfl ?_
  refine E_aload_n (v := 37) dX8_readJob_71 rfl ?_
  refine E_ldcS 10 dX8_readJob_72 rfl (by decide) rfl ?_
  obtain ⟨r19, w20, hc18, hf⟩ := bd2_some hf
  try dsimp only at hf
  refine E_callVi (rest := []) (ci := 8) cv_RX8_76 dX8_readJob_74 (MX8_passName (by decide) hc18) rfl sC_37 rfl (by decide) rfl rfl (fun _ => Nat.le_of_ble_eq_true rfl) ?_
  refine E_if_eq 90 dX8_readJob_77 (by decide) (fun hc22 => ?_) (fun hc22 => ?_)
  · rw [if_pos hc22] at hf
    refine E_iconst 0 dX8_readJob_90 ic_0 ?_
    obtain ⟨rfl, rfl⟩ := ret2 hf
    exact E.done (by rw [eQ]; exact ⟨rfl, Or.inl ⟨_, _, rfl, rfl, dX8_readJob_91, rfl, rfl⟩⟩)
  · rw [if_neg hc22] at hf
    refine E_aload_n (v := 37) dX8_readJob_80 rfl ?_
    refine E_iconst 0 dX8_readJob_81 ic_0 ?_
    refine E_bipush 60 dX8_readJob_82 bp_60 ?_
    obtain ⟨r24, w25, hc23, hf⟩ := bd2_some hf
    try dsimp only at hf
    refine E_callVi (rest := []) (ci := 8) cv_RX8_64 dX8_readJob_84 (MX8_passNumber hc23) rfl sC_37 rfl (by decide) rfl rfl (fun _ => Nat.le_of_ble_eq_true rfl) ?_
    refine E_if_ne 92 dX8_readJob_87 (by decide) (fun hc27 => ?_) (fun hc27 => ?_)
    · rw [if_pos hc27] at hf
      refine E_iconst 0 dX8_readJob_90 ic_0 ?_
      obtain ⟨rfl, rfl⟩ := ret2 hf
      exact E.done (by rw [eQ]; exact ⟨rfl, Or.inl ⟨_, _, rfl, rfl, dX8_readJob_91, rfl, rfl⟩⟩)
    · rw [if_neg hc27] at hf
      refine E_aload_n (v := 37) dX8_readJob_92 rfl ?_
      refine E_getI fg_RX8_39 dX8_readJob_93 sC_37 rfl ?_
      refine E_istore (ls' := [some (.ref 37), some (.int p1_70), some (.int p2_70), some (.int q0_70), some (.int (w25.1 37 7)), none]) dX8_readJob_96 rfl rfl rfl ?_
      refine E_aload_n (v := 37) dX8_readJob_98 rfl ?_
      refine E_ldcS 11 dX8_readJob_99 rfl (by decide) rfl ?_
      obtain ⟨r29, w30, hc28, hf⟩ := bd2_some hf
      try dsimp only at hf
      refine E_callVi (rest := []) (ci := 8) cv_RX8_76 dX8_readJob_101 (MX8_passName (by decide) hc28) rfl sC_37 rfl (by decide) rfl rfl (fun _ => Nat.le_of_ble_eq_true rfl) ?_
      refine E_if_eq 117 dX8_readJob_104 (by decide) (fun hc32 => ?_) (fun hc32 => ?_)
      · rw [if_pos hc32] at hf
        refine E_iconst 0 dX8_readJob_117 ic_0 ?_
        obtain ⟨rfl, rfl⟩ := ret2 hf
        exact E.done (by rw [eQ]; exact ⟨rfl, Or.inl ⟨_, _, rfl, rfl, dX8_readJob_118, rfl, rfl⟩⟩)
      · rw [if_neg hc32] at hf
        refine E_aload_n (v := 37) dX8_readJob_107 rfl ?_
        refine E_iconst 0 dX8_readJob_108 ic_0 ?_
        refine E_bipush 99 dX8_readJob_109 bp_99 ?_
        obtain ⟨r34, w35, hc33, hf⟩ := bd2_some hf
        try dsimp only at hf
        refine E_callVi (rest := []) (ci := 8) cv_RX8_64 dX8_readJob_111 (MX8_passNumber hc33) rfl sC_37 rfl (by decide) rfl rfl (fun _ => Nat.le_of_ble_eq_true rfl) ?_
        refine E_if_ne 119 dX8_readJob_114 (by decide) (fun hc37 => ?_) (fun hc37 => ?_)
        · rw [if_pos hc37] at hf
          refine E_iconst 0 dX8_readJob_117 ic_0 ?_
          obtain ⟨rfl, rfl⟩ := ret2 hf
          exact E.done (by rw [eQ]; exact ⟨rfl, Or.inl ⟨_, _, rfl, rfl, dX8_readJob_118, rfl, rfl⟩⟩)
        · rw [if_neg hc37] at hf
          refine E_aload_n (v := 37) dX8_readJob_119 rfl ?_
          refine E_getI fg_RX8_39 dX8_readJob_120 sC_37 rfl ?_
          refine E_istore (ls' := [some (.ref 37), some (.int p1_70), some (.int p2_70), some (.int q0_70), some (.int (w25.1 37 7)), some (.int (w35.1 37 7))]) dX8_readJob_123 rfl rfl rfl ?_
          refine E_aload_n (v := 37) dX8_readJob_125 rfl ?_
          obtain ⟨r39, w40, hc38, hf⟩ := bd2_some hf
          try dsimp only at hf
          refine E_callVi (rest := []) (ci := 8) cv_RX8_68 dX8_readJob_126 (MX8_passStop hc38) rfl sC_37 rfl (by decide) rfl rfl (fun _ => Nat.le_of_ble_eq_true rfl) ?_
          refine E_if_ne 134 dX8_readJob_129 (by decide) (fun hc42 => ?_) (fun hc42 => ?_)
          · rw [if_pos hc42] at hf
            refine E_iconst 0 dX8_readJob_132 ic_0 ?_
            obtain ⟨rfl, rfl⟩ := ret2 hf
            exact E.done (by rw [eQ]; exact ⟨rfl, Or.inl ⟨_, _, rfl, rfl, dX8_readJob_133, rfl, rfl⟩⟩)
          · rw [if_neg hc42] at hf
            refine E_aload_n (v := 37) dX8_readJob_134 rfl ?_
            refine E_getR fg_RX8_22 dX8_readJob_135 sC_37 rfl rC_37_2 (Nat.succ_ne_zero _) ?_
            refine E_iload_n (v := p1_70) dX8_readJob_138 rfl ?_
            refine E_iload_n (v := p2_70) dX8_readJob_139 rfl ?_
            refine E_iload_n (v := q0_70) dX8_readJob_140 rfl ?_
            refine E_iload (v := (w25.1 37 7)) dX8_readJob_141 rfl ?_
            refine E_iload (v := (w35.1 37 7)) dX8_readJob_143 rfl ?_
            obtain ⟨w44, hc43, hf⟩ := bd_some hf
            try dsimp only at hf
            refine E_callVv (rest := []) (ci := 4) cv_RX8_84 dX8_readJob_145 (MX4_add J_is39 hc43) rfl sC_39 rfl (by decide) rfl rfl (fun _ => Nat.le_of_ble_eq_true rfl) ?_
            refine E_iconst 1 dX8_readJob_148 ic_1 ?_
            obtain ⟨rfl, rfl⟩ := ret2 hf
            exact E.done (by rw [eQ]; exact ⟨rfl, Or.inl ⟨_, _, rfl, rfl, dX8_readJob_149, rfl, rfl⟩⟩)
set_option maxRecDepth 10000 in
set_option maxHeartbeats 2000000 in
theorem BX8_readJob_39 (N : Nat) (p1_39 : Int32) (w : AW) (rZ : Int32) (wZ : AW) {Q : Nat → List (Option Value) → List Value → AW → Prop} (eQ : Q = Qret cX8_readJob (some .boolean) (some (.int rZ)) wZ) (hf : bX8_readJob_39 N p1_39 w = some (rZ, wZ)) : E PC RX8 cX8_readJob 6 8 39 [some (.ref 37), some (.int p1_39), none, none, none, none] [] w Q := by
  unfold bX8_readJob_39 at hf
  refine E_aload_n (v := 37) dX8_readJob_39 rfl ?_
  refine E_iconst 1 dX8_readJob_40 ic_1 ?_
  refine E_bipush 9 dX8_readJob_41 bp_9 ?_
  obtain ⟨r9, w10, hc8, hf⟩ := bd2_some hf
  try dsimp only at hf
  refine E_callVi (rest := []) (ci := 8) cv_RX8_64 dX8_readJob_43 (MX8_passNumber hc8) rfl sC_37 rfl (by decide) rfl rfl (fun _ => Nat.le_of_ble_eq_true rfl) ?_
  refine E_if_ne 51 dX8_readJob_46 (by decide) (fun hc12 => ?_) (fun hc12 => ?_)
  · rw [if_pos hc12] at hf
    refine E_iconst 0 dX8_readJob_49 ic_0 ?_
    obtain ⟨rfl, rfl⟩ := ret2 hf
    exact E.done (by rw [eQ]; exact ⟨rfl, Or.inl ⟨_, _, rfl, rfl, dX8_readJob_50, rfl, rfl⟩⟩)
  · rw [if_neg hc12] at hf
    refine E_aload_n (v := 37) dX8_readJob_51 rfl ?_
    refine E_getI fg_RX8_39 dX8_readJob_52 sC_37 rfl ?_
    refine E_istore_n (ls' := [some (.ref 37), some (.int p1_39), some (.int (w10.1 37 7)), none, none, none]) dX8_readJob_55 rfl rfl rfl ?_
    refine E_aload_n (v := 37) dX8_readJob_56 rfl ?_
    refine E_ldcS 9 dX8_readJob_57 rfl (by decide) rfl ?_
    obtain ⟨r14, w15, hc13, hf⟩ := bd2_some hf
    try dsimp only at hf
    refine E_callVi (rest := []) (ci := 8) cv_RX8_76 dX8_readJob_59 (MX8_passName (by decide) hc13) rfl sC_37 rfl (by decide) rfl rfl (fun _ => Nat.le_of_ble_eq_true rfl) ?_
    refine E_if_eq 69 dX8_readJob_62 (by decide) (fun hc17 => ?_) (fun hc17 => ?_)
    · rw [if_pos hc17] at hf
      refine E_iconst 0 dX8_readJob_69 ic_0 ?_
      exact BX8_readJob_70 N p1_39 (w10.1 37 7) 0 w15  rZ wZ eQ hf
    · rw [if_neg hc17] at hf
      refine E_iconst 1 dX8_readJob_65 ic_1 ?_
      refine E_goto 70 dX8_readJob_66 (by decide) ?_
      exact BX8_readJob_70 N p1_39 (w10.1 37 7) 1 w15  rZ wZ eQ hf
set_option maxRecDepth 10000 in
set_option maxHeartbeats 2000000 in
theorem MX8_readJob {N : Nat} {w : AW} {rZ : Int32} {wZ : AW} (hf : fX8_readJob N w = some (rZ, wZ)) : CallOK PC yX8_readJob cX8_readJob 6 (some .boolean) 8 [.ref 37] w (some (.int rZ)) wZ := by
  refine CallOK.of (ls := [some (.ref 37), none, none, none, none, none]) (by decide) (by simp) rfl rfl ?_
  obtain ⟨Q, eQ⟩ : ∃ Q, Q = Qret cX8_readJob (some .boolean) (some (.int rZ)) wZ := ⟨_, rfl⟩
  rw [← eQ]
  unfold fX8_readJob at hf
  refine E_aload_n (v := 37) dX8_readJob_0 rfl ?_
  refine E_getR fg_RX8_22 dX8_readJob_1 sC_37 rfl rC_37_2 (Nat.succ_ne_zero _) ?_
  refine E_getI fg_RX8_42 dX8_readJob_4 sC_39 rfl ?_
  refine E_bipush 6 dX8_readJob_7 bp_6 ?_
  refine E_icmp_lt 14 dX8_readJob_9 (by decide) (fun hc1 => ?_) (fun hc1 => ?_)
  · rw [if_pos hc1] at hf
    refine E_iconst 0 dX8_readJob_14 ic_0 ?_
    refine E_istore_n (ls' := [some (.ref 37), some (.int 0), none, none, none, none]) dX8_readJob_15 rfl rfl rfl ?_
    refine E_aload_n (v := 37) dX8_readJob_16 rfl ?_
    refine E_getI fg_RX8_30 dX8_readJob_17 sC_37 rfl ?_
    refine E_iconst 1 dX8_readJob_20 ic_1 ?_
    refine E_icmp_ne 39 dX8_readJob_21 (by decide) (fun hc2 => ?_) (fun hc2 => ?_)
    · rw [if_pos hc2] at hf
      refine E_aload_n (v := 37) dX8_readJob_24 rfl ?_
      obtain ⟨r4, hc3, hf⟩ := bd_some hf
      try dsimp only at hf
      refine E_callVi (rest := []) (ci := 8) cv_RX8_71 dX8_readJob_25 (MX8_kindNamed hc3) rfl sC_37 rfl (by decide) rfl rfl (fun _ => Nat.le_of_ble_eq_true rfl) ?_
      refine E_istore_n (ls' := [some (.ref 37), some (.int r4), none, none, none, none]) dX8_readJob_28 rfl rfl rfl ?_
      refine E_iload_n (v := r4) dX8_readJob_29 rfl ?_
      refine E_if_ge 35 dX8_readJob_30 (by decide) (fun hc5 => ?_) (fun hc5 => ?_)
      · rw [if_pos hc5] at hf
        refine E_aload_n (v := 37) dX8_readJob_35 rfl ?_
        obtain ⟨w7, hc6, hf⟩ := bd_some hf
        try dsimp only at hf
        refine E_callVv (rest := []) (ci := 8) cv_RX8_43 dX8_readJob_36 (MX8_next hc6) rfl sC_37 rfl (by decide) rfl rfl (fun _ => Nat.le_of_ble_eq_true rfl) ?_
        exact BX8_readJob_39 N r4 w7  rZ wZ eQ hf
      · rw [if_neg hc5] at hf
        refine E_iconst 0 dX8_readJob_33 ic_0 ?_
        obtain ⟨rfl, rfl⟩ := ret2 hf
        exact E.done (by rw [eQ]; exact ⟨rfl, Or.inl ⟨_, _, rfl, rfl, dX8_readJob_34, rfl, rfl⟩⟩)
    · rw [if_neg hc2] at hf
      exact BX8_readJob_39 N 0 w  rZ wZ eQ hf
  · rw [if_neg hc1] at hf
    refine E_iconst 0 dX8_readJob_12 ic_0 ?_
    obtain ⟨rfl, rfl⟩ := ret2 hf
    exact E.done (by rw [eQ]; exact ⟨rfl, Or.inl ⟨_, _, rfl, rfl, dX8_readJob_13, rfl, rfl⟩⟩)
set_option maxRecDepth 10000 in
set_option maxHeartbeats 2000000 in
theorem MX8_readLaw {N : Nat} {a0 : Int32} {w : AW} {rZ : Int32} {wZ : AW} (hf : fX8_readLaw N a0 w = some (rZ, wZ)) : CallOK PC yX8_readLaw cX8_readLaw 3 (some .boolean) 4 [.ref 37, .int a0] w (some (.int rZ)) wZ := by
  refine CallOK.of (ls := [some (.ref 37), some (.int a0), none]) (by decide) (by simp) rfl rfl ?_
  obtain ⟨Q, eQ⟩ : ∃ Q, Q = Qret cX8_readLaw (some .boolean) (some (.int rZ)) wZ := ⟨_, rfl⟩
  rw [← eQ]
  unfold fX8_readLaw at hf
  refine E_aload_n (v := 37) dX8_readLaw_0 rfl ?_
  obtain ⟨w2, hc1, hf⟩ := bd_some hf
  try dsimp only at hf
  refine E_callVv (rest := []) (ci := 8) cv_RX8_43 dX8_readLaw_1 (MX8_next hc1) rfl sC_37 rfl (by decide) rfl rfl (fun _ => Nat.le_of_ble_eq_true rfl) ?_
  refine E_aload_n (v := 37) dX8_readLaw_4 rfl ?_
  refine E_getsN (v := .retAddr 1) (fun _ _ _ _ h => st_least h) wn_RX8_58 dX8_readLaw_5 ?_
  refine E_iload_n (v := a0) dX8_readLaw_8 rfl ?_
  obtain ⟨hi3, hf⟩ := gd_some hf
  refine E_least dX8_readLaw_9 (inb_in hi3) ?_
  refine E_getsN (v := .retAddr 2) (fun _ _ _ _ h => st_most h) wn_RX8_61 dX8_readLaw_10 ?_
  refine E_iload_n (v := a0) dX8_readLaw_13 rfl ?_
  obtain ⟨hi4, hf⟩ := gd_some hf
  refine E_most dX8_readLaw_14 (inb_in hi4) ?_
  obtain ⟨r6, w7, hc5, hf⟩ := bd2_some hf
  try dsimp only at hf
  refine E_callVi (rest := []) (ci := 8) cv_RX8_64 dX8_readLaw_15 (MX8_passNumber hc5) rfl sC_37 rfl (by decide) rfl rfl (fun _ => Nat.le_of_ble_eq_true rfl) ?_
  refine E_if_ne 23 dX8_readLaw_18 (by decide) (fun hc9 => ?_) (fun hc9 => ?_)
  · rw [if_pos hc9] at hf
    refine E_iconst 0 dX8_readLaw_21 ic_0 ?_
    obtain ⟨rfl, rfl⟩ := ret2 hf
    exact E.done (by rw [eQ]; exact ⟨rfl, Or.inl ⟨_, _, rfl, rfl, dX8_readLaw_22, rfl, rfl⟩⟩)
  · rw [if_neg hc9] at hf
    refine E_aload_n (v := 37) dX8_readLaw_23 rfl ?_
    refine E_getI fg_RX8_39 dX8_readLaw_24 sC_37 rfl ?_
    refine E_istore_n (ls' := [some (.ref 37), some (.int a0), some (.int (w7.1 37 7))]) dX8_readLaw_27 rfl rfl rfl ?_
    refine E_aload_n (v := 37) dX8_readLaw_28 rfl ?_
    obtain ⟨r11, w12, hc10, hf⟩ := bd2_some hf
    try dsimp only at hf
    refine E_callVi (rest := []) (ci := 8) cv_RX8_68 dX8_readLaw_29 (MX8_passStop hc10) rfl sC_37 rfl (by decide) rfl rfl (fun _ => Nat.le_of_ble_eq_true rfl) ?_
    refine E_if_ne 37 dX8_readLaw_32 (by decide) (fun hc14 => ?_) (fun hc14 => ?_)
    · rw [if_pos hc14] at hf
      refine E_iconst 0 dX8_readLaw_35 ic_0 ?_
      obtain ⟨rfl, rfl⟩ := ret2 hf
      exact E.done (by rw [eQ]; exact ⟨rfl, Or.inl ⟨_, _, rfl, rfl, dX8_readLaw_36, rfl, rfl⟩⟩)
    · rw [if_neg hc14] at hf
      refine E_aload_n (v := 37) dX8_readLaw_37 rfl ?_
      refine E_getR fg_RX8_26 dX8_readLaw_38 sC_37 rfl rC_37_3 (Nat.succ_ne_zero _) ?_
      refine E_iload_n (v := a0) dX8_readLaw_41 rfl ?_
      refine E_iload_n (v := (w7.1 37 7)) dX8_readLaw_42 rfl ?_
      obtain ⟨hi15, hf⟩ := gd_some hf
      obtain ⟨w16, ew16, hf⟩ := lw_some hf
      try dsimp only at hf
      refine E_iast (n := 4) dX8_readLaw_43 sC_45 (by decide) (inb_in hi15) ?_
      rw [← ew16]
      refine E_iconst 1 dX8_readLaw_44 ic_1 ?_
      obtain ⟨rfl, rfl⟩ := ret2 hf
      exact E.done (by rw [eQ]; exact ⟨rfl, Or.inl ⟨_, _, rfl, rfl, dX8_readLaw_45, rfl, rfl⟩⟩)
set_option maxRecDepth 10000 in
set_option maxHeartbeats 2000000 in
theorem MX8_read {N : Nat} {w : AW} {rZ : Int32} {wZ : AW} (hf : fX8_read N w = some (rZ, wZ)) : CallOK PC yX8_read cX8_read 4 (some .int) 9 [.ref 37] w (some (.int rZ)) wZ := by
  refine CallOK.of (ls := [some (.ref 37), none, none, none]) (by decide) (by simp) rfl rfl ?_
  obtain ⟨Q, eQ⟩ : ∃ Q, Q = Qret cX8_read (some .int) (some (.int rZ)) wZ := ⟨_, rfl⟩
  rw [← eQ]
  unfold fX8_read at hf
  refine E_aload_n (v := 37) dX8_read_0 rfl ?_
  refine E_getR fg_RX8_22 dX8_read_1 sC_37 rfl rC_37_2 (Nat.succ_ne_zero _) ?_
  refine E_iconst 0 dX8_read_4 ic_0 ?_
  obtain ⟨w1, ew1, hf⟩ := lw_some hf
  try dsimp only at hf
  refine E_putI fp_RX8_42 dX8_read_5 sC_39 rfl rfl rfl ?_
  rw [← ew1]
  refine E_iconst 0 dX8_read_8 ic_0 ?_
  refine E_istore_n (ls' := [some (.ref 37), some (.int 0), none, none]) dX8_read_9 rfl rfl rfl ?_
  obtain ⟨q, hw5, hf⟩ := bd_some hf
  try dsimp only at hf
  show (fun (s : Int32 × AW) => E PC RX8 cX8_read 4 9 10 [some (.ref 37), some (.int s.1), none, none] [] s.2 Q) (0, w1)
  refine wh_E (K := (fun (s : Int32 × AW) => E PC RX8 cX8_read 4 9 10 [some (.ref 37), some (.int s.1), none, none] [] s.2 Q)) (X := (fun (s : AW) => E PC RX8 cX8_read 4 9 28 [some (.ref 37), none, none, none] [] s Q)) ?_ hw5 ?_
  · intro s9 z9 hf k9
    obtain ⟨x1_10_1, w_10_1⟩ := s9
    dsimp only [lbX8_read_10_1] at hf
    show E PC RX8 cX8_read 4 9 10 [some (.ref 37), some (.int x1_10_1), none, none] [] w_10_1 Q
    refine E_iload_n (v := x1_10_1) dX8_read_10 rfl ?_
    refine E_iconst 4 dX8_read_11 ic_4 ?_
    refine E_icmp_ge 28 dX8_read_12 (by decide) (fun hc2 => ?_) (fun hc2 => ?_)
    · rw [if_pos hc2] at hf
      obtain rfl := Option.some.inj hf
      refine E.fewer (ls' := [some (.ref 37), none, none, none]) ⟨Or.inr rfl, ⟨Or.inl rfl, ⟨Or.inl rfl, ⟨Or.inl rfl, trivial⟩⟩⟩⟩ ?_
      exact k9
    · rw [if_neg hc2] at hf
      refine E_aload_n (v := 37) dX8_read_15 rfl ?_
      refine E_getR fg_RX8_26 dX8_read_16 sC_37 rfl rC_37_3 (Nat.succ_ne_zero _) ?_
      refine E_iload_n (v := x1_10_1) dX8_read_19 rfl ?_
      refine E_iconst (-1) dX8_read_20 ic_m1 ?_
      obtain ⟨hi3, hf⟩ := gd_some hf
      obtain ⟨w4, ew4, hf⟩ := lw_some hf
      try dsimp only at hf
      refine E_iast (n := 4) dX8_read_21 sC_45 (by decide) (inb_in hi3) ?_
      rw [← ew4]
      refine E_iinc (ls' := [some (.ref 37), some (.int (x1_10_1 + 1)), none, none]) 1 dX8_read_22 rfl ic_1 rfl rfl rfl ?_
      refine E_goto 10 dX8_read_25 (by decide) ?_
      obtain rfl := Option.some.inj hf
      exact k9
  · skip
    obtain ⟨w6, hq9⟩ : ∃ a, a = q := ⟨_, rfl⟩
    subst hq9
    try dsimp only at hf
    show E PC RX8 cX8_read 4 9 28 [some (.ref 37), none, none, none] [] w6 Q
    refine E_aload_n (v := 37) dX8_read_28 rfl ?_
    refine E_iconst 0 dX8_read_29 ic_0 ?_
    obtain ⟨w7, ew7, hf⟩ := lw_some hf
    try dsimp only at hf
    refine E_putI fp_RX8_36 dX8_read_30 sC_37 rfl rfl rfl ?_
    rw [← ew7]
    refine E_aload_n (v := 37) dX8_read_33 rfl ?_
    obtain ⟨w9, hc8, hf⟩ := bd_some hf
    try dsimp only at hf
    refine E_callVv (rest := []) (ci := 8) cv_RX8_43 dX8_read_34 (MX8_next hc8) rfl sC_37 rfl (by decide) rfl rfl (fun _ => Nat.le_of_ble_eq_true rfl) ?_
    refine E_iconst 0 dX8_read_37 ic_0 ?_
    refine E_istore_n (ls' := [some (.ref 37), some (.int 0), none, none]) dX8_read_38 rfl rfl rfl ?_
    obtain ⟨q, hw25, hf⟩ := bd_some hf
    try dsimp only at hf
    show (fun (s : Int32 × AW) => E PC RX8 cX8_read 4 9 39 [some (.ref 37), some (.int s.1), none, none] [] s.2 Q) (0, w9)
    refine wh_E (K := (fun (s : Int32 × AW) => E PC RX8 cX8_read 4 9 39 [some (.ref 37), some (.int s.1), none, none] [] s.2 Q)) (X := (se (fun (s : AW) => E PC RX8 cX8_read 4 9 90 [none, none, none, none] [] s Q) (fun (s : AW) => E PC RX8 cX8_read 4 9 79 [some (.ref 37), none, none, none] [] s Q))) ?_ hw25 ?_
    · intro s9 z9 hf k9
      obtain ⟨x1_39_2, w_39_2⟩ := s9
      dsimp only [lbX8_read_39_2] at hf
      show E PC RX8 cX8_read 4 9 39 [some (.ref 37), some (.int x1_39_2), none, none] [] w_39_2 Q
      refine E_iload_n (v := x1_39_2) dX8_read_39 rfl ?_
      refine E_sipush 200 dX8_read_40 sp_200 ?_
      refine E_icmp_ge 90 dX8_read_43 (by decide) (fun hc10 => ?_) (fun hc10 => ?_)
      · rw [if_pos hc10] at hf
        obtain rfl := Option.some.inj hf
        refine E.fewer (ls' := [none, none, none, none]) ⟨Or.inl rfl, ⟨Or.inl rfl, ⟨Or.inl rfl, ⟨Or.inl rfl, trivial⟩⟩⟩⟩ ?_
        exact k9
      · rw [if_neg hc10] at hf
        refine E_aload_n (v := 37) dX8_read_46 rfl ?_
        refine E_getI fg_RX8_30 dX8_read_47 sC_37 rfl ?_
        refine E_if_eq 90 dX8_read_50 (by decide) (fun hc11 => ?_) (fun hc11 => ?_)
        · rw [if_pos hc11] at hf
          obtain rfl := Option.some.inj hf
          refine E.fewer (ls' := [none, none, none, none]) ⟨Or.inl rfl, ⟨Or.inl rfl, ⟨Or.inl rfl, ⟨Or.inl rfl, trivial⟩⟩⟩⟩ ?_
          exact k9
        · rw [if_neg hc11] at hf
          refine E_aload_n (v := 37) dX8_read_53 rfl ?_
          obtain ⟨r13, hc12, hf⟩ := bd_some hf
          try dsimp only at hf
          refine E_callVi (rest := []) (ci := 8) cv_RX8_46 dX8_read_54 (MX8_lawNamed hc12) rfl sC_37 rfl (by decide) rfl rfl (fun _ => Nat.le_of_ble_eq_true rfl) ?_
          refine E_istore_n (ls' := [some (.ref 37), some (.int x1_39_2), some (.int r13), none]) dX8_read_57 rfl rfl rfl ?_
          refine E_iload_n (v := r13) dX8_read_58 rfl ?_
          refine E_if_lt 70 dX8_read_59 (by decide) (fun hc14 => ?_) (fun hc14 => ?_)
          · rw [if_pos hc14] at hf
            refine E_aload_n (v := 37) dX8_read_70 rfl ?_
            obtain ⟨r16, w17, hc15, hf⟩ := bd2_some hf
            try dsimp only at hf
            refine E_callVi (rest := []) (ci := 8) cv_RX8_54 dX8_read_71 (MX8_readJob hc15) rfl sC_37 rfl (by decide) rfl rfl (fun _ => Nat.le_of_ble_eq_true rfl) ?_
            refine E_istore_n (ls' := [some (.ref 37), some (.int x1_39_2), some (.int r13), some (.int r16)]) dX8_read_74 rfl rfl rfl ?_
            refine E_iload_n (v := r16) dX8_read_75 rfl ?_
            refine E_if_ne 84 dX8_read_76 (by decide) (fun hc19 => ?_) (fun hc19 => ?_)
            · rw [if_pos hc19] at hf
              obtain rfl := Option.some.inj hf
              refine E.fewer (ls' := [some (.ref 37), none, none, none]) ⟨Or.inr rfl, ⟨Or.inl rfl, ⟨Or.inl rfl, ⟨Or.inl rfl, trivial⟩⟩⟩⟩ ?_
              exact k9
            · rw [if_neg hc19] at hf
              refine E_iinc (ls' := [some (.ref 37), some (.int (x1_39_2 + 1)), some (.int r13), some (.int r16)]) 1 dX8_read_84 rfl ic_1 rfl rfl rfl ?_
              refine E_goto 39 dX8_read_87 (by decide) ?_
              obtain rfl := Option.some.inj hf
              refine E.fewer (ls' := [some (.ref 37), some (.int (x1_39_2 + 1)), none, none]) ⟨Or.inr rfl, ⟨Or.inr rfl, ⟨Or.inl rfl, ⟨Or.inl rfl, trivial⟩⟩⟩⟩ ?_
              exact k9
          · rw [if_neg hc14] at hf
            refine E_aload_n (v := 37) dX8_read_62 rfl ?_
            refine E_iload_n (v := r13) dX8_read_63 rfl ?_
            obtain ⟨r21, w22, hc20, hf⟩ := bd2_some hf
            try dsimp only at hf
            refine E_callVi (rest := []) (ci := 8) cv_RX8_50 dX8_read_64 (MX8_readLaw hc20) rfl sC_37 rfl (by decide) rfl rfl (fun _ => Nat.le_of_ble_eq_true rfl) ?_
            refine E_goto 74 dX8_read_67 (by decide) ?_
            refine E_istore_n (ls' := [some (.ref 37), some (.int x1_39_2), some (.int r13), some (.int r21)]) dX8_read_74 rfl rfl rfl ?_
            refine E_iload_n (v := r21) dX8_read_75 rfl ?_
            refine E_if_ne 84 dX8_read_76 (by decide) (fun hc24 => ?_) (fun hc24 => ?_)
            · rw [if_pos hc24] at hf
              obtain rfl := Option.some.inj hf
              refine E.fewer (ls' := [some (.ref 37), none, none, none]) ⟨Or.inr rfl, ⟨Or.inl rfl, ⟨Or.inl rfl, ⟨Or.inl rfl, trivial⟩⟩⟩⟩ ?_
              exact k9
            · rw [if_neg hc24] at hf
              refine E_iinc (ls' := [some (.ref 37), some (.int (x1_39_2 + 1)), some (.int r13), some (.int r21)]) 1 dX8_read_84 rfl ic_1 rfl rfl rfl ?_
              refine E_goto 39 dX8_read_87 (by decide) ?_
              obtain rfl := Option.some.inj hf
              refine E.fewer (ls' := [some (.ref 37), some (.int (x1_39_2 + 1)), none, none]) ⟨Or.inr rfl, ⟨Or.inr rfl, ⟨Or.inl rfl, ⟨Or.inl rfl, trivial⟩⟩⟩⟩ ?_
              exact k9
    · skip
      rcases q with q | q
      · dsimp only [se] at hf
        obtain ⟨w26, hq9⟩ : ∃ a, a = q := ⟨_, rfl⟩
        subst hq9
        try dsimp only at hf
        show E PC RX8 cX8_read 4 9 90 [none, none, none, none] [] w26 Q
        refine E_iconst (-1) dX8_read_90 ic_m1 ?_
        obtain ⟨rfl, rfl⟩ := ret2 hf
        exact E.done (by rw [eQ]; exact ⟨rfl, Or.inl ⟨_, _, rfl, rfl, dX8_read_91, rfl, rfl⟩⟩)
      · dsimp only [se] at hf
        obtain ⟨w27, hq9⟩ : ∃ a, a = q := ⟨_, rfl⟩
        subst hq9
        try dsimp only at hf
        show E PC RX8 cX8_read 4 9 79 [some (.ref 37), none, none, none] [] w27 Q
        refine E_aload_n (v := 37) dX8_read_79 rfl ?_
        refine E_getI fg_RX8_33 dX8_read_80 sC_37 rfl ?_
        obtain ⟨rfl, rfl⟩ := ret2 hf
        exact E.done (by rw [eQ]; exact ⟨rfl, Or.inl ⟨_, _, rfl, rfl, dX8_read_83, rfl, rfl⟩⟩)
set_option maxRecDepth 10000 in
set_option maxHeartbeats 2000000 in
theorem MX8_useUp {w : AW} {wZ : AW} (hf : fX8_useUp w = some wZ) : CallOK PC yX8_useUp cX8_useUp 1 none 1 [.ref 37] w none wZ := by
  refine CallOK.of (ls := [some (.ref 37)]) (by decide) (by simp) rfl rfl ?_
  obtain ⟨Q, eQ⟩ : ∃ Q, Q = Qret cX8_useUp none none wZ := ⟨_, rfl⟩
  rw [← eQ]
  unfold fX8_useUp at hf
  refine E_aload_n (v := 37) dX8_useUp_0 rfl ?_
  refine E_iconst 0 dX8_useUp_1 ic_0 ?_
  obtain ⟨w1, ew1, hf⟩ := lw_some hf
  try dsimp only at hf
  refine E_putI fp_RX8_15 dX8_useUp_2 sC_37 rfl rfl rfl ?_
  rw [← ew1]
  obtain rfl := Option.some.inj hf
  exact E.done (by rw [eQ]; exact ⟨rfl, Or.inr ⟨rfl, rfl, dX8_useUp_5, rfl⟩⟩)
set_option maxRecDepth 10000 in
set_option maxHeartbeats 2000000 in
theorem MX11_board {N : Nat} {w : AW} {rZ : Int32} {wZ : AW} (hf : fX11_board N w = some (rZ, wZ)) : CallOK PC yX11_board cX11_board 2 (some .int) 10 [.ref 0] w (some (.int rZ)) wZ := by
  refine CallOK.of (ls := [some (.ref 0), none]) (by decide) (by simp) rfl rfl ?_
  obtain ⟨Q, eQ⟩ : ∃ Q, Q = Qret cX11_board (some .int) (some (.int rZ)) wZ := ⟨_, rfl⟩
  rw [← eQ]
  unfold fX11_board at hf
  refine E_aload_n (v := 0) dX11_board_0 rfl ?_
  refine E_getR fg_RX11_36 dX11_board_1 sC_0 rfl rC_0_5 (Nat.succ_ne_zero _) ?_
  obtain ⟨r2, w3, hc1, hf⟩ := bd2_some hf
  try dsimp only at hf
  refine E_callVi (rest := []) (ci := 8) cv_RX11_108 dX11_board_4 (MX8_read hc1) rfl sC_37 rfl (by decide) rfl rfl (fun _ => Nat.le_of_ble_eq_true rfl) ?_
  refine E_istore_n (ls' := [some (.ref 0), some (.int r2)]) dX11_board_7 rfl rfl rfl ?_
  refine E_aload_n (v := 0) dX11_board_8 rfl ?_
  refine E_getR fg_RX11_36 dX11_board_9 sC_0 rfl rC_0_5 (Nat.succ_ne_zero _) ?_
  obtain ⟨w6, hc5, hf⟩ := bd_some hf
  try dsimp only at hf
  refine E_callVv (rest := []) (ci := 8) cv_RX11_112 dX11_board_12 (MX8_useUp hc5) rfl sC_37 rfl (by decide) rfl rfl (fun _ => Nat.le_of_ble_eq_true rfl) ?_
  refine E_iload_n (v := r2) dX11_board_15 rfl ?_
  refine E_if_lt 24 dX11_board_16 (by decide) (fun hc7 => ?_) (fun hc7 => ?_)
  · rw [if_pos hc7] at hf
    refine E_aload_n (v := 0) dX11_board_24 rfl ?_
    refine E_getR fg_RX11_10 dX11_board_25 sC_0 rfl rC_0_0 (Nat.succ_ne_zero _) ?_
    refine E_aload_n (v := 0) dX11_board_28 rfl ?_
    refine E_getR fg_RX11_36 dX11_board_29 sC_0 rfl rC_0_5 (Nat.succ_ne_zero _) ?_
    refine E_getR fg_RX11_115 dX11_board_32 sC_37 rfl rC_37_2 (Nat.succ_ne_zero _) ?_
    refine E_aload_n (v := 0) dX11_board_35 rfl ?_
    refine E_getR fg_RX11_36 dX11_board_36 sC_0 rfl rC_0_5 (Nat.succ_ne_zero _) ?_
    refine E_getR fg_RX11_118 dX11_board_39 sC_37 rfl rC_37_3 (Nat.succ_ne_zero _) ?_
    obtain ⟨w9, hc8, hf⟩ := bd_some hf
    try dsimp only at hf
    refine E_callVv (rest := []) (ci := 1) cv_RX11_122 dX11_board_42 (MX1_begin B_is1 J_is39 sC_45 hc8) rfl sC_1 rfl (by decide) rfl rfl (fun _ => Nat.le_of_ble_eq_true rfl) ?_
    refine E_aload_n (v := 0) dX11_board_45 rfl ?_
    refine E_getR fg_RX11_75 dX11_board_46 sC_0 rfl rC_0_10 (Nat.succ_ne_zero _) ?_
    refine E_iconst 0 dX11_board_49 ic_0 ?_
    obtain ⟨w10, ew10, hf⟩ := lw_some hf
    try dsimp only at hf
    refine E_putI fp_RX11_126 dX11_board_50 sC_59 rfl rfl rfl ?_
    rw [← ew10]
    refine E_aload_n (v := 0) dX11_board_53 rfl ?_
    refine E_getR fg_RX11_10 dX11_board_54 sC_0 rfl rC_0_0 (Nat.succ_ne_zero _) ?_
    refine E_getR fg_RX11_130 dX11_board_57 sC_1 rfl rC_1_0 (Nat.succ_ne_zero _) ?_
    refine E_getI fg_RX11_131 dX11_board_60 sC_2 rfl ?_
    obtain ⟨rfl, rfl⟩ := ret2 hf
    exact E.done (by rw [eQ]; exact ⟨rfl, Or.inl ⟨_, _, rfl, rfl, dX11_board_63, rfl, rfl⟩⟩)
  · rw [if_neg hc7] at hf
    refine E_bipush (-100) dX11_board_19 bp_m100 ?_
    refine E_iload_n (v := r2) dX11_board_21 rfl ?_
    refine E_isub dX11_board_22 ?_
    obtain ⟨rfl, rfl⟩ := ret2 hf
    exact E.done (by rw [eQ]; exact ⟨rfl, Or.inl ⟨_, _, rfl, rfl, dX11_board_23, rfl, rfl⟩⟩)
set_option maxRecDepth 10000 in
set_option maxHeartbeats 2000000 in
theorem MX10_next {N : Nat} {t : Nat} {w : AW} {rZ : Int32} {wZ : AW} (ht : isT t) (hf : fX10_next N t w = some (rZ, wZ)) : CallOK PC yX10_next cX10_next 4 (some .int) 1 [.ref t] w (some (.int rZ)) wZ := by
  refine CallOK.of (ls := [some (.ref t), none, none, none]) (by decide) (by simp) rfl rfl ?_
  obtain ⟨Q, eQ⟩ : ∃ Q, Q = Qret cX10_next (some .int) (some (.int rZ)) wZ := ⟨_, rfl⟩
  rw [← eQ]
  unfold fX10_next at hf
  refine E_aload_n (v := t) dX10_next_0 rfl ?_
  refine E_aload_n (v := t) dX10_next_1 rfl ?_
  refine E_getI fg_RX10_15 dX10_next_2 (T_s0 ht) rfl ?_
  refine E_ldc 1103515245 dX10_next_5 wk_RX10_37 ?_
  refine E_imul dX10_next_7 ?_
  refine E_sipush 12345 dX10_next_8 sp_12345 ?_
  refine E_iadd dX10_next_11 ?_
  obtain ⟨w1, ew1, hf⟩ := lw_some hf
  try dsimp only at hf
  refine E_putI fp_RX10_15 dX10_next_12 (T_s0 ht) rfl rfl rfl ?_
  rw [← ew1]
  refine E_aload_n (v := t) dX10_next_15 rfl ?_
  refine E_getI fg_RX10_15 dX10_next_16 (T_s0 ht) rfl ?_
  refine E_bipush 16 dX10_next_19 bp_16 ?_
  refine E_iushr dX10_next_21 ?_
  refine E_iconst 4 dX10_next_22 ic_4 ?_
  refine E_irem dX10_next_23 (by decide) ?_
  obtain ⟨v2, ev2, hf⟩ := lw_some hf
  try dsimp only at hf
  rw [← ev2]
  refine E_istore_n (ls' := [some (.ref t), some (.int v2), none, none]) dX10_next_24 rfl rfl rfl ?_
  refine E_iconst 0 dX10_next_25 ic_0 ?_
  refine E_istore_n (ls' := [some (.ref t), some (.int v2), some (.int 0), none]) dX10_next_26 rfl rfl rfl ?_
  refine E_iconst 0 dX10_next_27 ic_0 ?_
  refine E_istore_n (ls' := [some (.ref t), some (.int v2), some (.int 0), some (.int 0)]) dX10_next_28 rfl rfl rfl ?_
  obtain ⟨q, hw7, hf⟩ := bd_some hf
  try dsimp only at hf
  show (fun (s : Int32 × Int32) => E PC RX10 cX10_next 4 1 29 [some (.ref t), some (.int v2), some (.int s.1), some (.int s.2)] [] w1 Q) (0, 0)
  refine wh_E (K := (fun (s : Int32 × Int32) => E PC RX10 cX10_next 4 1 29 [some (.ref t), some (.int v2), some (.int s.1), some (.int s.2)] [] w1 Q)) (X := (se (fun (s : Unit) => E PC RX10 cX10_next 4 1 59 [none, none, none, none] [] w1 Q) (fun (s : Int32) => E PC RX10 cX10_next 4 1 51 [none, none, none, some (.int s)] [] w1 Q))) ?_ hw7 ?_
  · intro s9 z9 hf k9
    obtain ⟨x2_29_1, x3_29_1⟩ := s9
    dsimp only [lbX10_next_29_1] at hf
    show E PC RX10 cX10_next 4 1 29 [some (.ref t), some (.int v2), some (.int x2_29_1), some (.int x3_29_1)] [] w1 Q
    refine E_iload_n (v := x3_29_1) dX10_next_29 rfl ?_
    refine E_aload_n (v := t) dX10_next_30 rfl ?_
    refine E_getI fg_RX10_9 dX10_next_31 (T_s0 ht) rfl ?_
    refine E_icmp_ge 59 dX10_next_34 (by decide) (fun hc3 => ?_) (fun hc3 => ?_)
    · rw [if_pos hc3] at hf
      obtain rfl := Option.some.inj hf
      refine E.fewer (ls' := [none, none, none, none]) ⟨Or.inl rfl, ⟨Or.inl rfl, ⟨Or.inl rfl, ⟨Or.inl rfl, trivial⟩⟩⟩⟩ ?_
      exact k9
    · rw [if_neg hc3] at hf
      refine E_iload_n (v := x2_29_1) dX10_next_37 rfl ?_
      refine E_aload_n (v := t) dX10_next_38 rfl ?_
      refine E_getR fg_RX10_34 dX10_next_39 (T_s0 ht) rfl (T_r0_7 ht) (Nat.succ_ne_zero _) ?_
      refine E_iload_n (v := x3_29_1) dX10_next_42 rfl ?_
      obtain ⟨hi4, hf⟩ := gd_some hf
      refine E_iald (n := 3) dX10_next_43 (T_s6 ht) (by decide) (inb_in hi4) ?_
      refine E_iadd dX10_next_44 ?_
      obtain ⟨v5, ev5, hf⟩ := lw_some hf
      try dsimp only at hf
      rw [← ev5]
      refine E_istore_n (ls' := [some (.ref t), some (.int v2), some (.int v5), some (.int x3_29_1)]) dX10_next_45 rfl rfl rfl ?_
      refine E_iload_n (v := v2) dX10_next_46 rfl ?_
      refine E_iload_n (v := v5) dX10_next_47 rfl ?_
      refine E_icmp_ge 53 dX10_next_48 (by decide) (fun hc6 => ?_) (fun hc6 => ?_)
      · rw [if_pos hc6] at hf
        refine E_iinc (ls' := [some (.ref t), some (.int v2), some (.int v5), some (.int (x3_29_1 + 1))]) 1 dX10_next_53 rfl ic_1 rfl rfl rfl ?_
        refine E_goto 29 dX10_next_56 (by decide) ?_
        obtain rfl := Option.some.inj hf
        exact k9
      · rw [if_neg hc6] at hf
        obtain rfl := Option.some.inj hf
        refine E.fewer (ls' := [none, none, none, some (.int x3_29_1)]) ⟨Or.inl rfl, ⟨Or.inl rfl, ⟨Or.inl rfl, ⟨Or.inr rfl, trivial⟩⟩⟩⟩ ?_
        exact k9
  · skip
    rcases q with q | q
    · dsimp only [se] at hf
      try dsimp only at hf
      show E PC RX10 cX10_next 4 1 59 [none, none, none, none] [] w1 Q
      refine E_bipush (-9) dX10_next_59 bp_m9 ?_
      obtain ⟨rfl, rfl⟩ := ret2 hf
      exact E.done (by rw [eQ]; exact ⟨rfl, Or.inl ⟨_, _, rfl, rfl, dX10_next_61, rfl, rfl⟩⟩)
    · dsimp only [se] at hf
      obtain ⟨y8, hq9⟩ : ∃ a, a = q := ⟨_, rfl⟩
      subst hq9
      try dsimp only at hf
      show E PC RX10 cX10_next 4 1 51 [none, none, none, some (.int y8)] [] w1 Q
      refine E_iload_n (v := y8) dX10_next_51 rfl ?_
      obtain ⟨rfl, rfl⟩ := ret2 hf
      exact E.done (by rw [eQ]; exact ⟨rfl, Or.inl ⟨_, _, rfl, rfl, dX10_next_52, rfl, rfl⟩⟩)
set_option maxRecDepth 10000 in
set_option maxHeartbeats 2000000 in
theorem MX11_comes {N : Nat} {w : AW} {rZ : Int32} {wZ : AW} (hf : fX11_comes N w = some (rZ, wZ)) : CallOK PC yX11_comes cX11_comes 1 (some .int) 2 [.ref 0] w (some (.int rZ)) wZ := by
  refine CallOK.of (ls := [some (.ref 0)]) (by decide) (by simp) rfl rfl ?_
  obtain ⟨Q, eQ⟩ : ∃ Q, Q = Qret cX11_comes (some .int) (some (.int rZ)) wZ := ⟨_, rfl⟩
  rw [← eQ]
  unfold fX11_comes at hf
  refine E_aload_n (v := 0) dX11_comes_0 rfl ?_
  refine E_getR fg_RX11_22 dX11_comes_1 sC_0 rfl rC_0_2 (Nat.succ_ne_zero _) ?_
  obtain ⟨r2, w3, hc1, hf⟩ := bd2_some hf
  try dsimp only at hf
  refine E_callVi (rest := []) (ci := 10) cv_RX11_275 dX11_comes_4 (MX10_next T_is23 hc1) rfl sC_23 rfl (by decide) rfl rfl (fun _ => Nat.le_of_ble_eq_true rfl) ?_
  obtain ⟨rfl, rfl⟩ := ret2 hf
  exact E.done (by rw [eQ]; exact ⟨rfl, Or.inl ⟨_, _, rfl, rfl, dX11_comes_7, rfl, rfl⟩⟩)
set_option maxRecDepth 10000 in
set_option maxHeartbeats 2000000 in
theorem MX1_leave {N : Nat} {b : Nat} {a0 : Int32} {w : AW} {wZ : AW} (hb : isB b) (hf : fX1_leave N b a0 w = some wZ) : CallOK PC yX1_leave cX1_leave 5 none 3 [.ref b, .int a0] w none wZ := by
  refine CallOK.of (ls := [some (.ref b), some (.int a0), none, none, none]) (by decide) (by simp) rfl rfl ?_
  obtain ⟨Q, eQ⟩ : ∃ Q, Q = Qret cX1_leave none none wZ := ⟨_, rfl⟩
  rw [← eQ]
  unfold fX1_leave at hf
  refine E_iconst 0 dX1_leave_0 ic_0 ?_
  refine E_istore_n (ls' := [some (.ref b), some (.int a0), some (.int 0), none, none]) dX1_leave_1 rfl rfl rfl ?_
  refine E_iconst 0 dX1_leave_2 ic_0 ?_
  refine E_istore_n (ls' := [some (.ref b), some (.int a0), some (.int 0), some (.int 0), none]) dX1_leave_3 rfl rfl rfl ?_
  obtain ⟨q, hw10, hf⟩ := bd_some hf
  try dsimp only at hf
  show (fun (s : Int32 × Int32 × AW) => E PC RX1 cX1_leave 5 3 4 [some (.ref b), some (.int a0), some (.int s.1), some (.int s.2.1), none] [] s.2.2 Q) (0, 0, w)
  refine wh_E (K := (fun (s : Int32 × Int32 × AW) => E PC RX1 cX1_leave 5 3 4 [some (.ref b), some (.int a0), some (.int s.1), some (.int s.2.1), none] [] s.2.2 Q)) (X := (fun (s : AW) => E PC RX1 cX1_leave 5 3 62 [some (.ref b), some (.int a0), none, none, none] [] s Q)) ?_ hw10 ?_
  · intro s9 z9 hf k9
    obtain ⟨x2_4_1, x3_4_1, w_4_1⟩ := s9
    dsimp only [lbX1_leave_4_1] at hf
    show E PC RX1 cX1_leave 5 3 4 [some (.ref b), some (.int a0), some (.int x2_4_1), some (.int x3_4_1), none] [] w_4_1 Q
    refine E_iload_n (v := x3_4_1) dX1_leave_4 rfl ?_
    refine E_aload_n (v := b) dX1_leave_5 rfl ?_
    refine E_getR fg_RX1_12 dX1_leave_6 (B_s0 hb) rfl (B_r0_0 hb) (Nat.succ_ne_zero _) ?_
    refine E_getI fg_RX1_54 dX1_leave_9 (B_s1 hb) rfl ?_
    refine E_icmp_ge 62 dX1_leave_12 (by decide) (fun hc1 => ?_) (fun hc1 => ?_)
    · rw [if_pos hc1] at hf
      obtain rfl := Option.some.inj hf
      refine E.fewer (ls' := [some (.ref b), some (.int a0), none, none, none]) ⟨Or.inr rfl, ⟨Or.inr rfl, ⟨Or.inl rfl, ⟨Or.inl rfl, ⟨Or.inl rfl, trivial⟩⟩⟩⟩⟩ ?_
      exact k9
    · rw [if_neg hc1] at hf
      refine E_aload_n (v := b) dX1_leave_15 rfl ?_
      refine E_getR fg_RX1_28 dX1_leave_16 (B_s0 hb) rfl (B_r0_4 hb) (Nat.succ_ne_zero _) ?_
      refine E_iload_n (v := x3_4_1) dX1_leave_19 rfl ?_
      obtain ⟨hi2, hf⟩ := gd_some hf
      refine E_iald (n := 6) dX1_leave_20 (B_s10 hb) (by decide) (inb_in hi2) ?_
      obtain ⟨v3, ev3, hf⟩ := lw_some hf
      try dsimp only at hf
      rw [← ev3]
      refine E_istore (ls' := [some (.ref b), some (.int a0), some (.int x2_4_1), some (.int x3_4_1), some (.int v3)]) dX1_leave_21 rfl rfl rfl ?_
      refine E_iload (v := v3) dX1_leave_23 rfl ?_
      refine E_iload_n (v := a0) dX1_leave_25 rfl ?_
      refine E_icmp_ne 32 dX1_leave_26 (by decide) (fun hc4 => ?_) (fun hc4 => ?_)
      · rw [if_pos hc4] at hf
        refine E_goto 56 dX1_leave_29 (by decide) ?_
        refine E_iinc (ls' := [some (.ref b), some (.int a0), some (.int x2_4_1), some (.int (x3_4_1 + 1)), some (.int v3)]) 1 dX1_leave_56 rfl ic_1 rfl rfl rfl ?_
        refine E_goto 4 dX1_leave_59 (by decide) ?_
        obtain rfl := Option.some.inj hf
        refine E.fewer (ls' := [some (.ref b), some (.int a0), some (.int x2_4_1), some (.int (x3_4_1 + 1)), none]) ⟨Or.inr rfl, ⟨Or.inr rfl, ⟨Or.inr rfl, ⟨Or.inr rfl, ⟨Or.inl rfl, trivial⟩⟩⟩⟩⟩ ?_
        exact k9
      · rw [if_neg hc4] at hf
        refine E_aload_n (v := b) dX1_leave_32 rfl ?_
        refine E_getR fg_RX1_28 dX1_leave_33 (B_s0 hb) rfl (B_r0_4 hb) (Nat.succ_ne_zero _) ?_
        refine E_iload_n (v := x2_4_1) dX1_leave_36 rfl ?_
        refine E_iload (v := v3) dX1_leave_37 rfl ?_
        refine E_iload_n (v := a0) dX1_leave_39 rfl ?_
        refine E_icmp_le 50 dX1_leave_40 (by decide) (fun hc5 => ?_) (fun hc5 => ?_)
        · rw [if_pos hc5] at hf
          refine E_iload (v := v3) dX1_leave_50 rfl ?_
          obtain ⟨hi6, hf⟩ := gd_some hf
          obtain ⟨w7, ew7, hf⟩ := lw_some hf
          try dsimp only at hf
          refine E_iast (n := 6) dX1_leave_52 (B_s10 hb) (by decide) (inb_in hi6) ?_
          rw [← ew7]
          refine E_iinc (ls' := [some (.ref b), some (.int a0), some (.int (x2_4_1 + 1)), some (.int x3_4_1), some (.int v3)]) 1 dX1_leave_53 rfl ic_1 rfl rfl rfl ?_
          refine E_iinc (ls' := [some (.ref b), some (.int a0), some (.int (x2_4_1 + 1)), some (.int (x3_4_1 + 1)), some (.int v3)]) 1 dX1_leave_56 rfl ic_1 rfl rfl rfl ?_
          refine E_goto 4 dX1_leave_59 (by decide) ?_
          obtain rfl := Option.some.inj hf
          refine E.fewer (ls' := [some (.ref b), some (.int a0), some (.int (x2_4_1 + 1)), some (.int (x3_4_1 + 1)), none]) ⟨Or.inr rfl, ⟨Or.inr rfl, ⟨Or.inr rfl, ⟨Or.inr rfl, ⟨Or.inl rfl, trivial⟩⟩⟩⟩⟩ ?_
          exact k9
        · rw [if_neg hc5] at hf
          refine E_iload (v := v3) dX1_leave_43 rfl ?_
          refine E_iconst 1 dX1_leave_45 ic_1 ?_
          refine E_isub dX1_leave_46 ?_
          refine E_goto 52 dX1_leave_47 (by decide) ?_
          obtain ⟨hi8, hf⟩ := gd_some hf
          obtain ⟨w9, ew9, hf⟩ := lw_some hf
          try dsimp only at hf
          refine E_iast (n := 6) dX1_leave_52 (B_s10 hb) (by decide) (inb_in hi8) ?_
          rw [← ew9]
          refine E_iinc (ls' := [some (.ref b), some (.int a0), some (.int (x2_4_1 + 1)), some (.int x3_4_1), some (.int v3)]) 1 dX1_leave_53 rfl ic_1 rfl rfl rfl ?_
          refine E_iinc (ls' := [some (.ref b), some (.int a0), some (.int (x2_4_1 + 1)), some (.int (x3_4_1 + 1)), some (.int v3)]) 1 dX1_leave_56 rfl ic_1 rfl rfl rfl ?_
          refine E_goto 4 dX1_leave_59 (by decide) ?_
          obtain rfl := Option.some.inj hf
          refine E.fewer (ls' := [some (.ref b), some (.int a0), some (.int (x2_4_1 + 1)), some (.int (x3_4_1 + 1)), none]) ⟨Or.inr rfl, ⟨Or.inr rfl, ⟨Or.inr rfl, ⟨Or.inr rfl, ⟨Or.inl rfl, trivial⟩⟩⟩⟩⟩ ?_
          exact k9
  · skip
    obtain ⟨w11, hq9⟩ : ∃ a, a = q := ⟨_, rfl⟩
    subst hq9
    try dsimp only at hf
    show E PC RX1 cX1_leave 5 3 62 [some (.ref b), some (.int a0), none, none, none] [] w11 Q
    refine E_aload_n (v := b) dX1_leave_62 rfl ?_
    refine E_getR fg_RX1_12 dX1_leave_63 (B_s0 hb) rfl (B_r0_0 hb) (Nat.succ_ne_zero _) ?_
    refine E_iload_n (v := a0) dX1_leave_66 rfl ?_
    obtain ⟨w13, hc12, hf⟩ := bd_some hf
    try dsimp only at hf
    refine E_callVv (rest := []) (ci := 4) cv_RX1_61 dX1_leave_67 (MX4_remove (B_j1 hb) hc12) rfl (B_s1 hb) rfl (by decide) rfl rfl (fun _ => Nat.le_of_ble_eq_true rfl) ?_
    obtain rfl := Option.some.inj hf
    exact E.done (by rw [eQ]; exact ⟨rfl, Or.inr ⟨rfl, rfl, dX1_leave_70, rfl⟩⟩)
set_option maxRecDepth 10000 in
set_option maxHeartbeats 2000000 in
theorem MX11_drop {N : Nat} {a0 : Int32} {w : AW} {rZ : Int32} {wZ : AW} (hf : fX11_drop N a0 w = some (rZ, wZ)) : CallOK PC yX11_drop cX11_drop 2 (some .int) 4 [.ref 0, .int a0] w (some (.int rZ)) wZ := by
  refine CallOK.of (ls := [some (.ref 0), some (.int a0)]) (by decide) (by simp) rfl rfl ?_
  obtain ⟨Q, eQ⟩ : ∃ Q, Q = Qret cX11_drop (some .int) (some (.int rZ)) wZ := ⟨_, rfl⟩
  rw [← eQ]
  unfold fX11_drop at hf
  refine E_aload_n (v := 0) dX11_drop_0 rfl ?_
  refine E_getR fg_RX11_10 dX11_drop_1 sC_0 rfl rC_0_0 (Nat.succ_ne_zero _) ?_
  refine E_getR fg_RX11_130 dX11_drop_4 sC_1 rfl rC_1_0 (Nat.succ_ne_zero _) ?_
  refine E_iload_n (v := a0) dX11_drop_7 rfl ?_
  obtain ⟨r2, hc1, hf⟩ := bd_some hf
  try dsimp only at hf
  refine E_callVi (rest := []) (ci := 4) cv_RX11_140 dX11_drop_8 (MX4_has J_is2 hc1) rfl sC_2 rfl (by decide) rfl rfl (fun _ => Nat.le_of_ble_eq_true rfl) ?_
  refine E_if_ne 16 dX11_drop_11 (by decide) (fun hc3 => ?_) (fun hc3 => ?_)
  · rw [if_pos hc3] at hf
    refine E_iconst (-1) dX11_drop_14 ic_m1 ?_
    obtain ⟨rfl, rfl⟩ := ret2 hf
    exact E.done (by rw [eQ]; exact ⟨rfl, Or.inl ⟨_, _, rfl, rfl, dX11_drop_15, rfl, rfl⟩⟩)
  · rw [if_neg hc3] at hf
    refine E_aload_n (v := 0) dX11_drop_16 rfl ?_
    refine E_getR fg_RX11_10 dX11_drop_17 sC_0 rfl rC_0_0 (Nat.succ_ne_zero _) ?_
    refine E_iload_n (v := a0) dX11_drop_20 rfl ?_
    obtain ⟨w5, hc4, hf⟩ := bd_some hf
    try dsimp only at hf
    refine E_callVv (rest := []) (ci := 1) cv_RX11_159 dX11_drop_21 (MX1_leave B_is1 hc4) rfl sC_1 rfl (by decide) rfl rfl (fun _ => Nat.le_of_ble_eq_true rfl) ?_
    refine E_aload_n (v := 0) dX11_drop_24 rfl ?_
    refine E_getR fg_RX11_10 dX11_drop_25 sC_0 rfl rC_0_0 (Nat.succ_ne_zero _) ?_
    refine E_getR fg_RX11_130 dX11_drop_28 sC_1 rfl rC_1_0 (Nat.succ_ne_zero _) ?_
    refine E_getI fg_RX11_131 dX11_drop_31 sC_2 rfl ?_
    obtain ⟨rfl, rfl⟩ := ret2 hf
    exact E.done (by rw [eQ]; exact ⟨rfl, Or.inl ⟨_, _, rfl, rfl, dX11_drop_34, rfl, rfl⟩⟩)
set_option maxRecDepth 10000 in
set_option maxHeartbeats 2000000 in
theorem MX3_follow {N : Nat} {o0 : Nat} {r1 : Nat} {w : AW} {wZ : AW} (ho0 : isJ o0) (hr1 : PC.1[r1]? = some 106) (hf : fX3_follow N o0 r1 w = some wZ) : CallOK PC yX3_follow cX3_follow 7 none 3 [.ref 46, .ref o0, .ref r1] w none wZ := by
  refine CallOK.of (ls := [some (.ref 46), some (.ref o0), some (.ref r1), none, none, none, none]) (by decide) (by simp) rfl rfl ?_
  obtain ⟨Q, eQ⟩ : ∃ Q, Q = Qret cX3_follow none none wZ := ⟨_, rfl⟩
  rw [← eQ]
  unfold fX3_follow at hf
  refine E_iconst 0 dX3_follow_0 ic_0 ?_
  refine E_istore_n (ls' := [some (.ref 46), some (.ref o0), some (.ref r1), some (.int 0), none, none, none]) dX3_follow_1 rfl rfl rfl ?_
  refine E_iconst 0 dX3_follow_2 ic_0 ?_
  refine E_istore (ls' := [some (.ref 46), some (.ref o0), some (.ref r1), some (.int 0), some (.int 0), none, none]) dX3_follow_3 rfl rfl rfl ?_
  refine E_iconst 0 dX3_follow_5 ic_0 ?_
  refine E_istore (ls' := [some (.ref 46), some (.ref o0), some (.ref r1), some (.int 0), some (.int 0), some (.int 0), none]) dX3_follow_6 rfl rfl rfl ?_
  obtain ⟨q, hw10, hf⟩ := bd_some hf
  try dsimp only at hf
  show (fun (s : Int32 × Int32 × Int32 × AW) => E PC RX3 cX3_follow 7 3 8 [some (.ref 46), some (.ref o0), some (.ref r1), some (.int s.1), some (.int s.2.1), some (.int s.2.2.1), none] [] s.2.2.2 Q) (0, 0, 0, w)
  refine wh_E (K := (fun (s : Int32 × Int32 × Int32 × AW) => E PC RX3 cX3_follow 7 3 8 [some (.ref 46), some (.ref o0), some (.ref r1), some (.int s.1), some (.int s.2.1), some (.int s.2.2.1), none] [] s.2.2.2 Q)) (X := (fun (s : AW) => E PC RX3 cX3_follow 7 3 61 [none, none, none, none, none, none, none] [] s Q)) ?_ hw10 ?_
  · intro s9 z9 hf k9
    obtain ⟨x3_8_1, x4_8_1, x5_8_1, w_8_1⟩ := s9
    dsimp only [lbX3_follow_8_1] at hf
    show E PC RX3 cX3_follow 7 3 8 [some (.ref 46), some (.ref o0), some (.ref r1), some (.int x3_8_1), some (.int x4_8_1), some (.int x5_8_1), none] [] w_8_1 Q
    refine E_iload (v := x5_8_1) dX3_follow_8 rfl ?_
    refine E_aload_n (v := o0) dX3_follow_10 rfl ?_
    refine E_getI fg_RX3_64 dX3_follow_11 (J_s0 ho0) rfl ?_
    refine E_icmp_ge 61 dX3_follow_14 (by decide) (fun hc1 => ?_) (fun hc1 => ?_)
    · rw [if_pos hc1] at hf
      obtain rfl := Option.some.inj hf
      refine E.fewer (ls' := [none, none, none, none, none, none, none]) ⟨Or.inl rfl, ⟨Or.inl rfl, ⟨Or.inl rfl, ⟨Or.inl rfl, ⟨Or.inl rfl, ⟨Or.inl rfl, ⟨Or.inl rfl, trivial⟩⟩⟩⟩⟩⟩⟩ ?_
      exact k9
    · rw [if_neg hc1] at hf
      refine E_aload_n (v := r1) dX3_follow_17 rfl ?_
      refine E_iload (v := x5_8_1) dX3_follow_18 rfl ?_
      obtain ⟨hi2, hf⟩ := gd_some hf
      refine E_iald (n := 6) dX3_follow_20 hr1 (by decide) (inb_in hi2) ?_
      refine E_istore (ls' := [some (.ref 46), some (.ref o0), some (.ref r1), some (.int x3_8_1), some (.int x4_8_1), some (.int x5_8_1), some (.int (w_8_1.1 r1 x5_8_1.toNatClampNeg))]) dX3_follow_21 rfl rfl rfl ?_
      refine E_aload_n (v := 46) dX3_follow_23 rfl ?_
      refine E_iload_n (v := x3_8_1) dX3_follow_24 rfl ?_
      refine E_iload (v := x4_8_1) dX3_follow_25 rfl ?_
      refine E_aload_n (v := o0) dX3_follow_27 rfl ?_
      refine E_iload (v := (w_8_1.1 r1 x5_8_1.toNatClampNeg)) dX3_follow_28 rfl ?_
      obtain ⟨r4, hc3, hf⟩ := bd_some hf
      try dsimp only at hf
      refine E_callVi (rest := []) (ci := 3) cv_RX3_67 dX3_follow_30 (MX3_usedBehind ho0 hc3) rfl sC_46 rfl (by decide) rfl rfl (fun _ => Nat.le_of_ble_eq_true rfl) ?_
      refine E_istore_n (ls' := [some (.ref 46), some (.ref o0), some (.ref r1), some (.int r4), some (.int x4_8_1), some (.int x5_8_1), some (.int (w_8_1.1 r1 x5_8_1.toNatClampNeg))]) dX3_follow_33 rfl rfl rfl ?_
      refine E_aload_n (v := o0) dX3_follow_34 rfl ?_
      refine E_getR fg_RX3_48 dX3_follow_35 (J_s0 ho0) rfl (J_r0_3 ho0) (Nat.succ_ne_zero _) ?_
      refine E_iload (v := (w_8_1.1 r1 x5_8_1.toNatClampNeg)) dX3_follow_38 rfl ?_
      obtain ⟨hi5, hf⟩ := gd_some hf
      refine E_iald (n := 6) dX3_follow_40 (J_s3 ho0) (by decide) (inb_in hi5) ?_
      obtain ⟨v6, ev6, hf⟩ := lw_some hf
      try dsimp only at hf
      rw [← ev6]
      refine E_istore (ls' := [some (.ref 46), some (.ref o0), some (.ref r1), some (.int r4), some (.int v6), some (.int x5_8_1), some (.int (w_8_1.1 r1 x5_8_1.toNatClampNeg))]) dX3_follow_41 rfl rfl rfl ?_
      refine E_aload_n (v := 46) dX3_follow_43 rfl ?_
      refine E_getR fg_RX3_15 dX3_follow_44 sC_46 rfl rC_46_1 (Nat.succ_ne_zero _) ?_
      refine E_iload (v := (w_8_1.1 r1 x5_8_1.toNatClampNeg)) dX3_follow_47 rfl ?_
      refine E_aload_n (v := 46) dX3_follow_49 rfl ?_
      refine E_iload_n (v := r4) dX3_follow_50 rfl ?_
      obtain ⟨r8, hc7, hf⟩ := bd_some hf
      try dsimp only at hf
      refine E_callVi (rest := [.int (w_8_1.1 r1 x5_8_1.toNatClampNeg), .ref 48]) (ci := 3) cv_RX3_71 dX3_follow_51 (MX3_dayAt hc7) rfl sC_46 rfl (by decide) rfl rfl (fun _ => Nat.le_of_ble_eq_true rfl) ?_
      obtain ⟨w9, ew9, hf⟩ := lw_some hf
      try dsimp only at hf
      refine E_iast (n := 6) dX3_follow_54 sC_48 (by decide) (inb_in hi5) ?_
      rw [← ew9]
      refine E_iinc (ls' := [some (.ref 46), some (.ref o0), some (.ref r1), some (.int r4), some (.int v6), some (.int (x5_8_1 + 1)), some (.int (w_8_1.1 r1 x5_8_1.toNatClampNeg))]) 1 dX3_follow_55 rfl ic_1 rfl rfl rfl ?_
      refine E_goto 8 dX3_follow_58 (by decide) ?_
      obtain rfl := Option.some.inj hf
      refine E.fewer (ls' := [some (.ref 46), some (.ref o0), some (.ref r1), some (.int r4), some (.int v6), some (.int (x5_8_1 + 1)), none]) ⟨Or.inr rfl, ⟨Or.inr rfl, ⟨Or.inr rfl, ⟨Or.inr rfl, ⟨Or.inr rfl, ⟨Or.inr rfl, ⟨Or.inl rfl, trivial⟩⟩⟩⟩⟩⟩⟩ ?_
      exact k9
  · skip
    obtain ⟨w11, hq9⟩ : ∃ a, a = q := ⟨_, rfl⟩
    subst hq9
    try dsimp only at hf
    show E PC RX3 cX3_follow 7 3 61 [none, none, none, none, none, none, none] [] w11 Q
    obtain rfl := Option.some.inj hf
    exact E.done (by rw [eQ]; exact ⟨rfl, Or.inr ⟨rfl, rfl, dX3_follow_61, rfl⟩⟩)
set_option maxRecDepth 10000 in
set_option maxHeartbeats 2000000 in
theorem MX11_followPlan {N : Nat} {w : AW} {wZ : AW} (hf : fX11_followPlan N w = some wZ) : CallOK PC yX11_followPlan cX11_followPlan 1 none 4 [.ref 0] w none wZ := by
  refine CallOK.of (ls := [some (.ref 0)]) (by decide) (by simp) rfl rfl ?_
  obtain ⟨Q, eQ⟩ : ∃ Q, Q = Qret cX11_followPlan none none wZ := ⟨_, rfl⟩
  rw [← eQ]
  unfold fX11_followPlan at hf
  refine E_aload_n (v := 0) dX11_followPlan_0 rfl ?_
  refine E_getR fg_RX11_43 dX11_followPlan_1 sC_0 rfl rC_0_6 (Nat.succ_ne_zero _) ?_
  refine E_aload_n (v := 0) dX11_followPlan_4 rfl ?_
  refine E_getR fg_RX11_10 dX11_followPlan_5 sC_0 rfl rC_0_0 (Nat.succ_ne_zero _) ?_
  refine E_iconst 0 dX11_followPlan_8 ic_0 ?_
  obtain ⟨w2, hc1, hf⟩ := bd_some hf
  try dsimp only at hf
  refine E_callVv (rest := []) (ci := 3) cv_RX11_208 dX11_followPlan_9 (MX3_measure B_is1 hc1) rfl sC_46 rfl (by decide) rfl rfl (fun _ => Nat.le_of_ble_eq_true rfl) ?_
  refine E_aload_n (v := 0) dX11_followPlan_12 rfl ?_
  refine E_getR fg_RX11_43 dX11_followPlan_13 sC_0 rfl rC_0_6 (Nat.succ_ne_zero _) ?_
  refine E_aload_n (v := 0) dX11_followPlan_16 rfl ?_
  refine E_getR fg_RX11_10 dX11_followPlan_17 sC_0 rfl rC_0_0 (Nat.succ_ne_zero _) ?_
  refine E_getR fg_RX11_130 dX11_followPlan_20 sC_1 rfl rC_1_0 (Nat.succ_ne_zero _) ?_
  refine E_aload_n (v := 0) dX11_followPlan_23 rfl ?_
  refine E_getR fg_RX11_10 dX11_followPlan_24 sC_0 rfl rC_0_0 (Nat.succ_ne_zero _) ?_
  refine E_getR fg_RX11_183 dX11_followPlan_27 sC_1 rfl rC_1_4 (Nat.succ_ne_zero _) ?_
  obtain ⟨w4, hc3, hf⟩ := bd_some hf
  try dsimp only at hf
  refine E_callVv (rest := []) (ci := 3) cv_RX11_366 dX11_followPlan_30 (MX3_follow J_is2 sC_11 hc3) rfl sC_46 rfl (by decide) rfl rfl (fun _ => Nat.le_of_ble_eq_true rfl) ?_
  obtain rfl := Option.some.inj hf
  exact E.done (by rw [eQ]; exact ⟨rfl, Or.inr ⟨rfl, rfl, dX11_followPlan_33, rfl⟩⟩)
set_option maxRecDepth 10000 in
set_option maxHeartbeats 2000000 in
theorem MX11_ends {N : Nat} {a0 : Int32} {w : AW} {rZ : Int32} {wZ : AW} (hf : fX11_ends N a0 w = some (rZ, wZ)) : CallOK PC yX11_ends cX11_ends 2 (some .int) 5 [.ref 0, .int a0] w (some (.int rZ)) wZ := by
  refine CallOK.of (ls := [some (.ref 0), some (.int a0)]) (by decide) (by simp) rfl rfl ?_
  obtain ⟨Q, eQ⟩ : ∃ Q, Q = Qret cX11_ends (some .int) (some (.int rZ)) wZ := ⟨_, rfl⟩
  rw [← eQ]
  unfold fX11_ends at hf
  refine E_aload_n (v := 0) dX11_ends_0 rfl ?_
  refine E_getR fg_RX11_10 dX11_ends_1 sC_0 rfl rC_0_0 (Nat.succ_ne_zero _) ?_
  refine E_getR fg_RX11_130 dX11_ends_4 sC_1 rfl rC_1_0 (Nat.succ_ne_zero _) ?_
  refine E_iload_n (v := a0) dX11_ends_7 rfl ?_
  obtain ⟨r2, hc1, hf⟩ := bd_some hf
  try dsimp only at hf
  refine E_callVi (rest := []) (ci := 4) cv_RX11_140 dX11_ends_8 (MX4_has J_is2 hc1) rfl sC_2 rfl (by decide) rfl rfl (fun _ => Nat.le_of_ble_eq_true rfl) ?_
  refine E_if_ne 16 dX11_ends_11 (by decide) (fun hc3 => ?_) (fun hc3 => ?_)
  · rw [if_pos hc3] at hf
    refine E_iconst (-1) dX11_ends_14 ic_m1 ?_
    obtain ⟨rfl, rfl⟩ := ret2 hf
    exact E.done (by rw [eQ]; exact ⟨rfl, Or.inl ⟨_, _, rfl, rfl, dX11_ends_15, rfl, rfl⟩⟩)
  · rw [if_neg hc3] at hf
    refine E_aload_n (v := 0) dX11_ends_16 rfl ?_
    obtain ⟨w5, hc4, hf⟩ := bd_some hf
    try dsimp only at hf
    refine E_callVv (rest := []) (ci := 11) cv_RX11_194 dX11_ends_17 (MX11_followPlan hc4) rfl sC_0 rfl (by decide) rfl rfl (fun _ => Nat.le_of_ble_eq_true rfl) ?_
    refine E_aload_n (v := 0) dX11_ends_20 rfl ?_
    refine E_getR fg_RX11_43 dX11_ends_21 sC_0 rfl rC_0_6 (Nat.succ_ne_zero _) ?_
    refine E_getR fg_RX11_197 dX11_ends_24 sC_46 rfl rC_46_1 (Nat.succ_ne_zero _) ?_
    refine E_iload_n (v := a0) dX11_ends_27 rfl ?_
    obtain ⟨hi6, hf⟩ := gd_some hf
    refine E_iald (n := 6) dX11_ends_28 sC_48 (by decide) (inb_in hi6) ?_
    obtain ⟨rfl, rfl⟩ := ret2 hf
    exact E.done (by rw [eQ]; exact ⟨rfl, Or.inl ⟨_, _, rfl, rfl, dX11_ends_29, rfl, rfl⟩⟩)
set_option maxRecDepth 10000 in
set_option maxHeartbeats 2000000 in
theorem MX8_take {N : Nat} {a0 : Int64} {a1 : Int32} {w : AW} {rZ : Int32} {wZ : AW} (hf : fX8_take N a0 a1 w = some (rZ, wZ)) : CallOK PC yX8_take cX8_take 5 (some .int) 1 [.ref 37, .long a0, .int a1] w (some (.int rZ)) wZ := by
  refine CallOK.of (ls := [some (.ref 37), some (.long a0), none, some (.int a1), none]) (by decide) (by simp) rfl rfl ?_
  obtain ⟨Q, eQ⟩ : ∃ Q, Q = Qret cX8_take (some .int) (some (.int rZ)) wZ := ⟨_, rfl⟩
  rw [← eQ]
  unfold fX8_take at hf
  refine E_aload_n (v := 37) dX8_take_0 rfl ?_
  refine E_getI fg_RX8_15 dX8_take_1 sC_37 rfl ?_
  refine E_iload_n (v := a1) dX8_take_4 rfl ?_
  refine E_iadd dX8_take_5 ?_
  refine E_sipush 200 dX8_take_6 sp_200 ?_
  refine E_icmp_le 15 dX8_take_9 (by decide) (fun hc1 => ?_) (fun hc1 => ?_)
  · rw [if_pos hc1] at hf
    refine E_iconst 0 dX8_take_15 ic_0 ?_
    refine E_istore (ls' := [some (.ref 37), some (.long a0), none, some (.int a1), some (.int 0)]) dX8_take_16 rfl rfl rfl ?_
    obtain ⟨q, hw6, hf⟩ := bd_some hf
    try dsimp only at hf
    show (fun (s : Int32 × AW) => E PC RX8 cX8_take 5 1 18 [some (.ref 37), some (.long a0), none, some (.int a1), some (.int s.1)] [] s.2 Q) (0, w)
    refine wh_E (K := (fun (s : Int32 × AW) => E PC RX8 cX8_take 5 1 18 [some (.ref 37), some (.long a0), none, some (.int a1), some (.int s.1)] [] s.2 Q)) (X := (fun (s : AW) => E PC RX8 cX8_take 5 1 58 [some (.ref 37), none, none, none, none] [] s Q)) ?_ hw6 ?_
    · intro s9 z9 hf k9
      obtain ⟨x4_18_1, w_18_1⟩ := s9
      dsimp only [lbX8_take_18_1] at hf
      show E PC RX8 cX8_take 5 1 18 [some (.ref 37), some (.long a0), none, some (.int a1), some (.int x4_18_1)] [] w_18_1 Q
      refine E_iload (v := x4_18_1) dX8_take_18 rfl ?_
      refine E_iload_n (v := a1) dX8_take_20 rfl ?_
      refine E_icmp_ge 58 dX8_take_21 (by decide) (fun hc2 => ?_) (fun hc2 => ?_)
      · rw [if_pos hc2] at hf
        obtain rfl := Option.some.inj hf
        refine E.fewer (ls' := [some (.ref 37), none, none, none, none]) ⟨Or.inr rfl, ⟨Or.inl rfl, ⟨Or.inl rfl, ⟨Or.inl rfl, ⟨Or.inl rfl, trivial⟩⟩⟩⟩⟩ ?_
        exact k9
      · rw [if_neg hc2] at hf
        refine E_aload_n (v := 37) dX8_take_24 rfl ?_
        refine E_getR fg_RX8_11 dX8_take_25 sC_37 rfl rC_37_0 (Nat.succ_ne_zero _) ?_
        refine E_aload_n (v := 37) dX8_take_28 rfl ?_
        refine E_getI fg_RX8_15 dX8_take_29 sC_37 rfl ?_
        refine E_lload_n (v := a0) dX8_take_32 rfl ?_
        refine E_bipush 8 dX8_take_33 bp_8 ?_
        refine E_iload (v := x4_18_1) dX8_take_35 rfl ?_
        refine E_imul dX8_take_37 ?_
        refine E_lushr dX8_take_38 ?_
        refine E_l2i dX8_take_39 ?_
        refine E_i2b dX8_take_40 ?_
        obtain ⟨hi3, hf⟩ := gd_some hf
        obtain ⟨w4, ew4, hf⟩ := lw_some hf
        try dsimp only at hf
        refine E_bast (n := 200) dX8_take_41 sC_38 (by decide) (inb_in hi3) ?_
        rw [← ew4]
        refine E_aload_n (v := 37) dX8_take_42 rfl ?_
        refine E_dup_r dX8_take_43 ?_
        refine E_getI fg_RX8_15 dX8_take_44 sC_37 rfl ?_
        refine E_iconst 1 dX8_take_47 ic_1 ?_
        refine E_iadd dX8_take_48 ?_
        obtain ⟨w5, ew5, hf⟩ := lw_some hf
        try dsimp only at hf
        refine E_putI fp_RX8_15 dX8_take_49 sC_37 rfl rfl rfl ?_
        rw [← ew5]
        refine E_iinc (ls' := [some (.ref 37), some (.long a0), none, some (.int a1), some (.int (x4_18_1 + 1))]) 1 dX8_take_52 rfl ic_1 rfl rfl rfl ?_
        refine E_goto 18 dX8_take_55 (by decide) ?_
        obtain rfl := Option.some.inj hf
        exact k9
    · skip
      obtain ⟨w7, hq9⟩ : ∃ a, a = q := ⟨_, rfl⟩
      subst hq9
      try dsimp only at hf
      show E PC RX8 cX8_take 5 1 58 [some (.ref 37), none, none, none, none] [] w7 Q
      refine E_aload_n (v := 37) dX8_take_58 rfl ?_
      refine E_getI fg_RX8_15 dX8_take_59 sC_37 rfl ?_
      obtain ⟨rfl, rfl⟩ := ret2 hf
      exact E.done (by rw [eQ]; exact ⟨rfl, Or.inl ⟨_, _, rfl, rfl, dX8_take_62, rfl, rfl⟩⟩)
  · rw [if_neg hc1] at hf
    refine E_bipush (-2) dX8_take_12 bp_m2 ?_
    obtain ⟨rfl, rfl⟩ := ret2 hf
    exact E.done (by rw [eQ]; exact ⟨rfl, Or.inl ⟨_, _, rfl, rfl, dX8_take_14, rfl, rfl⟩⟩)
set_option maxRecDepth 10000 in
set_option maxHeartbeats 2000000 in
theorem MX11_feed {N : Nat} {a0 : Int64} {a1 : Int32} {w : AW} {rZ : Int32} {wZ : AW} (hf : fX11_feed N a0 a1 w = some (rZ, wZ)) : CallOK PC yX11_feed cX11_feed 4 (some .int) 2 [.ref 0, .long a0, .int a1] w (some (.int rZ)) wZ := by
  refine CallOK.of (ls := [some (.ref 0), some (.long a0), none, some (.int a1)]) (by decide) (by simp) rfl rfl ?_
  obtain ⟨Q, eQ⟩ : ∃ Q, Q = Qret cX11_feed (some .int) (some (.int rZ)) wZ := ⟨_, rfl⟩
  rw [← eQ]
  unfold fX11_feed at hf
  refine E_iload_n (v := a1) dX11_feed_0 rfl ?_
  refine E_iconst 1 dX11_feed_1 ic_1 ?_
  refine E_bipush 8 dX11_feed_2 bp_8 ?_
  obtain ⟨r2, hc1, hf⟩ := bd_some hf
  try dsimp only at hf
  refine E_callSi (rest := []) cs_RX11_100 dX11_feed_4 (MX11_within hc1) rfl rfl rfl (fun _ => Nat.le_of_ble_eq_true rfl) ?_
  refine E_if_ne 12 dX11_feed_7 (by decide) (fun hc3 => ?_) (fun hc3 => ?_)
  · rw [if_pos hc3] at hf
    refine E_iconst (-1) dX11_feed_10 ic_m1 ?_
    obtain ⟨rfl, rfl⟩ := ret2 hf
    exact E.done (by rw [eQ]; exact ⟨rfl, Or.inl ⟨_, _, rfl, rfl, dX11_feed_11, rfl, rfl⟩⟩)
  · rw [if_neg hc3] at hf
    refine E_aload_n (v := 0) dX11_feed_12 rfl ?_
    refine E_getR fg_RX11_36 dX11_feed_13 sC_0 rfl rC_0_5 (Nat.succ_ne_zero _) ?_
    refine E_lload_n (v := a0) dX11_feed_16 rfl ?_
    refine E_iload_n (v := a1) dX11_feed_17 rfl ?_
    obtain ⟨r5, w6, hc4, hf⟩ := bd2_some hf
    try dsimp only at hf
    refine E_callVi (rest := []) (ci := 8) cv_RX11_104 dX11_feed_18 (MX8_take hc4) rfl sC_37 rfl (by decide) rfl rfl (fun _ => Nat.le_of_ble_eq_true rfl) ?_
    obtain ⟨rfl, rfl⟩ := ret2 hf
    exact E.done (by rw [eQ]; exact ⟨rfl, Or.inl ⟨_, _, rfl, rfl, dX11_feed_21, rfl, rfl⟩⟩)
set_option maxRecDepth 10000 in
set_option maxHeartbeats 2000000 in
theorem MX5_fewestLate {N : Nat} {o0 : Nat} {w : AW} {rZ : Int32} {wZ : AW} (ho0 : isJ o0) (hf : fX5_fewestLate N o0 w = some (rZ, wZ)) : CallOK PC yX5_fewestLate cX5_fewestLate 2 (some .int) 13 [.ref 49, .ref o0] w (some (.int rZ)) wZ := by
  refine CallOK.of (ls := [some (.ref 49), some (.ref o0)]) (by decide) (by simp) rfl rfl ?_
  obtain ⟨Q, eQ⟩ : ∃ Q, Q = Qret cX5_fewestLate (some .int) (some (.int rZ)) wZ := ⟨_, rfl⟩
  rw [← eQ]
  unfold fX5_fewestLate at hf
  refine E_aload_n (v := 49) dX5_fewestLate_0 rfl ?_
  refine E_iconst 1 dX5_fewestLate_1 ic_1 ?_
  refine E_aload_n (v := o0) dX5_fewestLate_2 rfl ?_
  refine E_bipush (-9) dX5_fewestLate_3 bp_m9 ?_
  obtain ⟨r2, w3, hc1, hf⟩ := bd2_some hf
  try dsimp only at hf
  refine E_callVi (rest := []) (ci := 5) cv_RX5_41 dX5_fewestLate_5 (MX5_leastLost ho0 hc1) rfl sC_49 rfl (by decide) rfl rfl (fun _ => Nat.le_of_ble_eq_true rfl) ?_
  obtain ⟨rfl, rfl⟩ := ret2 hf
  exact E.done (by rw [eQ]; exact ⟨rfl, Or.inl ⟨_, _, rfl, rfl, dX5_fewestLate_8, rfl, rfl⟩⟩)
set_option maxRecDepth 10000 in
set_option maxHeartbeats 2000000 in
theorem MX11_fewest {N : Nat} {w : AW} {rZ : Int32} {wZ : AW} (hf : fX11_fewest N w = some (rZ, wZ)) : CallOK PC yX11_fewest cX11_fewest 1 (some .int) 14 [.ref 0] w (some (.int rZ)) wZ := by
  refine CallOK.of (ls := [some (.ref 0)]) (by decide) (by simp) rfl rfl ?_
  obtain ⟨Q, eQ⟩ : ∃ Q, Q = Qret cX11_fewest (some .int) (some (.int rZ)) wZ := ⟨_, rfl⟩
  rw [← eQ]
  unfold fX11_fewest at hf
  refine E_aload_n (v := 0) dX11_fewest_0 rfl ?_
  refine E_getR fg_RX11_43 dX11_fewest_1 sC_0 rfl rC_0_6 (Nat.succ_ne_zero _) ?_
  refine E_aload_n (v := 0) dX11_fewest_4 rfl ?_
  refine E_getR fg_RX11_10 dX11_fewest_5 sC_0 rfl rC_0_0 (Nat.succ_ne_zero _) ?_
  refine E_iconst 0 dX11_fewest_8 ic_0 ?_
  obtain ⟨w2, hc1, hf⟩ := bd_some hf
  try dsimp only at hf
  refine E_callVv (rest := []) (ci := 3) cv_RX11_208 dX11_fewest_9 (MX3_measure B_is1 hc1) rfl sC_46 rfl (by decide) rfl rfl (fun _ => Nat.le_of_ble_eq_true rfl) ?_
  refine E_aload_n (v := 0) dX11_fewest_12 rfl ?_
  refine E_getR fg_RX11_52 dX11_fewest_13 sC_0 rfl rC_0_7 (Nat.succ_ne_zero _) ?_
  refine E_aload_n (v := 0) dX11_fewest_16 rfl ?_
  refine E_getR fg_RX11_10 dX11_fewest_17 sC_0 rfl rC_0_0 (Nat.succ_ne_zero _) ?_
  refine E_getR fg_RX11_130 dX11_fewest_20 sC_1 rfl rC_1_0 (Nat.succ_ne_zero _) ?_
  obtain ⟨r4, w5, hc3, hf⟩ := bd2_some hf
  try dsimp only at hf
  refine E_callVi (rest := []) (ci := 5) cv_RX11_223 dX11_fewest_23 (MX5_fewestLate J_is2 hc3) rfl sC_49 rfl (by decide) rfl rfl (fun _ => Nat.le_of_ble_eq_true rfl) ?_
  obtain ⟨rfl, rfl⟩ := ret2 hf
  exact E.done (by rw [eQ]; exact ⟨rfl, Or.inl ⟨_, _, rfl, rfl, dX11_fewest_26, rfl, rfl⟩⟩)
set_option maxRecDepth 10000 in
set_option maxHeartbeats 2000000 in
theorem MX11_isJob {a0 : Int32} {a1 : Int32} {a2 : Int32} {a3 : Int32} {a4 : Int32} {w : AW} {rZ : Int32} (hf : fX11_isJob a0 a1 a2 a3 a4 w = some rZ) : CallOK PC yX11_isJob cX11_isJob 5 (some .boolean) 2 [.int a0, .int a1, .int a2, .int a3, .int a4] w (some (.int rZ)) w := by
  refine CallOK.of (ls := [some (.int a0), some (.int a1), some (.int a2), some (.int a3), some (.int a4)]) (by decide) (by simp) rfl rfl ?_
  obtain ⟨Q, eQ⟩ : ∃ Q, Q = Qret cX11_isJob (some .boolean) (some (.int rZ)) w := ⟨_, rfl⟩
  rw [← eQ]
  unfold fX11_isJob at hf
  refine E_iload_n (v := a0) dX11_isJob_0 rfl ?_
  refine E_iconst 0 dX11_isJob_1 ic_0 ?_
  refine E_iconst 5 dX11_isJob_2 ic_5 ?_
  obtain ⟨r2, hc1, hf⟩ := bd_some hf
  try dsimp only at hf
  refine E_callSi (rest := []) cs_RX11_100 dX11_isJob_3 (MX11_within hc1) rfl rfl rfl (fun _ => Nat.le_of_ble_eq_true rfl) ?_
  refine E_if_eq 53 dX11_isJob_6 (by decide) (fun hc3 => ?_) (fun hc3 => ?_)
  · rw [if_pos hc3] at hf
    refine E_iconst 0 dX11_isJob_53 ic_0 ?_
    obtain rfl := Option.some.inj hf
    exact E.done (by rw [eQ]; exact ⟨rfl, Or.inl ⟨_, _, rfl, rfl, dX11_isJob_54, rfl, rfl⟩⟩)
  · rw [if_neg hc3] at hf
    refine E_iload_n (v := a1) dX11_isJob_9 rfl ?_
    refine E_iconst 1 dX11_isJob_10 ic_1 ?_
    refine E_bipush 9 dX11_isJob_11 bp_9 ?_
    obtain ⟨r5, hc4, hf⟩ := bd_some hf
    try dsimp only at hf
    refine E_callSi (rest := []) cs_RX11_100 dX11_isJob_13 (MX11_within hc4) rfl rfl rfl (fun _ => Nat.le_of_ble_eq_true rfl) ?_
    refine E_if_eq 53 dX11_isJob_16 (by decide) (fun hc6 => ?_) (fun hc6 => ?_)
    · rw [if_pos hc6] at hf
      refine E_iconst 0 dX11_isJob_53 ic_0 ?_
      obtain rfl := Option.some.inj hf
      exact E.done (by rw [eQ]; exact ⟨rfl, Or.inl ⟨_, _, rfl, rfl, dX11_isJob_54, rfl, rfl⟩⟩)
    · rw [if_neg hc6] at hf
      refine E_iload_n (v := a2) dX11_isJob_19 rfl ?_
      refine E_iconst 0 dX11_isJob_20 ic_0 ?_
      refine E_iconst 1 dX11_isJob_21 ic_1 ?_
      obtain ⟨r8, hc7, hf⟩ := bd_some hf
      try dsimp only at hf
      refine E_callSi (rest := []) cs_RX11_100 dX11_isJob_22 (MX11_within hc7) rfl rfl rfl (fun _ => Nat.le_of_ble_eq_true rfl) ?_
      refine E_if_eq 53 dX11_isJob_25 (by decide) (fun hc9 => ?_) (fun hc9 => ?_)
      · rw [if_pos hc9] at hf
        refine E_iconst 0 dX11_isJob_53 ic_0 ?_
        obtain rfl := Option.some.inj hf
        exact E.done (by rw [eQ]; exact ⟨rfl, Or.inl ⟨_, _, rfl, rfl, dX11_isJob_54, rfl, rfl⟩⟩)
      · rw [if_neg hc9] at hf
        refine E_iload_n (v := a3) dX11_isJob_28 rfl ?_
        refine E_iconst 0 dX11_isJob_29 ic_0 ?_
        refine E_bipush 60 dX11_isJob_30 bp_60 ?_
        obtain ⟨r11, hc10, hf⟩ := bd_some hf
        try dsimp only at hf
        refine E_callSi (rest := []) cs_RX11_100 dX11_isJob_32 (MX11_within hc10) rfl rfl rfl (fun _ => Nat.le_of_ble_eq_true rfl) ?_
        refine E_if_eq 53 dX11_isJob_35 (by decide) (fun hc12 => ?_) (fun hc12 => ?_)
        · rw [if_pos hc12] at hf
          refine E_iconst 0 dX11_isJob_53 ic_0 ?_
          obtain rfl := Option.some.inj hf
          exact E.done (by rw [eQ]; exact ⟨rfl, Or.inl ⟨_, _, rfl, rfl, dX11_isJob_54, rfl, rfl⟩⟩)
        · rw [if_neg hc12] at hf
          refine E_iload (v := a4) dX11_isJob_38 rfl ?_
          refine E_iconst 0 dX11_isJob_40 ic_0 ?_
          refine E_bipush 99 dX11_isJob_41 bp_99 ?_
          obtain ⟨r14, hc13, hf⟩ := bd_some hf
          try dsimp only at hf
          refine E_callSi (rest := []) cs_RX11_100 dX11_isJob_43 (MX11_within hc13) rfl rfl rfl (fun _ => Nat.le_of_ble_eq_true rfl) ?_
          refine E_if_eq 53 dX11_isJob_46 (by decide) (fun hc15 => ?_) (fun hc15 => ?_)
          · rw [if_pos hc15] at hf
            refine E_iconst 0 dX11_isJob_53 ic_0 ?_
            obtain rfl := Option.some.inj hf
            exact E.done (by rw [eQ]; exact ⟨rfl, Or.inl ⟨_, _, rfl, rfl, dX11_isJob_54, rfl, rfl⟩⟩)
          · rw [if_neg hc15] at hf
            refine E_iconst 1 dX11_isJob_49 ic_1 ?_
            refine E_goto 54 dX11_isJob_50 (by decide) ?_
            obtain rfl := Option.some.inj hf
            exact E.done (by rw [eQ]; exact ⟨rfl, Or.inl ⟨_, _, rfl, rfl, dX11_isJob_54, rfl, rfl⟩⟩)
