set_option maxRecDepth 10000 in
set_option maxHeartbeats 2000000 in
theorem MX11_within {a0 : Int32} {a1 : Int32} {a2 : Int32} {w : AW} {rZ : Int32} (hf : fX11_within a0 a1 a2 w = some rZ) : CallOK PC yX11_within cX11_within 3 (some .boolean) 1 [.int a0, .int a1, .int a2] w (some (.int rZ)) w := by
  refine CallOK.of (ls := [some (.int a0), some (.int a1), some (.int a2)]) (by decide) (by simp) rfl rfl ?_
  obtain ⟨Q, eQ⟩ : ∃ Q, Q = Qret cX11_within (some .boolean) (some (.int rZ)) w := ⟨_, rfl⟩
  rw [← eQ]
  unfold fX11_within at hf
  refine E_iload_n (v := a0) dX11_within_0 rfl ?_
  refine E_iload_n (v := a1) dX11_within_1 rfl ?_
  refine E_icmp_lt 14 dX11_within_2 (by decide) (fun hc1 => ?_) (fun hc1 => ?_)
  · rw [if_pos hc1] at hf
    refine E_iconst 0 dX11_within_14 ic_0 ?_
    obtain rfl := Option.some.inj hf
    exact E.done (by rw [eQ]; exact ⟨rfl, Or.inl ⟨_, _, rfl, rfl, dX11_within_15, rfl, rfl⟩⟩)
  · rw [if_neg hc1] at hf
    refine E_iload_n (v := a0) dX11_within_5 rfl ?_
    refine E_iload_n (v := a2) dX11_within_6 rfl ?_
    refine E_icmp_gt 14 dX11_within_7 (by decide) (fun hc2 => ?_) (fun hc2 => ?_)
    · rw [if_pos hc2] at hf
      refine E_iconst 0 dX11_within_14 ic_0 ?_
      obtain rfl := Option.some.inj hf
      exact E.done (by rw [eQ]; exact ⟨rfl, Or.inl ⟨_, _, rfl, rfl, dX11_within_15, rfl, rfl⟩⟩)
    · rw [if_neg hc2] at hf
      refine E_iconst 1 dX11_within_10 ic_1 ?_
      refine E_goto 15 dX11_within_11 (by decide) ?_
      obtain rfl := Option.some.inj hf
      exact E.done (by rw [eQ]; exact ⟨rfl, Or.inl ⟨_, _, rfl, rfl, dX11_within_15, rfl, rfl⟩⟩)
set_option maxRecDepth 10000 in
set_option maxHeartbeats 2000000 in
theorem MX1_slotsOn {b : Nat} {a0 : Int32} {w : AW} {rZ : Int32} (hb : isB b) (hf : fX1_slotsOn b a0 w = some rZ) : CallOK PC yX1_slotsOn cX1_slotsOn 2 (some .int) 2 [.ref b, .int a0] w (some (.int rZ)) w := by
  refine CallOK.of (ls := [some (.ref b), some (.int a0)]) (by decide) (by simp) rfl rfl ?_
  obtain ⟨Q, eQ⟩ : ∃ Q, Q = Qret cX1_slotsOn (some .int) (some (.int rZ)) w := ⟨_, rfl⟩
  rw [← eQ]
  unfold fX1_slotsOn at hf
  refine E_iload_n (v := a0) dX1_slotsOn_0 rfl ?_
  refine E_if_lt 10 dX1_slotsOn_1 (by decide) (fun hc1 => ?_) (fun hc1 => ?_)
  · rw [if_pos hc1] at hf
    refine E_aload_n (v := b) dX1_slotsOn_10 rfl ?_
    refine E_getR fg_RX1_18 dX1_slotsOn_11 (B_s0 hb) rfl (B_r0_1 hb) (Nat.succ_ne_zero _) ?_
    refine E_iconst 0 dX1_slotsOn_14 ic_0 ?_
    refine E_iald (n := 4) dX1_slotsOn_15 (B_s7 hb) (by decide) (inb_in (by decide)) ?_
    obtain rfl := Option.some.inj hf
    exact E.done (by rw [eQ]; exact ⟨rfl, Or.inl ⟨_, _, rfl, rfl, dX1_slotsOn_16, rfl, rfl⟩⟩)
  · rw [if_neg hc1] at hf
    refine E_iload_n (v := a0) dX1_slotsOn_4 rfl ?_
    refine E_bipush 60 dX1_slotsOn_5 bp_60 ?_
    refine E_icmp_le 17 dX1_slotsOn_7 (by decide) (fun hc2 => ?_) (fun hc2 => ?_)
    · rw [if_pos hc2] at hf
      refine E_iconst 0 dX1_slotsOn_17 ic_0 ?_
      refine E_aload_n (v := b) dX1_slotsOn_18 rfl ?_
      refine E_getR fg_RX1_18 dX1_slotsOn_19 (B_s0 hb) rfl (B_r0_1 hb) (Nat.succ_ne_zero _) ?_
      refine E_iconst 0 dX1_slotsOn_22 ic_0 ?_
      refine E_iald (n := 4) dX1_slotsOn_23 (B_s7 hb) (by decide) (inb_in (by decide)) ?_
      refine E_aload_n (v := b) dX1_slotsOn_24 rfl ?_
      refine E_getR fg_RX1_22 dX1_slotsOn_25 (B_s0 hb) rfl (B_r0_2 hb) (Nat.succ_ne_zero _) ?_
      refine E_iload_n (v := a0) dX1_slotsOn_28 rfl ?_
      obtain ⟨hi3, hf⟩ := gd_some hf
      refine E_iald (n := 61) dX1_slotsOn_29 (B_s8 hb) (by decide) (inb_in hi3) ?_
      refine E_isub dX1_slotsOn_30 ?_
      refine E_mmax wl_RX1_44 wsM_max win_math wcM_max dX1_slotsOn_31 (by omega) (fun _ => Nat.le_of_ble_eq_true rfl) ?_
      refine E_aload_n (v := b) dX1_slotsOn_34 rfl ?_
      refine E_getR fg_RX1_25 dX1_slotsOn_35 (B_s0 hb) rfl (B_r0_3 hb) (Nat.succ_ne_zero _) ?_
      refine E_iload_n (v := a0) dX1_slotsOn_38 rfl ?_
      refine E_iald (n := 61) dX1_slotsOn_39 (B_s9 hb) (by decide) (inb_in hi3) ?_
      refine E_iadd dX1_slotsOn_40 ?_
      obtain rfl := Option.some.inj hf
      exact E.done (by rw [eQ]; exact ⟨rfl, Or.inl ⟨_, _, rfl, rfl, dX1_slotsOn_41, rfl, rfl⟩⟩)
    · rw [if_neg hc2] at hf
      refine E_aload_n (v := b) dX1_slotsOn_10 rfl ?_
      refine E_getR fg_RX1_18 dX1_slotsOn_11 (B_s0 hb) rfl (B_r0_1 hb) (Nat.succ_ne_zero _) ?_
      refine E_iconst 0 dX1_slotsOn_14 ic_0 ?_
      refine E_iald (n := 4) dX1_slotsOn_15 (B_s7 hb) (by decide) (inb_in (by decide)) ?_
      obtain rfl := Option.some.inj hf
      exact E.done (by rw [eQ]; exact ⟨rfl, Or.inl ⟨_, _, rfl, rfl, dX1_slotsOn_16, rfl, rfl⟩⟩)
set_option maxRecDepth 10000 in
set_option maxHeartbeats 2000000 in
theorem MX3_measure {N : Nat} {o0 : Nat} {a1 : Int32} {w : AW} {wZ : AW} (ho0 : isB o0) (hf : fX3_measure N o0 a1 w = some wZ) : CallOK PC yX3_measure cX3_measure 7 none 3 [.ref 46, .ref o0, .int a1] w none wZ := by
  refine CallOK.of (ls := [some (.ref 46), some (.ref o0), some (.int a1), none, none, none, none]) (by decide) (by simp) rfl rfl ?_
  obtain ⟨Q, eQ⟩ : ∃ Q, Q = Qret cX3_measure none none wZ := ⟨_, rfl⟩
  rw [← eQ]
  unfold fX3_measure at hf
  refine E_aload_n (v := 46) dX3_measure_0 rfl ?_
  refine E_aload_n (v := o0) dX3_measure_1 rfl ?_
  refine E_getR fg_RX3_34 dX3_measure_2 (B_s0 ho0) rfl (B_r0_1 ho0) (Nat.succ_ne_zero _) ?_
  refine E_iconst 2 dX3_measure_5 ic_2 ?_
  refine E_iald (n := 4) dX3_measure_6 (B_s7 ho0) (by decide) (inb_in (by decide)) ?_
  obtain ⟨w1, ew1, hf⟩ := lw_some hf
  try dsimp only at hf
  refine E_putI fp_RX3_18 dX3_measure_7 sC_46 rfl rfl rfl ?_
  rw [← ew1]
  refine E_aload_n (v := 46) dX3_measure_10 rfl ?_
  refine E_aload_n (v := o0) dX3_measure_11 rfl ?_
  refine E_getR fg_RX3_34 dX3_measure_12 (B_s0 ho0) rfl (B_r0_1 ho0) (Nat.succ_ne_zero _) ?_
  refine E_iconst 3 dX3_measure_15 ic_3 ?_
  refine E_iald (n := 4) dX3_measure_16 (B_s7 ho0) (by decide) (inb_in (by decide)) ?_
  obtain ⟨w2, ew2, hf⟩ := lw_some hf
  try dsimp only at hf
  refine E_putI fp_RX3_22 dX3_measure_17 sC_46 rfl rfl rfl ?_
  rw [← ew2]
  refine E_aload_n (v := 46) dX3_measure_20 rfl ?_
  refine E_aload_n (v := o0) dX3_measure_21 rfl ?_
  refine E_getR fg_RX3_34 dX3_measure_22 (B_s0 ho0) rfl (B_r0_1 ho0) (Nat.succ_ne_zero _) ?_
  refine E_iconst 1 dX3_measure_25 ic_1 ?_
  refine E_iald (n := 4) dX3_measure_26 (B_s7 ho0) (by decide) (inb_in (by decide)) ?_
  obtain ⟨w3, ew3, hf⟩ := lw_some hf
  try dsimp only at hf
  refine E_putI fp_RX3_25 dX3_measure_27 sC_46 rfl rfl rfl ?_
  rw [← ew3]
  refine E_aload_n (v := 46) dX3_measure_30 rfl ?_
  refine E_aload_n (v := o0) dX3_measure_31 rfl ?_
  refine E_getI fg_RX3_39 dX3_measure_32 (B_s0 ho0) rfl ?_
  obtain ⟨w4, ew4, hf⟩ := lw_some hf
  try dsimp only at hf
  refine E_putI fp_RX3_28 dX3_measure_35 sC_46 rfl rfl rfl ?_
  rw [← ew4]
  refine E_aload_n (v := 46) dX3_measure_38 rfl ?_
  refine E_aload_n (v := o0) dX3_measure_39 rfl ?_
  refine E_getI fg_RX3_40 dX3_measure_40 (B_s0 ho0) rfl ?_
  obtain ⟨w5, ew5, hf⟩ := lw_some hf
  try dsimp only at hf
  refine E_putI fp_RX3_31 dX3_measure_43 sC_46 rfl rfl rfl ?_
  rw [← ew5]
  refine E_iconst 0 dX3_measure_46 ic_0 ?_
  refine E_istore_n (ls' := [some (.ref 46), some (.ref o0), some (.int a1), some (.int 0), none, none, none]) dX3_measure_47 rfl rfl rfl ?_
  refine E_aload_n (v := o0) dX3_measure_48 rfl ?_
  refine E_getI fg_RX3_41 dX3_measure_49 (B_s0 ho0) rfl ?_
  refine E_istore (ls' := [some (.ref 46), some (.ref o0), some (.int a1), some (.int 0), some (.int (w5.1 o0 5)), none, none]) dX3_measure_52 rfl rfl rfl ?_
  obtain ⟨q, hw25, hf⟩ := bd_some hf
  try dsimp only at hf
  show (fun (s : Int32 × Int32 × AW) => E PC RX3 cX3_measure 7 3 54 [some (.ref 46), some (.ref o0), some (.int a1), some (.int s.1), some (.int s.2.1), none, none] [] s.2.2 Q) (0, (w5.1 o0 5), w5)
  refine wh_E (K := (fun (s : Int32 × Int32 × AW) => E PC RX3 cX3_measure 7 3 54 [some (.ref 46), some (.ref o0), some (.int a1), some (.int s.1), some (.int s.2.1), none, none] [] s.2.2 Q)) (X := (fun (s : AW) => E PC RX3 cX3_measure 7 3 132 [none, none, none, none, none, none, none] [] s Q)) ?_ hw25 ?_
  · intro s9 z9 hf k9
    obtain ⟨x3_54_1, x4_54_1, w_54_1⟩ := s9
    dsimp only [lbX3_measure_54_1] at hf
    show E PC RX3 cX3_measure 7 3 54 [some (.ref 46), some (.ref o0), some (.int a1), some (.int x3_54_1), some (.int x4_54_1), none, none] [] w_54_1 Q
    refine E_iload (v := x4_54_1) dX3_measure_54 rfl ?_
    refine E_sipush 186 dX3_measure_56 sp_186 ?_
    refine E_icmp_gt 132 dX3_measure_59 (by decide) (fun hc6 => ?_) (fun hc6 => ?_)
    · rw [if_pos hc6] at hf
      obtain rfl := Option.some.inj hf
      refine E.fewer (ls' := [none, none, none, none, none, none, none]) ⟨Or.inl rfl, ⟨Or.inl rfl, ⟨Or.inl rfl, ⟨Or.inl rfl, ⟨Or.inl rfl, ⟨Or.inl rfl, ⟨Or.inl rfl, trivial⟩⟩⟩⟩⟩⟩⟩ ?_
      exact k9
    · rw [if_neg hc6] at hf
      refine E_iload_n (v := x3_54_1) dX3_measure_62 rfl ?_
      refine E_bipush 126 dX3_measure_63 bp_126 ?_
      refine E_icmp_ge 132 dX3_measure_65 (by decide) (fun hc7 => ?_) (fun hc7 => ?_)
      · rw [if_pos hc7] at hf
        obtain rfl := Option.some.inj hf
        refine E.fewer (ls' := [none, none, none, none, none, none, none]) ⟨Or.inl rfl, ⟨Or.inl rfl, ⟨Or.inl rfl, ⟨Or.inl rfl, ⟨Or.inl rfl, ⟨Or.inl rfl, ⟨Or.inl rfl, trivial⟩⟩⟩⟩⟩⟩⟩ ?_
        exact k9
      · rw [if_neg hc7] at hf
        refine E_aload_n (v := o0) dX3_measure_68 rfl ?_
        refine E_iload (v := x4_54_1) dX3_measure_69 rfl ?_
        obtain ⟨r9, hc8, hf⟩ := bd_some hf
        try dsimp only at hf
        refine E_callVi (rest := []) (ci := 1) cv_RX3_44 dX3_measure_71 (MX1_slotsOn ho0 hc8) rfl (B_s0 ho0) rfl (by decide) rfl rfl (fun _ => Nat.le_of_ble_eq_true rfl) ?_
        refine E_iload (v := x4_54_1) dX3_measure_74 rfl ?_
        refine E_aload_n (v := o0) dX3_measure_76 rfl ?_
        refine E_getI fg_RX3_41 dX3_measure_77 (B_s0 ho0) rfl ?_
        refine E_isub dX3_measure_80 ?_
        refine E_iload_n (v := a1) dX3_measure_81 rfl ?_
        refine E_icmp_ge 89 dX3_measure_82 (by decide) (fun hc10 => ?_) (fun hc10 => ?_)
        · rw [if_pos hc10] at hf
          refine E_iconst 0 dX3_measure_89 ic_0 ?_
          refine E_iadd dX3_measure_90 ?_
          refine E_istore (ls' := [some (.ref 46), some (.ref o0), some (.int a1), some (.int x3_54_1), some (.int x4_54_1), some (.int (r9 + 0)), none]) dX3_measure_91 rfl rfl rfl ?_
          refine E_iconst 0 dX3_measure_93 ic_0 ?_
          refine E_istore (ls' := [some (.ref 46), some (.ref o0), some (.int a1), some (.int x3_54_1), some (.int x4_54_1), some (.int (r9 + 0)), some (.int 0)]) dX3_measure_94 rfl rfl rfl ?_
          obtain ⟨q, hw15, hf⟩ := bd_some hf
          try dsimp only at hf
          show (fun (s : Int32 × Int32 × AW) => E PC RX3 cX3_measure 7 3 96 [some (.ref 46), some (.ref o0), some (.int a1), some (.int s.1), some (.int x4_54_1), some (.int (r9 + 0)), some (.int s.2.1)] [] s.2.2 Q) (x3_54_1, 0, w_54_1)
          refine wh_E (K := (fun (s : Int32 × Int32 × AW) => E PC RX3 cX3_measure 7 3 96 [some (.ref 46), some (.ref o0), some (.int a1), some (.int s.1), some (.int x4_54_1), some (.int (r9 + 0)), some (.int s.2.1)] [] s.2.2 Q)) (X := (fun (s : Int32 × AW) => E PC RX3 cX3_measure 7 3 126 [some (.ref 46), some (.ref o0), some (.int a1), some (.int s.1), some (.int x4_54_1), none, none] [] s.2 Q)) ?_ hw15 ?_
          · intro s9 z9 hf k9
            obtain ⟨x3_96_2, x6_96_2, w_96_2⟩ := s9
            dsimp only [lbX3_measure_96_2] at hf
            show E PC RX3 cX3_measure 7 3 96 [some (.ref 46), some (.ref o0), some (.int a1), some (.int x3_96_2), some (.int x4_54_1), some (.int (r9 + 0)), some (.int x6_96_2)] [] w_96_2 Q
            refine E_iload (v := x6_96_2) dX3_measure_96 rfl ?_
            refine E_iload (v := (r9 + 0)) dX3_measure_98 rfl ?_
            refine E_icmp_ge 126 dX3_measure_100 (by decide) (fun hc11 => ?_) (fun hc11 => ?_)
            · rw [if_pos hc11] at hf
              obtain rfl := Option.some.inj hf
              refine E.fewer (ls' := [some (.ref 46), some (.ref o0), some (.int a1), some (.int x3_96_2), some (.int x4_54_1), none, none]) ⟨Or.inr rfl, ⟨Or.inr rfl, ⟨Or.inr rfl, ⟨Or.inr rfl, ⟨Or.inr rfl, ⟨Or.inl rfl, ⟨Or.inl rfl, trivial⟩⟩⟩⟩⟩⟩⟩ ?_
              exact k9
            · rw [if_neg hc11] at hf
              refine E_iload_n (v := x3_96_2) dX3_measure_103 rfl ?_
              refine E_bipush 126 dX3_measure_104 bp_126 ?_
              refine E_icmp_ge 126 dX3_measure_106 (by decide) (fun hc12 => ?_) (fun hc12 => ?_)
              · rw [if_pos hc12] at hf
                obtain rfl := Option.some.inj hf
                refine E.fewer (ls' := [some (.ref 46), some (.ref o0), some (.int a1), some (.int x3_96_2), some (.int x4_54_1), none, none]) ⟨Or.inr rfl, ⟨Or.inr rfl, ⟨Or.inr rfl, ⟨Or.inr rfl, ⟨Or.inr rfl, ⟨Or.inl rfl, ⟨Or.inl rfl, trivial⟩⟩⟩⟩⟩⟩⟩ ?_
                exact k9
              · rw [if_neg hc12] at hf
                refine E_iinc (ls' := [some (.ref 46), some (.ref o0), some (.int a1), some (.int (x3_96_2 + 1)), some (.int x4_54_1), some (.int (r9 + 0)), some (.int x6_96_2)]) 1 dX3_measure_109 rfl ic_1 rfl rfl rfl ?_
                refine E_aload_n (v := 46) dX3_measure_112 rfl ?_
                refine E_getR fg_RX3_11 dX3_measure_113 sC_46 rfl rC_46_0 (Nat.succ_ne_zero _) ?_
                refine E_iload_n (v := (x3_96_2 + 1)) dX3_measure_116 rfl ?_
                refine E_iload (v := x4_54_1) dX3_measure_117 rfl ?_
                obtain ⟨hi13, hf⟩ := gd_some hf
                obtain ⟨w14, ew14, hf⟩ := lw_some hf
                try dsimp only at hf
                refine E_iast (n := 127) dX3_measure_119 sC_47 (by decide) (inb_in hi13) ?_
                rw [← ew14]
                refine E_iinc (ls' := [some (.ref 46), some (.ref o0), some (.int a1), some (.int (x3_96_2 + 1)), some (.int x4_54_1), some (.int (r9 + 0)), some (.int (x6_96_2 + 1))]) 1 dX3_measure_120 rfl ic_1 rfl rfl rfl ?_
                refine E_goto 96 dX3_measure_123 (by decide) ?_
                obtain rfl := Option.some.inj hf
                exact k9
          · skip
            obtain ⟨y16, w17⟩ := q
            try dsimp only at hf
            show E PC RX3 cX3_measure 7 3 126 [some (.ref 46), some (.ref o0), some (.int a1), some (.int y16), some (.int x4_54_1), none, none] [] w17 Q
            refine E_iinc (ls' := [some (.ref 46), some (.ref o0), some (.int a1), some (.int y16), some (.int (x4_54_1 + 1)), none, none]) 1 dX3_measure_126 rfl ic_1 rfl rfl rfl ?_
            refine E_goto 54 dX3_measure_129 (by decide) ?_
            obtain rfl := Option.some.inj hf
            exact k9
        · rw [if_neg hc10] at hf
          refine E_iconst 1 dX3_measure_85 ic_1 ?_
          refine E_goto 90 dX3_measure_86 (by decide) ?_
          refine E_iadd dX3_measure_90 ?_
          refine E_istore (ls' := [some (.ref 46), some (.ref o0), some (.int a1), some (.int x3_54_1), some (.int x4_54_1), some (.int (r9 + 1)), none]) dX3_measure_91 rfl rfl rfl ?_
          refine E_iconst 0 dX3_measure_93 ic_0 ?_
          refine E_istore (ls' := [some (.ref 46), some (.ref o0), some (.int a1), some (.int x3_54_1), some (.int x4_54_1), some (.int (r9 + 1)), some (.int 0)]) dX3_measure_94 rfl rfl rfl ?_
          obtain ⟨q, hw22, hf⟩ := bd_some hf
          try dsimp only at hf
          show (fun (s : Int32 × Int32 × AW) => E PC RX3 cX3_measure 7 3 96 [some (.ref 46), some (.ref o0), some (.int a1), some (.int s.1), some (.int x4_54_1), some (.int (r9 + 1)), some (.int s.2.1)] [] s.2.2 Q) (x3_54_1, 0, w_54_1)
          refine wh_E (K := (fun (s : Int32 × Int32 × AW) => E PC RX3 cX3_measure 7 3 96 [some (.ref 46), some (.ref o0), some (.int a1), some (.int s.1), some (.int x4_54_1), some (.int (r9 + 1)), some (.int s.2.1)] [] s.2.2 Q)) (X := (fun (s : Int32 × AW) => E PC RX3 cX3_measure 7 3 126 [some (.ref 46), some (.ref o0), some (.int a1), some (.int s.1), some (.int x4_54_1), none, none] [] s.2 Q)) ?_ hw22 ?_
          · intro s9 z9 hf k9
            obtain ⟨x3_96_3, x6_96_3, w_96_3⟩ := s9
            dsimp only [lbX3_measure_96_3] at hf
            show E PC RX3 cX3_measure 7 3 96 [some (.ref 46), some (.ref o0), some (.int a1), some (.int x3_96_3), some (.int x4_54_1), some (.int (r9 + 1)), some (.int x6_96_3)] [] w_96_3 Q
            refine E_iload (v := x6_96_3) dX3_measure_96 rfl ?_
            refine E_iload (v := (r9 + 1)) dX3_measure_98 rfl ?_
            refine E_icmp_ge 126 dX3_measure_100 (by decide) (fun hc18 => ?_) (fun hc18 => ?_)
            · rw [if_pos hc18] at hf
              obtain rfl := Option.some.inj hf
              refine E.fewer (ls' := [some (.ref 46), some (.ref o0), some (.int a1), some (.int x3_96_3), some (.int x4_54_1), none, none]) ⟨Or.inr rfl, ⟨Or.inr rfl, ⟨Or.inr rfl, ⟨Or.inr rfl, ⟨Or.inr rfl, ⟨Or.inl rfl, ⟨Or.inl rfl, trivial⟩⟩⟩⟩⟩⟩⟩ ?_
              exact k9
            · rw [if_neg hc18] at hf
              refine E_iload_n (v := x3_96_3) dX3_measure_103 rfl ?_
              refine E_bipush 126 dX3_measure_104 bp_126 ?_
              refine E_icmp_ge 126 dX3_measure_106 (by decide) (fun hc19 => ?_) (fun hc19 => ?_)
              · rw [if_pos hc19] at hf
                obtain rfl := Option.some.inj hf
                refine E.fewer (ls' := [some (.ref 46), some (.ref o0), some (.int a1), some (.int x3_96_3), some (.int x4_54_1), none, none]) ⟨Or.inr rfl, ⟨Or.inr rfl, ⟨Or.inr rfl, ⟨Or.inr rfl, ⟨Or.inr rfl, ⟨Or.inl rfl, ⟨Or.inl rfl, trivial⟩⟩⟩⟩⟩⟩⟩ ?_
                exact k9
              · rw [if_neg hc19] at hf
                refine E_iinc (ls' := [some (.ref 46), some (.ref o0), some (.int a1), some (.int (x3_96_3 + 1)), some (.int x4_54_1), some (.int (r9 + 1)), some (.int x6_96_3)]) 1 dX3_measure_109 rfl ic_1 rfl rfl rfl ?_
                refine E_aload_n (v := 46) dX3_measure_112 rfl ?_
                refine E_getR fg_RX3_11 dX3_measure_113 sC_46 rfl rC_46_0 (Nat.succ_ne_zero _) ?_
                refine E_iload_n (v := (x3_96_3 + 1)) dX3_measure_116 rfl ?_
                refine E_iload (v := x4_54_1) dX3_measure_117 rfl ?_
                obtain ⟨hi20, hf⟩ := gd_some hf
                obtain ⟨w21, ew21, hf⟩ := lw_some hf
                try dsimp only at hf
                refine E_iast (n := 127) dX3_measure_119 sC_47 (by decide) (inb_in hi20) ?_
                rw [← ew21]
                refine E_iinc (ls' := [some (.ref 46), some (.ref o0), some (.int a1), some (.int (x3_96_3 + 1)), some (.int x4_54_1), some (.int (r9 + 1)), some (.int (x6_96_3 + 1))]) 1 dX3_measure_120 rfl ic_1 rfl rfl rfl ?_
                refine E_goto 96 dX3_measure_123 (by decide) ?_
                obtain rfl := Option.some.inj hf
                exact k9
          · skip
            obtain ⟨y23, w24⟩ := q
            try dsimp only at hf
            show E PC RX3 cX3_measure 7 3 126 [some (.ref 46), some (.ref o0), some (.int a1), some (.int y23), some (.int x4_54_1), none, none] [] w24 Q
            refine E_iinc (ls' := [some (.ref 46), some (.ref o0), some (.int a1), some (.int y23), some (.int (x4_54_1 + 1)), none, none]) 1 dX3_measure_126 rfl ic_1 rfl rfl rfl ?_
            refine E_goto 54 dX3_measure_129 (by decide) ?_
            obtain rfl := Option.some.inj hf
            exact k9
  · skip
    obtain ⟨w26, hq9⟩ : ∃ a, a = q := ⟨_, rfl⟩
    subst hq9
    try dsimp only at hf
    show E PC RX3 cX3_measure 7 3 132 [none, none, none, none, none, none, none] [] w26 Q
    obtain rfl := Option.some.inj hf
    exact E.done (by rw [eQ]; exact ⟨rfl, Or.inr ⟨rfl, rfl, dX3_measure_132, rfl⟩⟩)
set_option maxRecDepth 10000 in
set_option maxHeartbeats 2000000 in
theorem MX4_has {o : Nat} {a0 : Int32} {w : AW} {rZ : Int32} (ho : isJ o) (hf : fX4_has o a0 w = some rZ) : CallOK PC yX4_has cX4_has 2 (some .boolean) 1 [.ref o, .int a0] w (some (.int rZ)) w := by
  refine CallOK.of (ls := [some (.ref o), some (.int a0)]) (by decide) (by simp) rfl rfl ?_
  obtain ⟨Q, eQ⟩ : ∃ Q, Q = Qret cX4_has (some .boolean) (some (.int rZ)) w := ⟨_, rfl⟩
  rw [← eQ]
  unfold fX4_has at hf
  refine E_iload_n (v := a0) dX4_has_0 rfl ?_
  refine E_if_lt 16 dX4_has_1 (by decide) (fun hc1 => ?_) (fun hc1 => ?_)
  · rw [if_pos hc1] at hf
    refine E_iconst 0 dX4_has_16 ic_0 ?_
    obtain rfl := Option.some.inj hf
    exact E.done (by rw [eQ]; exact ⟨rfl, Or.inl ⟨_, _, rfl, rfl, dX4_has_17, rfl, rfl⟩⟩)
  · rw [if_neg hc1] at hf
    refine E_iload_n (v := a0) dX4_has_4 rfl ?_
    refine E_aload_n (v := o) dX4_has_5 rfl ?_
    refine E_getI fg_RX4_9 dX4_has_6 (J_s0 ho) rfl ?_
    refine E_icmp_ge 16 dX4_has_9 (by decide) (fun hc2 => ?_) (fun hc2 => ?_)
    · rw [if_pos hc2] at hf
      refine E_iconst 0 dX4_has_16 ic_0 ?_
      obtain rfl := Option.some.inj hf
      exact E.done (by rw [eQ]; exact ⟨rfl, Or.inl ⟨_, _, rfl, rfl, dX4_has_17, rfl, rfl⟩⟩)
    · rw [if_neg hc2] at hf
      refine E_iconst 1 dX4_has_12 ic_1 ?_
      refine E_goto 17 dX4_has_13 (by decide) ?_
      obtain rfl := Option.some.inj hf
      exact E.done (by rw [eQ]; exact ⟨rfl, Or.inl ⟨_, _, rfl, rfl, dX4_has_17, rfl, rfl⟩⟩)
set_option maxRecDepth 10000 in
set_option maxHeartbeats 2000000 in
theorem MX3_dayAt {a0 : Int32} {w : AW} {rZ : Int32} (hf : fX3_dayAt a0 w = some rZ) : CallOK PC yX3_dayAt cX3_dayAt 2 (some .int) 2 [.ref 46, .int a0] w (some (.int rZ)) w := by
  refine CallOK.of (ls := [some (.ref 46), some (.int a0)]) (by decide) (by simp) rfl rfl ?_
  obtain ⟨Q, eQ⟩ : ∃ Q, Q = Qret cX3_dayAt (some .int) (some (.int rZ)) w := ⟨_, rfl⟩
  rw [← eQ]
  unfold fX3_dayAt at hf
  refine E_aload_n (v := 46) dX3_dayAt_0 rfl ?_
  refine E_getR fg_RX3_11 dX3_dayAt_1 sC_46 rfl rC_46_0 (Nat.succ_ne_zero _) ?_
  refine E_iconst 0 dX3_dayAt_4 ic_0 ?_
  refine E_iload_n (v := a0) dX3_dayAt_5 rfl ?_
  refine E_bipush 126 dX3_dayAt_6 bp_126 ?_
  refine E_mmin wl_RX3_55 wsM_min win_math wcM_min dX3_dayAt_8 (by omega) (fun _ => Nat.le_of_ble_eq_true rfl) ?_
  refine E_mmax wl_RX3_61 wsM_max win_math wcM_max dX3_dayAt_11 (by omega) (fun _ => Nat.le_of_ble_eq_true rfl) ?_
  obtain ⟨hi1, hf⟩ := gd_some hf
  refine E_iald (n := 127) dX3_dayAt_14 sC_47 (by decide) (inb_in hi1) ?_
  obtain rfl := Option.some.inj hf
  exact E.done (by rw [eQ]; exact ⟨rfl, Or.inl ⟨_, _, rfl, rfl, dX3_dayAt_15, rfl, rfl⟩⟩)
set_option maxRecDepth 10000 in
set_option maxHeartbeats 2000000 in
theorem BX3_usedBehind_23 (o2 : Nat) (p1_23 : Int32) (p4_23 : Int32) (p5_23 : Int32) (q0_23 : Int32) (w : AW) (ho2 : isJ o2) (rZ : Int32) {Q : Nat → List (Option Value) → List Value → AW → Prop} (eQ : Q = Qret cX3_usedBehind (some .int) (some (.int rZ)) w) (hf : bX3_usedBehind_23 o2 p1_23 p4_23 p5_23 q0_23 w = some rZ) : E PC RX3 cX3_usedBehind 7 1 23 [some (.ref 46), some (.int p1_23), none, some (.ref o2), some (.int p4_23), some (.int p5_23), none] [.int q0_23] w Q := by
  unfold bX3_usedBehind_23 at hf
  refine E_istore (ls' := [some (.ref 46), some (.int p1_23), none, some (.ref o2), some (.int p4_23), some (.int p5_23), some (.int q0_23)]) dX3_usedBehind_23 rfl rfl rfl ?_
  refine E_iload_n (v := p1_23) dX3_usedBehind_25 rfl ?_
  refine E_if_ne 51 dX3_usedBehind_26 (by decide) (fun hc3 => ?_) (fun hc3 => ?_)
  · rw [if_pos hc3] at hf
    refine E_iload (v := p5_23) dX3_usedBehind_29 rfl ?_
    refine E_aload_n (v := 46) dX3_usedBehind_31 rfl ?_
    refine E_getI fg_RX3_28 dX3_usedBehind_32 sC_46 rfl ?_
    refine E_icmp_ne 45 dX3_usedBehind_35 (by decide) (fun hc4 => ?_) (fun hc4 => ?_)
    · rw [if_pos hc4] at hf
      refine E_aload_n (v := 46) dX3_usedBehind_38 rfl ?_
      refine E_getI fg_RX3_31 dX3_usedBehind_39 sC_46 rfl ?_
      refine E_goto 49 dX3_usedBehind_42 (by decide) ?_
      refine E_istore (ls' := [some (.ref 46), some (.int p1_23), none, some (.ref o2), some (.int p4_23), some (.int p5_23), some (.int (w.1 46 6))]) dX3_usedBehind_49 rfl rfl rfl ?_
      refine E_iload_n (v := p1_23) dX3_usedBehind_51 rfl ?_
      refine E_iload (v := (w.1 46 6)) dX3_usedBehind_52 rfl ?_
      refine E_iadd dX3_usedBehind_54 ?_
      refine E_aload_n (v := o2) dX3_usedBehind_55 rfl ?_
      refine E_getR fg_RX3_52 dX3_usedBehind_56 (J_s0 ho2) rfl (J_r0_2 ho2) (Nat.succ_ne_zero _) ?_
      refine E_iload (v := p4_23) dX3_usedBehind_59 rfl ?_
      obtain ⟨hi5, hf⟩ := gd_some hf
      refine E_iald (n := 6) dX3_usedBehind_61 (J_s2 ho2) (by decide) (inb_in hi5) ?_
      refine E_iadd dX3_usedBehind_62 ?_
      obtain rfl := Option.some.inj hf
      exact E.done (by rw [eQ]; exact ⟨rfl, Or.inl ⟨_, _, rfl, rfl, dX3_usedBehind_63, rfl, rfl⟩⟩)
    · rw [if_neg hc4] at hf
      refine E_aload_n (v := 46) dX3_usedBehind_45 rfl ?_
      refine E_getI fg_RX3_25 dX3_usedBehind_46 sC_46 rfl ?_
      refine E_istore (ls' := [some (.ref 46), some (.int p1_23), none, some (.ref o2), some (.int p4_23), some (.int p5_23), some (.int (w.1 46 4))]) dX3_usedBehind_49 rfl rfl rfl ?_
      refine E_iload_n (v := p1_23) dX3_usedBehind_51 rfl ?_
      refine E_iload (v := (w.1 46 4)) dX3_usedBehind_52 rfl ?_
      refine E_iadd dX3_usedBehind_54 ?_
      refine E_aload_n (v := o2) dX3_usedBehind_55 rfl ?_
      refine E_getR fg_RX3_52 dX3_usedBehind_56 (J_s0 ho2) rfl (J_r0_2 ho2) (Nat.succ_ne_zero _) ?_
      refine E_iload (v := p4_23) dX3_usedBehind_59 rfl ?_
      obtain ⟨hi6, hf⟩ := gd_some hf
      refine E_iald (n := 6) dX3_usedBehind_61 (J_s2 ho2) (by decide) (inb_in hi6) ?_
      refine E_iadd dX3_usedBehind_62 ?_
      obtain rfl := Option.some.inj hf
      exact E.done (by rw [eQ]; exact ⟨rfl, Or.inl ⟨_, _, rfl, rfl, dX3_usedBehind_63, rfl, rfl⟩⟩)
  · rw [if_neg hc3] at hf
    refine E_iload_n (v := p1_23) dX3_usedBehind_51 rfl ?_
    refine E_iload (v := q0_23) dX3_usedBehind_52 rfl ?_
    refine E_iadd dX3_usedBehind_54 ?_
    refine E_aload_n (v := o2) dX3_usedBehind_55 rfl ?_
    refine E_getR fg_RX3_52 dX3_usedBehind_56 (J_s0 ho2) rfl (J_r0_2 ho2) (Nat.succ_ne_zero _) ?_
    refine E_iload (v := p4_23) dX3_usedBehind_59 rfl ?_
    obtain ⟨hi7, hf⟩ := gd_some hf
    refine E_iald (n := 6) dX3_usedBehind_61 (J_s2 ho2) (by decide) (inb_in hi7) ?_
    refine E_iadd dX3_usedBehind_62 ?_
    obtain rfl := Option.some.inj hf
    exact E.done (by rw [eQ]; exact ⟨rfl, Or.inl ⟨_, _, rfl, rfl, dX3_usedBehind_63, rfl, rfl⟩⟩)
set_option maxRecDepth 10000 in
set_option maxHeartbeats 2000000 in
theorem MX3_usedBehind {a0 : Int32} {a1 : Int32} {o2 : Nat} {a3 : Int32} {w : AW} {rZ : Int32} (ho2 : isJ o2) (hf : fX3_usedBehind a0 a1 o2 a3 w = some rZ) : CallOK PC yX3_usedBehind cX3_usedBehind 7 (some .int) 1 [.ref 46, .int a0, .int a1, .ref o2, .int a3] w (some (.int rZ)) w := by
  refine CallOK.of (ls := [some (.ref 46), some (.int a0), some (.int a1), some (.ref o2), some (.int a3), none, none]) (by decide) (by simp) rfl rfl ?_
  obtain ⟨Q, eQ⟩ : ∃ Q, Q = Qret cX3_usedBehind (some .int) (some (.int rZ)) w := ⟨_, rfl⟩
  rw [← eQ]
  unfold fX3_usedBehind at hf
  refine E_aload_n (v := o2) dX3_usedBehind_0 rfl ?_
  refine E_getR fg_RX3_48 dX3_usedBehind_1 (J_s0 ho2) rfl (J_r0_3 ho2) (Nat.succ_ne_zero _) ?_
  refine E_iload (v := a3) dX3_usedBehind_4 rfl ?_
  obtain ⟨hi1, hf⟩ := gd_some hf
  refine E_iald (n := 6) dX3_usedBehind_6 (J_s3 ho2) (by decide) (inb_in hi1) ?_
  refine E_istore (ls' := [some (.ref 46), some (.int a0), some (.int a1), some (.ref o2), some (.int a3), some (.int (w.1 (o2 + 3) a3.toNatClampNeg)), none]) dX3_usedBehind_7 rfl rfl rfl ?_
  refine E_iload (v := (w.1 (o2 + 3) a3.toNatClampNeg)) dX3_usedBehind_9 rfl ?_
  refine E_iload_n (v := a1) dX3_usedBehind_11 rfl ?_
  refine E_icmp_ne 19 dX3_usedBehind_12 (by decide) (fun hc2 => ?_) (fun hc2 => ?_)
  · rw [if_pos hc2] at hf
    refine E_iconst 0 dX3_usedBehind_15 ic_0 ?_
    refine E_goto 23 dX3_usedBehind_16 (by decide) ?_
    refine E.fewer (ls' := [some (.ref 46), some (.int a0), none, some (.ref o2), some (.int a3), some (.int (w.1 (o2 + 3) a3.toNatClampNeg)), none]) ⟨Or.inr rfl, ⟨Or.inr rfl, ⟨Or.inl rfl, ⟨Or.inr rfl, ⟨Or.inr rfl, ⟨Or.inr rfl, ⟨Or.inl rfl, trivial⟩⟩⟩⟩⟩⟩⟩ ?_
    exact BX3_usedBehind_23 o2 a0 a3 (w.1 (o2 + 3) a3.toNatClampNeg) 0 w ho2 rZ eQ hf
  · rw [if_neg hc2] at hf
    refine E_aload_n (v := 46) dX3_usedBehind_19 rfl ?_
    refine E_getI fg_RX3_25 dX3_usedBehind_20 sC_46 rfl ?_
    refine E.fewer (ls' := [some (.ref 46), some (.int a0), none, some (.ref o2), some (.int a3), some (.int (w.1 (o2 + 3) a3.toNatClampNeg)), none]) ⟨Or.inr rfl, ⟨Or.inr rfl, ⟨Or.inl rfl, ⟨Or.inr rfl, ⟨Or.inr rfl, ⟨Or.inr rfl, ⟨Or.inl rfl, trivial⟩⟩⟩⟩⟩⟩⟩ ?_
    exact BX3_usedBehind_23 o2 a0 a3 (w.1 (o2 + 3) a3.toNatClampNeg) (w.1 46 4) w ho2 rZ eQ hf
set_option maxRecDepth 10000 in
set_option maxHeartbeats 2000000 in
theorem MX4_valueOf {o : Nat} {a0 : Int32} {a1 : Int32} {a2 : Int32} {w : AW} {rZ : Int32} (ho : isJ o) (hf : fX4_valueOf o a0 a1 a2 w = some rZ) : CallOK PC yX4_valueOf cX4_valueOf 4 (some .int) 1 [.ref o, .int a0, .int a1, .int a2] w (some (.int rZ)) w := by
  refine CallOK.of (ls := [some (.ref o), some (.int a0), some (.int a1), some (.int a2)]) (by decide) (by simp) rfl rfl ?_
  obtain ⟨Q, eQ⟩ : ∃ Q, Q = Qret cX4_valueOf (some .int) (some (.int rZ)) w := ⟨_, rfl⟩
  rw [← eQ]
  unfold fX4_valueOf at hf
  refine E_iload_n (v := a1) dX4_valueOf_0 rfl ?_
  refine E_aload_n (v := o) dX4_valueOf_1 rfl ?_
  refine E_getR fg_RX4_25 dX4_valueOf_2 (J_s0 ho) rfl (J_r0_4 ho) (Nat.succ_ne_zero _) ?_
  refine E_iload_n (v := a0) dX4_valueOf_5 rfl ?_
  obtain ⟨hi1, hf⟩ := gd_some hf
  refine E_iald (n := 6) dX4_valueOf_6 (J_s4 ho) (by decide) (inb_in hi1) ?_
  refine E_icmp_gt 17 dX4_valueOf_7 (by decide) (fun hc2 => ?_) (fun hc2 => ?_)
  · rw [if_pos hc2] at hf
    refine E_aload_n (v := o) dX4_valueOf_17 rfl ?_
    refine E_getR fg_RX4_15 dX4_valueOf_18 (J_s0 ho) rfl (J_r0_1 ho) (Nat.succ_ne_zero _) ?_
    refine E_iload_n (v := a0) dX4_valueOf_21 rfl ?_
    refine E_iald (n := 6) dX4_valueOf_22 (J_s1 ho) (by decide) (inb_in hi1) ?_
    by_cases hc3 : (w.1 (o + 1) a0.toNatClampNeg) = 1
    · rw [if_pos hc3] at hf
      refine E_tableIn 52 dX4_valueOf_23 (by rw [hc3]; decide) (by rw [hc3]; decide) (by rw [hc3]; rfl) (by decide) ?_
      refine E_bipush (-2) dX4_valueOf_52 bp_m2 ?_
      refine E_iload_n (v := a2) dX4_valueOf_54 rfl ?_
      refine E_imul dX4_valueOf_55 ?_
      obtain rfl := Option.some.inj hf
      exact E.done (by rw [eQ]; exact ⟨rfl, Or.inl ⟨_, _, rfl, rfl, dX4_valueOf_56, rfl, rfl⟩⟩)
    · rw [if_neg hc3] at hf
      by_cases hc4 : (w.1 (o + 1) a0.toNatClampNeg) = 2
      · rw [if_pos hc4] at hf
        refine E_tableIn 57 dX4_valueOf_23 (by rw [hc4]; decide) (by rw [hc4]; decide) (by rw [hc4]; rfl) (by decide) ?_
        refine E_aload_n (v := o) dX4_valueOf_57 rfl ?_
        refine E_getR fg_RX4_28 dX4_valueOf_58 (J_s0 ho) rfl (J_r0_5 ho) (Nat.succ_ne_zero _) ?_
        refine E_iload_n (v := a0) dX4_valueOf_61 rfl ?_
        refine E_iald (n := 6) dX4_valueOf_62 (J_s5 ho) (by decide) (inb_in hi1) ?_
        refine E_iconst 2 dX4_valueOf_63 ic_2 ?_
        refine E_idiv dX4_valueOf_64 (by decide) ?_
        obtain rfl := Option.some.inj hf
        exact E.done (by rw [eQ]; exact ⟨rfl, Or.inl ⟨_, _, rfl, rfl, dX4_valueOf_65, rfl, rfl⟩⟩)
      · rw [if_neg hc4] at hf
        by_cases hc5 : (w.1 (o + 1) a0.toNatClampNeg) = 3
        · rw [if_pos hc5] at hf
          refine E_tableIn 66 dX4_valueOf_23 (by rw [hc5]; decide) (by rw [hc5]; decide) (by rw [hc5]; rfl) (by decide) ?_
          refine E_aload_n (v := o) dX4_valueOf_66 rfl ?_
          refine E_getR fg_RX4_28 dX4_valueOf_67 (J_s0 ho) rfl (J_r0_5 ho) (Nat.succ_ne_zero _) ?_
          refine E_iload_n (v := a0) dX4_valueOf_70 rfl ?_
          refine E_iald (n := 6) dX4_valueOf_71 (J_s5 ho) (by decide) (inb_in hi1) ?_
          refine E_iconst 2 dX4_valueOf_72 ic_2 ?_
          refine E_idiv dX4_valueOf_73 (by decide) ?_
          refine E_iload_n (v := a2) dX4_valueOf_74 rfl ?_
          refine E_isub dX4_valueOf_75 ?_
          obtain rfl := Option.some.inj hf
          exact E.done (by rw [eQ]; exact ⟨rfl, Or.inl ⟨_, _, rfl, rfl, dX4_valueOf_76, rfl, rfl⟩⟩)
        · rw [if_neg hc5] at hf
          by_cases hc6 : (w.1 (o + 1) a0.toNatClampNeg) = 4
          · rw [if_pos hc6] at hf
            refine E_tableIn 77 dX4_valueOf_23 (by rw [hc6]; decide) (by rw [hc6]; decide) (by rw [hc6]; rfl) (by decide) ?_
            refine E_iload_n (v := a1) dX4_valueOf_77 rfl ?_
            refine E_aload_n (v := o) dX4_valueOf_78 rfl ?_
            refine E_getR fg_RX4_25 dX4_valueOf_79 (J_s0 ho) rfl (J_r0_4 ho) (Nat.succ_ne_zero _) ?_
            refine E_iload_n (v := a0) dX4_valueOf_82 rfl ?_
            refine E_iald (n := 6) dX4_valueOf_83 (J_s4 ho) (by decide) (inb_in hi1) ?_
            refine E_iconst 1 dX4_valueOf_84 ic_1 ?_
            refine E_iadd dX4_valueOf_85 ?_
            refine E_icmp_ne 93 dX4_valueOf_86 (by decide) (fun hc7 => ?_) (fun hc7 => ?_)
            · rw [if_pos hc7] at hf
              refine E_iconst 0 dX4_valueOf_89 ic_0 ?_
              refine E_goto 97 dX4_valueOf_90 (by decide) ?_
              obtain rfl := Option.some.inj hf
              exact E.done (by rw [eQ]; exact ⟨rfl, Or.inl ⟨_, _, rfl, rfl, dX4_valueOf_97, rfl, rfl⟩⟩)
            · rw [if_neg hc7] at hf
              refine E_bipush (-2) dX4_valueOf_93 bp_m2 ?_
              refine E_iload_n (v := a2) dX4_valueOf_95 rfl ?_
              refine E_imul dX4_valueOf_96 ?_
              obtain rfl := Option.some.inj hf
              exact E.done (by rw [eQ]; exact ⟨rfl, Or.inl ⟨_, _, rfl, rfl, dX4_valueOf_97, rfl, rfl⟩⟩)
          · rw [if_neg hc6] at hf
            refine E_tableOut 98 dX4_valueOf_23 (tb_1_4 hc3 hc4 hc5 hc6) (by decide) ?_
            refine E_iload_n (v := a2) dX4_valueOf_98 rfl ?_
            refine E_ineg dX4_valueOf_99 ?_
            obtain rfl := Option.some.inj hf
            exact E.done (by rw [eQ]; exact ⟨rfl, Or.inl ⟨_, _, rfl, rfl, dX4_valueOf_100, rfl, rfl⟩⟩)
  · rw [if_neg hc2] at hf
    refine E_aload_n (v := o) dX4_valueOf_10 rfl ?_
    refine E_getR fg_RX4_28 dX4_valueOf_11 (J_s0 ho) rfl (J_r0_5 ho) (Nat.succ_ne_zero _) ?_
    refine E_iload_n (v := a0) dX4_valueOf_14 rfl ?_
    refine E_iald (n := 6) dX4_valueOf_15 (J_s5 ho) (by decide) (inb_in hi1) ?_
    obtain rfl := Option.some.inj hf
    exact E.done (by rw [eQ]; exact ⟨rfl, Or.inl ⟨_, _, rfl, rfl, dX4_valueOf_16, rfl, rfl⟩⟩)
set_option maxRecDepth 10000 in
set_option maxHeartbeats 2000000 in
theorem MX5_lossOf {o0 : Nat} {a1 : Int32} {a2 : Int32} {w : AW} {rZ : Int32} (ho0 : isJ o0) (hf : fX5_lossOf o0 a1 a2 w = some rZ) : CallOK PC yX5_lossOf cX5_lossOf 5 (some .int) 2 [.ref 49, .ref o0, .int a1, .int a2] w (some (.int rZ)) w := by
  refine CallOK.of (ls := [some (.ref 49), some (.ref o0), some (.int a1), some (.int a2), none]) (by decide) (by simp) rfl rfl ?_
  obtain ⟨Q, eQ⟩ : ∃ Q, Q = Qret cX5_lossOf (some .int) (some (.int rZ)) w := ⟨_, rfl⟩
  rw [← eQ]
  unfold fX5_lossOf at hf
  refine E_iload_n (v := a2) dX5_lossOf_0 rfl ?_
  refine E_aload_n (v := o0) dX5_lossOf_1 rfl ?_
  refine E_getR fg_RX5_76 dX5_lossOf_2 (J_s0 ho0) rfl (J_r0_4 ho0) (Nat.succ_ne_zero _) ?_
  refine E_iload_n (v := a1) dX5_lossOf_5 rfl ?_
  obtain ⟨hi1, hf⟩ := gd_some hf
  refine E_iald (n := 6) dX5_lossOf_6 (J_s4 ho0) (by decide) (inb_in hi1) ?_
  refine E_icmp_le 14 dX5_lossOf_7 (by decide) (fun hc2 => ?_) (fun hc2 => ?_)
  · rw [if_pos hc2] at hf
    refine E_iconst 0 dX5_lossOf_14 ic_0 ?_
    refine E_istore (ls' := [some (.ref 49), some (.ref o0), some (.int a1), some (.int a2), some (.int 0)]) dX5_lossOf_15 rfl rfl rfl ?_
    refine E_aload_n (v := 49) dX5_lossOf_17 rfl ?_
    refine E_getI fg_RX5_18 dX5_lossOf_18 sC_49 rfl ?_
    by_cases hc3 : (w.1 49 3) = 0
    · rw [if_pos hc3] at hf
      refine E_lookup 48 dX5_lossOf_21 (by decide) (by first | (rw [hc3]; done) | (rw [hc3]; rfl)) (by decide) ?_
      refine E_aload_n (v := o0) dX5_lossOf_48 rfl ?_
      refine E_getR fg_RX5_38 dX5_lossOf_49 (J_s0 ho0) rfl (J_r0_5 ho0) (Nat.succ_ne_zero _) ?_
      refine E_iload_n (v := a1) dX5_lossOf_52 rfl ?_
      refine E_iald (n := 6) dX5_lossOf_53 (J_s5 ho0) (by decide) (inb_in hi1) ?_
      refine E_aload_n (v := o0) dX5_lossOf_54 rfl ?_
      refine E_iload_n (v := a1) dX5_lossOf_55 rfl ?_
      refine E_iload_n (v := a2) dX5_lossOf_56 rfl ?_
      refine E_aload_n (v := 49) dX5_lossOf_57 rfl ?_
      refine E_getR fg_RX5_29 dX5_lossOf_58 sC_49 rfl rC_49_0 (Nat.succ_ne_zero _) ?_
      refine E_getI fg_RX5_79 dX5_lossOf_61 sC_46 rfl ?_
      obtain ⟨r5, hc4, hf⟩ := bd_some hf
      try dsimp only at hf
      refine E_callVi (rest := [.int (w.1 (o0 + 5) a1.toNatClampNeg)]) (ci := 4) cv_RX5_82 dX5_lossOf_64 (MX4_valueOf ho0 hc4) rfl (J_s0 ho0) rfl (by decide) rfl rfl (fun _ => Nat.le_of_ble_eq_true rfl) ?_
      refine E_isub dX5_lossOf_67 ?_
      obtain rfl := Option.some.inj hf
      exact E.done (by rw [eQ]; exact ⟨rfl, Or.inl ⟨_, _, rfl, rfl, dX5_lossOf_68, rfl, rfl⟩⟩)
    · rw [if_neg hc3] at hf
      by_cases hc6 : (w.1 49 3) = 1
      · rw [if_pos hc6] at hf
        refine E_lookup 69 dX5_lossOf_21 (by decide) (by first | (rw [hc6]; done) | (rw [hc6]; rfl)) (by decide) ?_
        refine E_iload (v := 0) dX5_lossOf_69 rfl ?_
        refine E_if_eq 78 dX5_lossOf_71 (by decide) (fun _ => ?_) (fun hc7 => absurd (by decide) hc7)
        refine E_iconst 0 dX5_lossOf_78 ic_0 ?_
        obtain rfl := Option.some.inj hf
        exact E.done (by rw [eQ]; exact ⟨rfl, Or.inl ⟨_, _, rfl, rfl, dX5_lossOf_79, rfl, rfl⟩⟩)
      · rw [if_neg hc6] at hf
        refine E_lookup 80 dX5_lossOf_21 (by decide) (off := 59) (by simp [Op.lookupswitch.offset, lk_ne2 (n := 0) hc3 (by decide), lk_ne2 (n := 1) hc6 (by decide)]) (by decide) ?_
        refine E_iload_n (v := a1) dX5_lossOf_80 rfl ?_
        refine E_aload_n (v := o0) dX5_lossOf_81 rfl ?_
        refine E_getI fg_RX5_33 dX5_lossOf_82 (J_s0 ho0) rfl ?_
        refine E_iconst 1 dX5_lossOf_85 ic_1 ?_
        refine E_isub dX5_lossOf_86 ?_
        refine E_icmp_ne 92 dX5_lossOf_87 (by decide) (fun hc8 => ?_) (fun hc8 => ?_)
        · rw [if_pos hc8] at hf
          refine E_iload_n (v := a2) dX5_lossOf_90 rfl ?_
          obtain rfl := Option.some.inj hf
          exact E.done (by rw [eQ]; exact ⟨rfl, Or.inl ⟨_, _, rfl, rfl, dX5_lossOf_91, rfl, rfl⟩⟩)
        · rw [if_neg hc8] at hf
          refine E_iload (v := 0) dX5_lossOf_92 rfl ?_
          refine E_if_eq 102 dX5_lossOf_94 (by decide) (fun _ => ?_) (fun hc9 => absurd (by decide) hc9)
          refine E_iconst 0 dX5_lossOf_102 ic_0 ?_
          obtain rfl := Option.some.inj hf
          exact E.done (by rw [eQ]; exact ⟨rfl, Or.inl ⟨_, _, rfl, rfl, dX5_lossOf_103, rfl, rfl⟩⟩)
  · rw [if_neg hc2] at hf
    refine E_iconst 1 dX5_lossOf_10 ic_1 ?_
    refine E_goto 15 dX5_lossOf_11 (by decide) ?_
    refine E_istore (ls' := [some (.ref 49), some (.ref o0), some (.int a1), some (.int a2), some (.int 1)]) dX5_lossOf_15 rfl rfl rfl ?_
    refine E_aload_n (v := 49) dX5_lossOf_17 rfl ?_
    refine E_getI fg_RX5_18 dX5_lossOf_18 sC_49 rfl ?_
    by_cases hc10 : (w.1 49 3) = 0
    · rw [if_pos hc10] at hf
      refine E_lookup 48 dX5_lossOf_21 (by decide) (by first | (rw [hc10]; done) | (rw [hc10]; rfl)) (by decide) ?_
      refine E_aload_n (v := o0) dX5_lossOf_48 rfl ?_
      refine E_getR fg_RX5_38 dX5_lossOf_49 (J_s0 ho0) rfl (J_r0_5 ho0) (Nat.succ_ne_zero _) ?_
      refine E_iload_n (v := a1) dX5_lossOf_52 rfl ?_
      refine E_iald (n := 6) dX5_lossOf_53 (J_s5 ho0) (by decide) (inb_in hi1) ?_
      refine E_aload_n (v := o0) dX5_lossOf_54 rfl ?_
      refine E_iload_n (v := a1) dX5_lossOf_55 rfl ?_
      refine E_iload_n (v := a2) dX5_lossOf_56 rfl ?_
      refine E_aload_n (v := 49) dX5_lossOf_57 rfl ?_
      refine E_getR fg_RX5_29 dX5_lossOf_58 sC_49 rfl rC_49_0 (Nat.succ_ne_zero _) ?_
      refine E_getI fg_RX5_79 dX5_lossOf_61 sC_46 rfl ?_
      obtain ⟨r12, hc11, hf⟩ := bd_some hf
      try dsimp only at hf
      refine E_callVi (rest := [.int (w.1 (o0 + 5) a1.toNatClampNeg)]) (ci := 4) cv_RX5_82 dX5_lossOf_64 (MX4_valueOf ho0 hc11) rfl (J_s0 ho0) rfl (by decide) rfl rfl (fun _ => Nat.le_of_ble_eq_true rfl) ?_
      refine E_isub dX5_lossOf_67 ?_
      obtain rfl := Option.some.inj hf
      exact E.done (by rw [eQ]; exact ⟨rfl, Or.inl ⟨_, _, rfl, rfl, dX5_lossOf_68, rfl, rfl⟩⟩)
    · rw [if_neg hc10] at hf
      by_cases hc13 : (w.1 49 3) = 1
      · rw [if_pos hc13] at hf
        refine E_lookup 69 dX5_lossOf_21 (by decide) (by first | (rw [hc13]; done) | (rw [hc13]; rfl)) (by decide) ?_
        refine E_iload (v := 1) dX5_lossOf_69 rfl ?_
        refine E_if_eq 78 dX5_lossOf_71 (by decide) (fun hc14 => absurd hc14 (by decide)) (fun _ => ?_)
        refine E_iconst 1 dX5_lossOf_74 ic_1 ?_
        refine E_goto 79 dX5_lossOf_75 (by decide) ?_
        obtain rfl := Option.some.inj hf
        exact E.done (by rw [eQ]; exact ⟨rfl, Or.inl ⟨_, _, rfl, rfl, dX5_lossOf_79, rfl, rfl⟩⟩)
      · rw [if_neg hc13] at hf
        refine E_lookup 80 dX5_lossOf_21 (by decide) (off := 59) (by simp [Op.lookupswitch.offset, lk_ne2 (n := 0) hc10 (by decide), lk_ne2 (n := 1) hc13 (by decide)]) (by decide) ?_
        refine E_iload_n (v := a1) dX5_lossOf_80 rfl ?_
        refine E_aload_n (v := o0) dX5_lossOf_81 rfl ?_
        refine E_getI fg_RX5_33 dX5_lossOf_82 (J_s0 ho0) rfl ?_
        refine E_iconst 1 dX5_lossOf_85 ic_1 ?_
        refine E_isub dX5_lossOf_86 ?_
        refine E_icmp_ne 92 dX5_lossOf_87 (by decide) (fun hc15 => ?_) (fun hc15 => ?_)
        · rw [if_pos hc15] at hf
          refine E_iload_n (v := a2) dX5_lossOf_90 rfl ?_
          obtain rfl := Option.some.inj hf
          exact E.done (by rw [eQ]; exact ⟨rfl, Or.inl ⟨_, _, rfl, rfl, dX5_lossOf_91, rfl, rfl⟩⟩)
        · rw [if_neg hc15] at hf
          refine E_iload (v := 1) dX5_lossOf_92 rfl ?_
          refine E_if_eq 102 dX5_lossOf_94 (by decide) (fun hc16 => absurd hc16 (by decide)) (fun _ => ?_)
          refine E_ldc 1000000 dX5_lossOf_97 wk_RX5_25 ?_
          refine E_goto 103 dX5_lossOf_99 (by decide) ?_
          obtain rfl := Option.some.inj hf
          exact E.done (by rw [eQ]; exact ⟨rfl, Or.inl ⟨_, _, rfl, rfl, dX5_lossOf_103, rfl, rfl⟩⟩)
set_option maxRecDepth 10000 in
set_option maxHeartbeats 2000000 in
theorem MX5_walk_b {N n9 : Nat} {rec : Nat → Int32 → Int32 → Int32 → Int32 → Int32 → AW → Option (AW)} (hrec : ∀ (o0 : Nat) (a1 : Int32) (a2 : Int32) (a3 : Int32) (a4 : Int32) (a5 : Int32) (w : AW) (wZ : AW) (ho0 : isJ o0) , rec o0 a1 a2 a3 a4 a5 w = some wZ → CallOK PC yX5_walk cX5_walk 10 none (3 + n9 - 1) [.ref 49, .ref o0, .int a1, .int a2, .int a3, .int a4, .int a5] w none wZ) {o0 : Nat} {a1 : Int32} {a2 : Int32} {a3 : Int32} {a4 : Int32} {a5 : Int32} {w : AW} {wZ : AW} (ho0 : isJ o0) (hf : fX5_walk_b N rec o0 a1 a2 a3 a4 a5 w = some wZ) : CallOK PC yX5_walk cX5_walk 10 none (3 + n9) [.ref 49, .ref o0, .int a1, .int a2, .int a3, .int a4, .int a5] w none wZ := by
  refine CallOK.of (ls := [some (.ref 49), some (.ref o0), some (.int a1), some (.int a2), some (.int a3), some (.int a4), some (.int a5), none, none, none]) (by decide) (by simp) rfl rfl ?_
  obtain ⟨Q, eQ⟩ : ∃ Q, Q = Qret cX5_walk none none wZ := ⟨_, rfl⟩
  rw [← eQ]
  unfold fX5_walk_b at hf
  refine E_iload (v := a5) dX5_walk_0 rfl ?_
  refine E_aload_n (v := 49) dX5_walk_2 rfl ?_
  refine E_getI fg_RX5_26 dX5_walk_3 sC_49 rfl ?_
  refine E_icmp_lt 10 dX5_walk_6 (by decide) (fun hc1 => ?_) (fun hc1 => ?_)
  · rw [if_pos hc1] at hf
    refine E_iload_n (v := a1) dX5_walk_10 rfl ?_
    refine E_aload_n (v := 49) dX5_walk_11 rfl ?_
    refine E_getI fg_RX5_22 dX5_walk_12 sC_49 rfl ?_
    refine E_icmp_lt 40 dX5_walk_15 (by decide) (fun hc2 => ?_) (fun hc2 => ?_)
    · rw [if_pos hc2] at hf
      refine E_iconst 0 dX5_walk_40 ic_0 ?_
      refine E_istore (ls' := [some (.ref 49), some (.ref o0), some (.int a1), some (.int a2), some (.int a3), some (.int a4), some (.int a5), some (.int 0), none, none]) dX5_walk_41 rfl rfl rfl ?_
      obtain ⟨q, hw16, hf⟩ := bd_some hf
      try dsimp only at hf
      show (fun (s : Int32 × AW) => E PC RX5 cX5_walk 10 (3 + n9) 43 [some (.ref 49), some (.ref o0), some (.int a1), some (.int a2), some (.int a3), some (.int a4), some (.int a5), some (.int s.1), none, none] [] s.2 Q) (0, w)
      refine wh_E (K := (fun (s : Int32 × AW) => E PC RX5 cX5_walk 10 (3 + n9) 43 [some (.ref 49), some (.ref o0), some (.int a1), some (.int a2), some (.int a3), some (.int a4), some (.int a5), some (.int s.1), none, none] [] s.2 Q)) (X := (fun (s : AW) => E PC RX5 cX5_walk 10 (3 + n9) 141 [none, none, none, none, none, none, none, none, none, none] [] s Q)) ?_ hw16 ?_
      · intro s9 z9 hf k9
        obtain ⟨x7_43_1, w_43_1⟩ := s9
        dsimp only [lbX5_walk_43_1] at hf
        show E PC RX5 cX5_walk 10 (3 + n9) 43 [some (.ref 49), some (.ref o0), some (.int a1), some (.int a2), some (.int a3), some (.int a4), some (.int a5), some (.int x7_43_1), none, none] [] w_43_1 Q
        refine E_iload (v := x7_43_1) dX5_walk_43 rfl ?_
        refine E_aload_n (v := o0) dX5_walk_45 rfl ?_
        refine E_getI fg_RX5_33 dX5_walk_46 (J_s0 ho0) rfl ?_
        refine E_icmp_ge 141 dX5_walk_49 (by decide) (fun hc3 => ?_) (fun hc3 => ?_)
        · rw [if_pos hc3] at hf
          obtain rfl := Option.some.inj hf
          refine E.fewer (ls' := [none, none, none, none, none, none, none, none, none, none]) ⟨Or.inl rfl, ⟨Or.inl rfl, ⟨Or.inl rfl, ⟨Or.inl rfl, ⟨Or.inl rfl, ⟨Or.inl rfl, ⟨Or.inl rfl, ⟨Or.inl rfl, ⟨Or.inl rfl, ⟨Or.inl rfl, trivial⟩⟩⟩⟩⟩⟩⟩⟩⟩⟩ ?_
          exact k9
        · rw [if_neg hc3] at hf
          refine E_iload (v := a4) dX5_walk_52 rfl ?_
          refine E_iload (v := x7_43_1) dX5_walk_54 rfl ?_
          refine E_ishr dX5_walk_56 ?_
          refine E_iconst 1 dX5_walk_57 ic_1 ?_
          refine E_iand dX5_walk_58 ?_
          refine E_if_eq 65 dX5_walk_59 (by decide) (fun hc4 => ?_) (fun hc4 => ?_)
          · rw [if_pos hc4] at hf
            refine E_aload_n (v := 49) dX5_walk_65 rfl ?_
            refine E_getR fg_RX5_29 dX5_walk_66 sC_49 rfl rC_49_0 (Nat.succ_ne_zero _) ?_
            refine E_iload_n (v := a2) dX5_walk_69 rfl ?_
            refine E_iload (v := a3) dX5_walk_70 rfl ?_
            refine E_aload_n (v := o0) dX5_walk_72 rfl ?_
            refine E_iload (v := x7_43_1) dX5_walk_73 rfl ?_
            obtain ⟨r6, hc5, hf⟩ := bd_some hf
            try dsimp only at hf
            refine E_callVi (rest := []) (ci := 3) cv_RX5_59 dX5_walk_75 (MX3_usedBehind ho0 hc5) (Nat.ble_eq_true_of_le (by omega)) sC_46 rfl (by decide) rfl rfl (fun _ => Nat.le_of_ble_eq_true rfl) ?_
            refine E_istore (ls' := [some (.ref 49), some (.ref o0), some (.int a1), some (.int a2), some (.int a3), some (.int a4), some (.int a5), some (.int x7_43_1), some (.int r6), none]) dX5_walk_78 rfl rfl rfl ?_
            refine E_aload_n (v := 49) dX5_walk_80 rfl ?_
            refine E_getR fg_RX5_9 dX5_walk_81 sC_49 rfl rC_49_1 (Nat.succ_ne_zero _) ?_
            refine E_iload_n (v := a1) dX5_walk_84 rfl ?_
            refine E_iload (v := x7_43_1) dX5_walk_85 rfl ?_
            obtain ⟨hi7, hf⟩ := gd_some hf
            obtain ⟨w8, ew8, hf⟩ := lw_some hf
            try dsimp only at hf
            refine E_iast (n := 6) dX5_walk_87 sC_50 (by decide) (inb_in hi7) ?_
            rw [← ew8]
            refine E_aload_n (v := 49) dX5_walk_88 rfl ?_
            refine E_aload_n (v := o0) dX5_walk_89 rfl ?_
            refine E_iload (v := x7_43_1) dX5_walk_90 rfl ?_
            refine E_aload_n (v := 49) dX5_walk_92 rfl ?_
            refine E_getR fg_RX5_29 dX5_walk_93 sC_49 rfl rC_49_0 (Nat.succ_ne_zero _) ?_
            refine E_iload (v := r6) dX5_walk_96 rfl ?_
            obtain ⟨r10, hc9, hf⟩ := bd_some hf
            try dsimp only at hf
            refine E_callVi (rest := [.int x7_43_1, .ref o0, .ref 49]) (ci := 3) cv_RX5_65 dX5_walk_98 (MX3_dayAt hc9) (Nat.ble_eq_true_of_le (by omega)) sC_46 rfl (by decide) rfl rfl (fun _ => Nat.le_of_ble_eq_true rfl) ?_
            obtain ⟨r12, hc11, hf⟩ := bd_some hf
            try dsimp only at hf
            refine E_callVi (rest := []) (ci := 5) cv_RX5_69 dX5_walk_101 (MX5_lossOf ho0 hc11) (Nat.ble_eq_true_of_le (by omega)) sC_49 rfl (by decide) rfl rfl (fun _ => Nat.le_of_ble_eq_true rfl) ?_
            refine E_istore (ls' := [some (.ref 49), some (.ref o0), some (.int a1), some (.int a2), some (.int a3), some (.int a4), some (.int a5), some (.int x7_43_1), some (.int r6), some (.int r12)]) dX5_walk_104 rfl rfl rfl ?_
            refine E_aload_n (v := 49) dX5_walk_106 rfl ?_
            refine E_aload_n (v := o0) dX5_walk_107 rfl ?_
            refine E_iload_n (v := a1) dX5_walk_108 rfl ?_
            refine E_iconst 1 dX5_walk_109 ic_1 ?_
            refine E_iadd dX5_walk_110 ?_
            refine E_iload (v := r6) dX5_walk_111 rfl ?_
            refine E_aload_n (v := o0) dX5_walk_113 rfl ?_
            refine E_getR fg_RX5_73 dX5_walk_114 (J_s0 ho0) rfl (J_r0_3 ho0) (Nat.succ_ne_zero _) ?_
            refine E_iload (v := x7_43_1) dX5_walk_117 rfl ?_
            obtain ⟨hi13, hf⟩ := gd_some hf
            refine E_iald (n := 6) dX5_walk_119 (J_s3 ho0) (by decide) (inb_in hi13) ?_
            refine E_iload (v := a4) dX5_walk_120 rfl ?_
            refine E_iconst 1 dX5_walk_122 ic_1 ?_
            refine E_iload (v := x7_43_1) dX5_walk_123 rfl ?_
            refine E_ishl dX5_walk_125 ?_
            refine E_ior dX5_walk_126 ?_
            refine E_iload (v := a5) dX5_walk_127 rfl ?_
            refine E_iload (v := r12) dX5_walk_129 rfl ?_
            refine E_iadd dX5_walk_131 ?_
            obtain ⟨w15, hc14, hf⟩ := bd_some hf
            try dsimp only at hf
            refine E_callVv (rest := []) (ci := 5) cv_RX5_49 dX5_walk_132 (hrec _ _ _ _ _ _ _ _ ho0 hc14) (Nat.ble_eq_true_of_le (by omega)) sC_49 rfl (by decide) rfl rfl (fun _ => Nat.le_of_ble_eq_true rfl) ?_
            refine E_iinc (ls' := [some (.ref 49), some (.ref o0), some (.int a1), some (.int a2), some (.int a3), some (.int a4), some (.int a5), some (.int (x7_43_1 + 1)), some (.int r6), some (.int r12)]) 1 dX5_walk_135 rfl ic_1 rfl rfl rfl ?_
            refine E_goto 43 dX5_walk_138 (by decide) ?_
            obtain rfl := Option.some.inj hf
            refine E.fewer (ls' := [some (.ref 49), some (.ref o0), some (.int a1), some (.int a2), some (.int a3), some (.int a4), some (.int a5), some (.int (x7_43_1 + 1)), none, none]) ⟨Or.inr rfl, ⟨Or.inr rfl, ⟨Or.inr rfl, ⟨Or.inr rfl, ⟨Or.inr rfl, ⟨Or.inr rfl, ⟨Or.inr rfl, ⟨Or.inr rfl, ⟨Or.inl rfl, ⟨Or.inl rfl, trivial⟩⟩⟩⟩⟩⟩⟩⟩⟩⟩ ?_
            exact k9
          · rw [if_neg hc4] at hf
            refine E_goto 135 dX5_walk_62 (by decide) ?_
            refine E_iinc (ls' := [some (.ref 49), some (.ref o0), some (.int a1), some (.int a2), some (.int a3), some (.int a4), some (.int a5), some (.int (x7_43_1 + 1)), none, none]) 1 dX5_walk_135 rfl ic_1 rfl rfl rfl ?_
            refine E_goto 43 dX5_walk_138 (by decide) ?_
            obtain rfl := Option.some.inj hf
            exact k9
      · skip
        obtain ⟨w17, hq9⟩ : ∃ a, a = q := ⟨_, rfl⟩
        subst hq9
        try dsimp only at hf
        show E PC RX5 cX5_walk 10 (3 + n9) 141 [none, none, none, none, none, none, none, none, none, none] [] w17 Q
        obtain rfl := Option.some.inj hf
        exact E.done (by rw [eQ]; exact ⟨rfl, Or.inr ⟨rfl, rfl, dX5_walk_141, rfl⟩⟩)
    · rw [if_neg hc2] at hf
      refine E_aload_n (v := 49) dX5_walk_18 rfl ?_
      refine E_iload (v := a5) dX5_walk_19 rfl ?_
      obtain ⟨w18, ew18, hf⟩ := lw_some hf
      try dsimp only at hf
      refine E_putI fp_RX5_26 dX5_walk_21 sC_49 rfl rfl rfl ?_
      rw [← ew18]
      refine E_aload_n (v := 49) dX5_walk_24 rfl ?_
      refine E_getR fg_RX5_9 dX5_walk_25 sC_49 rfl rC_49_1 (Nat.succ_ne_zero _) ?_
      refine E_iconst 0 dX5_walk_28 ic_0 ?_
      refine E_aload_n (v := 49) dX5_walk_29 rfl ?_
      refine E_getR fg_RX5_15 dX5_walk_30 sC_49 rfl rC_49_2 (Nat.succ_ne_zero _) ?_
      refine E_iconst 0 dX5_walk_33 ic_0 ?_
      refine E_bipush 6 dX5_walk_34 bp_6 ?_
      obtain ⟨w19, ew19, hf⟩ := lw_some hf
      try dsimp only at hf
      refine E_copyI (n0 := 6) (n1 := 6) wl_RX5_53 wna_copy wst_copy win_sys dX5_walk_36 (by omega) rfl sC_50 (by decide) sC_51 (by decide) (by decide) (by decide) (by decide) (by decide) (by decide) ?_
      rw [← ew19]
      obtain rfl := Option.some.inj hf
      exact E.done (by rw [eQ]; exact ⟨rfl, Or.inr ⟨rfl, rfl, dX5_walk_39, rfl⟩⟩)
  · rw [if_neg hc1] at hf
    obtain rfl := Option.some.inj hf
    exact E.done (by rw [eQ]; exact ⟨rfl, Or.inr ⟨rfl, rfl, dX5_walk_9, rfl⟩⟩)
theorem MX5_walk {N : Nat} : ∀ (n : Nat) (o0 : Nat) (a1 : Int32) (a2 : Int32) (a3 : Int32) (a4 : Int32) (a5 : Int32) (w : AW) (wZ : AW) (ho0 : isJ o0) , fX5_walk N n o0 a1 a2 a3 a4 a5 w = some wZ → CallOK PC yX5_walk cX5_walk 10 none (3 + n) [.ref 49, .ref o0, .int a1, .int a2, .int a3, .int a4, .int a5] w none wZ := by
  intro n
  induction n with
  | zero => intro o0 a1 a2 a3 a4 a5 w wZ ho0 hf; simp [fX5_walk] at hf
  | succ n ih => intro o0 a1 a2 a3 a4 a5 w wZ ho0 hf; exact MX5_walk_b (n9 := n + 1) (fun o0 a1 a2 a3 a4 a5 w z ho0 h => ih o0 a1 a2 a3 a4 a5 w z ho0 h) ho0 (by simpa [fX5_walk] using hf)
set_option maxRecDepth 10000 in
set_option maxHeartbeats 2000000 in
theorem MX5_leastLost {N : Nat} {a0 : Int32} {o1 : Nat} {a2 : Int32} {w : AW} {rZ : Int32} {wZ : AW} (ho1 : isJ o1) (hf : fX5_leastLost N a0 o1 a2 w = some (rZ, wZ)) : CallOK PC yX5_leastLost cX5_leastLost 5 (some .int) 12 [.ref 49, .int a0, .ref o1, .int a2] w (some (.int rZ)) wZ := by
  refine CallOK.of (ls := [some (.ref 49), some (.int a0), some (.ref o1), some (.int a2), none]) (by decide) (by simp) rfl rfl ?_
  obtain ⟨Q, eQ⟩ : ∃ Q, Q = Qret cX5_leastLost (some .int) (some (.int rZ)) wZ := ⟨_, rfl⟩
  rw [← eQ]
  unfold fX5_leastLost at hf
  refine E_aload_n (v := 49) dX5_leastLost_0 rfl ?_
  refine E_iload_n (v := a0) dX5_leastLost_1 rfl ?_
  obtain ⟨w1, ew1, hf⟩ := lw_some hf
  try dsimp only at hf
  refine E_putI fp_RX5_18 dX5_leastLost_2 sC_49 rfl rfl rfl ?_
  rw [← ew1]
  refine E_aload_n (v := 49) dX5_leastLost_5 rfl ?_
  refine E_ldc 1000000 dX5_leastLost_6 wk_RX5_25 ?_
  obtain ⟨w2, ew2, hf⟩ := lw_some hf
  try dsimp only at hf
  refine E_putI fp_RX5_26 dX5_leastLost_8 sC_49 rfl rfl rfl ?_
  rw [← ew2]
  refine E_aload_n (v := o1) dX5_leastLost_11 rfl ?_
  refine E_iload_n (v := a2) dX5_leastLost_12 rfl ?_
  obtain ⟨r4, hc3, hf⟩ := bd_some hf
  try dsimp only at hf
  refine E_callVi (rest := []) (ci := 4) cv_RX5_45 dX5_leastLost_13 (MX4_has ho1 hc3) rfl (J_s0 ho1) rfl (by decide) rfl rfl (fun _ => Nat.le_of_ble_eq_true rfl) ?_
  refine E_istore (ls' := [some (.ref 49), some (.int a0), some (.ref o1), some (.int a2), some (.int r4)]) dX5_leastLost_16 rfl rfl rfl ?_
  refine E_aload_n (v := 49) dX5_leastLost_18 rfl ?_
  refine E_iload (v := r4) dX5_leastLost_19 rfl ?_
  refine E_if_eq 33 dX5_leastLost_21 (by decide) (fun hc5 => ?_) (fun hc5 => ?_)
  · rw [if_pos hc5] at hf
    refine E_aload_n (v := o1) dX5_leastLost_33 rfl ?_
    refine E_getI fg_RX5_33 dX5_leastLost_34 (J_s0 ho1) rfl ?_
    obtain ⟨w6, ew6, hf⟩ := lw_some hf
    try dsimp only at hf
    refine E_putI fp_RX5_22 dX5_leastLost_37 sC_49 rfl rfl rfl ?_
    rw [← ew6]
    refine E_aload_n (v := 49) dX5_leastLost_40 rfl ?_
    refine E_aload_n (v := o1) dX5_leastLost_41 rfl ?_
    refine E_iconst 0 dX5_leastLost_42 ic_0 ?_
    refine E_iconst 0 dX5_leastLost_43 ic_0 ?_
    refine E_iconst 0 dX5_leastLost_44 ic_0 ?_
    refine E_iload (v := r4) dX5_leastLost_45 rfl ?_
    refine E_if_eq 56 dX5_leastLost_47 (by decide) (fun hc7 => ?_) (fun hc7 => ?_)
    · rw [if_pos hc7] at hf
      refine E_iconst 0 dX5_leastLost_56 ic_0 ?_
      refine E_iconst 0 dX5_leastLost_57 ic_0 ?_
      obtain ⟨w9, hc8, hf⟩ := bd_some hf
      try dsimp only at hf
      refine E_callVv (rest := []) (ci := 5) cv_RX5_49 dX5_leastLost_58 (MX5_walk 8 _ _ _ _ _ _ _ _ ho1 hc8) rfl sC_49 rfl (by decide) rfl rfl (fun _ => Nat.le_of_ble_eq_true rfl) ?_
      refine E_aload_n (v := 49) dX5_leastLost_61 rfl ?_
      refine E_getI fg_RX5_26 dX5_leastLost_62 sC_49 rfl ?_
      obtain ⟨rfl, rfl⟩ := ret2 hf
      exact E.done (by rw [eQ]; exact ⟨rfl, Or.inl ⟨_, _, rfl, rfl, dX5_leastLost_65, rfl, rfl⟩⟩)
    · rw [if_neg hc7] at hf
      refine E_iconst 1 dX5_leastLost_50 ic_1 ?_
      refine E_iload_n (v := a2) dX5_leastLost_51 rfl ?_
      refine E_ishl dX5_leastLost_52 ?_
      refine E_goto 57 dX5_leastLost_53 (by decide) ?_
      refine E_iconst 0 dX5_leastLost_57 ic_0 ?_
      obtain ⟨w11, hc10, hf⟩ := bd_some hf
      try dsimp only at hf
      refine E_callVv (rest := []) (ci := 5) cv_RX5_49 dX5_leastLost_58 (MX5_walk 8 _ _ _ _ _ _ _ _ ho1 hc10) rfl sC_49 rfl (by decide) rfl rfl (fun _ => Nat.le_of_ble_eq_true rfl) ?_
      refine E_aload_n (v := 49) dX5_leastLost_61 rfl ?_
      refine E_getI fg_RX5_26 dX5_leastLost_62 sC_49 rfl ?_
      obtain ⟨rfl, rfl⟩ := ret2 hf
      exact E.done (by rw [eQ]; exact ⟨rfl, Or.inl ⟨_, _, rfl, rfl, dX5_leastLost_65, rfl, rfl⟩⟩)
  · rw [if_neg hc5] at hf
    refine E_aload_n (v := o1) dX5_leastLost_24 rfl ?_
    refine E_getI fg_RX5_33 dX5_leastLost_25 (J_s0 ho1) rfl ?_
    refine E_iconst 1 dX5_leastLost_28 ic_1 ?_
    refine E_isub dX5_leastLost_29 ?_
    refine E_goto 37 dX5_leastLost_30 (by decide) ?_
    obtain ⟨w12, ew12, hf⟩ := lw_some hf
    try dsimp only at hf
    refine E_putI fp_RX5_22 dX5_leastLost_37 sC_49 rfl rfl rfl ?_
    rw [← ew12]
    refine E_aload_n (v := 49) dX5_leastLost_40 rfl ?_
    refine E_aload_n (v := o1) dX5_leastLost_41 rfl ?_
    refine E_iconst 0 dX5_leastLost_42 ic_0 ?_
    refine E_iconst 0 dX5_leastLost_43 ic_0 ?_
    refine E_iconst 0 dX5_leastLost_44 ic_0 ?_
    refine E_iload (v := r4) dX5_leastLost_45 rfl ?_
    refine E_if_eq 56 dX5_leastLost_47 (by decide) (fun hc13 => ?_) (fun hc13 => ?_)
    · rw [if_pos hc13] at hf
      refine E_iconst 0 dX5_leastLost_56 ic_0 ?_
      refine E_iconst 0 dX5_leastLost_57 ic_0 ?_
      obtain ⟨w15, hc14, hf⟩ := bd_some hf
      try dsimp only at hf
      refine E_callVv (rest := []) (ci := 5) cv_RX5_49 dX5_leastLost_58 (MX5_walk 8 _ _ _ _ _ _ _ _ ho1 hc14) rfl sC_49 rfl (by decide) rfl rfl (fun _ => Nat.le_of_ble_eq_true rfl) ?_
      refine E_aload_n (v := 49) dX5_leastLost_61 rfl ?_
      refine E_getI fg_RX5_26 dX5_leastLost_62 sC_49 rfl ?_
      obtain ⟨rfl, rfl⟩ := ret2 hf
      exact E.done (by rw [eQ]; exact ⟨rfl, Or.inl ⟨_, _, rfl, rfl, dX5_leastLost_65, rfl, rfl⟩⟩)
    · rw [if_neg hc13] at hf
      refine E_iconst 1 dX5_leastLost_50 ic_1 ?_
      refine E_iload_n (v := a2) dX5_leastLost_51 rfl ?_
      refine E_ishl dX5_leastLost_52 ?_
      refine E_goto 57 dX5_leastLost_53 (by decide) ?_
      refine E_iconst 0 dX5_leastLost_57 ic_0 ?_
      obtain ⟨w17, hc16, hf⟩ := bd_some hf
      try dsimp only at hf
      refine E_callVv (rest := []) (ci := 5) cv_RX5_49 dX5_leastLost_58 (MX5_walk 8 _ _ _ _ _ _ _ _ ho1 hc16) rfl sC_49 rfl (by decide) rfl rfl (fun _ => Nat.le_of_ble_eq_true rfl) ?_
      refine E_aload_n (v := 49) dX5_leastLost_61 rfl ?_
      refine E_getI fg_RX5_26 dX5_leastLost_62 sC_49 rfl ?_
      obtain ⟨rfl, rfl⟩ := ret2 hf
      exact E.done (by rw [eQ]; exact ⟨rfl, Or.inl ⟨_, _, rfl, rfl, dX5_leastLost_65, rfl, rfl⟩⟩)
set_option maxRecDepth 10000 in
set_option maxHeartbeats 2000000 in
theorem MX5_mostWorth {N : Nat} {o0 : Nat} {a1 : Int32} {w : AW} {rZ : Int32} {wZ : AW} (ho0 : isJ o0) (hf : fX5_mostWorth N o0 a1 w = some (rZ, wZ)) : CallOK PC yX5_mostWorth cX5_mostWorth 5 (some .int) 13 [.ref 49, .ref o0, .int a1] w (some (.int rZ)) wZ := by
  refine CallOK.of (ls := [some (.ref 49), some (.ref o0), some (.int a1), none, none]) (by decide) (by simp) rfl rfl ?_
  obtain ⟨Q, eQ⟩ : ∃ Q, Q = Qret cX5_mostWorth (some .int) (some (.int rZ)) wZ := ⟨_, rfl⟩
  rw [← eQ]
  unfold fX5_mostWorth at hf
  refine E_iconst 0 dX5_mostWorth_0 ic_0 ?_
  refine E_istore_n (ls' := [some (.ref 49), some (.ref o0), some (.int a1), some (.int 0), none]) dX5_mostWorth_1 rfl rfl rfl ?_
  refine E_iconst 0 dX5_mostWorth_2 ic_0 ?_
  refine E_istore (ls' := [some (.ref 49), some (.ref o0), some (.int a1), some (.int 0), some (.int 0)]) dX5_mostWorth_3 rfl rfl rfl ?_
  obtain ⟨q, hw5, hf⟩ := bd_some hf
  try dsimp only at hf
  show (fun (s : Int32 × Int32) => E PC RX5 cX5_mostWorth 5 13 5 [some (.ref 49), some (.ref o0), some (.int a1), some (.int s.1), some (.int s.2)] [] w Q) (0, 0)
  refine wh_E (K := (fun (s : Int32 × Int32) => E PC RX5 cX5_mostWorth 5 13 5 [some (.ref 49), some (.ref o0), some (.int a1), some (.int s.1), some (.int s.2)] [] w Q)) (X := (fun (s : Int32) => E PC RX5 cX5_mostWorth 5 13 36 [some (.ref 49), some (.ref o0), some (.int a1), some (.int s), none] [] w Q)) ?_ hw5 ?_
  · intro s9 z9 hf k9
    obtain ⟨x3_5_1, x4_5_1⟩ := s9
    dsimp only [lbX5_mostWorth_5_1] at hf
    show E PC RX5 cX5_mostWorth 5 13 5 [some (.ref 49), some (.ref o0), some (.int a1), some (.int x3_5_1), some (.int x4_5_1)] [] w Q
    refine E_iload (v := x4_5_1) dX5_mostWorth_5 rfl ?_
    refine E_aload_n (v := o0) dX5_mostWorth_7 rfl ?_
    refine E_getI fg_RX5_33 dX5_mostWorth_8 (J_s0 ho0) rfl ?_
    refine E_icmp_ge 36 dX5_mostWorth_11 (by decide) (fun hc1 => ?_) (fun hc1 => ?_)
    · rw [if_pos hc1] at hf
      obtain rfl := Option.some.inj hf
      refine E.fewer (ls' := [some (.ref 49), some (.ref o0), some (.int a1), some (.int x3_5_1), none]) ⟨Or.inr rfl, ⟨Or.inr rfl, ⟨Or.inr rfl, ⟨Or.inr rfl, ⟨Or.inl rfl, trivial⟩⟩⟩⟩⟩ ?_
      exact k9
    · rw [if_neg hc1] at hf
      refine E_iload (v := x4_5_1) dX5_mostWorth_14 rfl ?_
      refine E_iload_n (v := a1) dX5_mostWorth_16 rfl ?_
      refine E_icmp_eq 30 dX5_mostWorth_17 (by decide) (fun hc2 => ?_) (fun hc2 => ?_)
      · rw [if_pos hc2] at hf
        refine E_iinc (ls' := [some (.ref 49), some (.ref o0), some (.int a1), some (.int x3_5_1), some (.int (x4_5_1 + 1))]) 1 dX5_mostWorth_30 rfl ic_1 rfl rfl rfl ?_
        refine E_goto 5 dX5_mostWorth_33 (by decide) ?_
        obtain rfl := Option.some.inj hf
        exact k9
      · rw [if_neg hc2] at hf
        refine E_iload_n (v := x3_5_1) dX5_mostWorth_20 rfl ?_
        refine E_aload_n (v := o0) dX5_mostWorth_21 rfl ?_
        refine E_getR fg_RX5_38 dX5_mostWorth_22 (J_s0 ho0) rfl (J_r0_5 ho0) (Nat.succ_ne_zero _) ?_
        refine E_iload (v := x4_5_1) dX5_mostWorth_25 rfl ?_
        obtain ⟨hi3, hf⟩ := gd_some hf
        refine E_iald (n := 6) dX5_mostWorth_27 (J_s5 ho0) (by decide) (inb_in hi3) ?_
        refine E_iadd dX5_mostWorth_28 ?_
        obtain ⟨v4, ev4, hf⟩ := lw_some hf
        try dsimp only at hf
        rw [← ev4]
        refine E_istore_n (ls' := [some (.ref 49), some (.ref o0), some (.int a1), some (.int v4), some (.int x4_5_1)]) dX5_mostWorth_29 rfl rfl rfl ?_
        refine E_iinc (ls' := [some (.ref 49), some (.ref o0), some (.int a1), some (.int v4), some (.int (x4_5_1 + 1))]) 1 dX5_mostWorth_30 rfl ic_1 rfl rfl rfl ?_
        refine E_goto 5 dX5_mostWorth_33 (by decide) ?_
        obtain rfl := Option.some.inj hf
        exact k9
  · skip
    obtain ⟨y6, hq9⟩ : ∃ a, a = q := ⟨_, rfl⟩
    subst hq9
    try dsimp only at hf
    show E PC RX5 cX5_mostWorth 5 13 36 [some (.ref 49), some (.ref o0), some (.int a1), some (.int y6), none] [] w Q
    refine E_iload_n (v := y6) dX5_mostWorth_36 rfl ?_
    refine E_aload_n (v := 49) dX5_mostWorth_37 rfl ?_
    refine E_iconst 0 dX5_mostWorth_38 ic_0 ?_
    refine E_aload_n (v := o0) dX5_mostWorth_39 rfl ?_
    refine E_iload_n (v := a1) dX5_mostWorth_40 rfl ?_
    obtain ⟨r8, w9, hc7, hf⟩ := bd2_some hf
    try dsimp only at hf
    refine E_callVi (rest := [.int y6]) (ci := 5) cv_RX5_41 dX5_mostWorth_41 (MX5_leastLost ho0 hc7) rfl sC_49 rfl (by decide) rfl rfl (fun _ => Nat.le_of_ble_eq_true rfl) ?_
    refine E_isub dX5_mostWorth_44 ?_
    obtain ⟨rfl, rfl⟩ := ret2 hf
    exact E.done (by rw [eQ]; exact ⟨rfl, Or.inl ⟨_, _, rfl, rfl, dX5_mostWorth_45, rfl, rfl⟩⟩)
set_option maxRecDepth 10000 in
set_option maxHeartbeats 2000000 in
theorem MX11_across {N : Nat} {a0 : Int32} {w : AW} {rZ : Int32} {wZ : AW} (hf : fX11_across N a0 w = some (rZ, wZ)) : CallOK PC yX11_across cX11_across 6 (some .int) 14 [.ref 0, .int a0] w (some (.int rZ)) wZ := by
  refine CallOK.of (ls := [some (.ref 0), some (.int a0), none, none, none, none]) (by decide) (by simp) rfl rfl ?_
  obtain ⟨Q, eQ⟩ : ∃ Q, Q = Qret cX11_across (some .int) (some (.int rZ)) wZ := ⟨_, rfl⟩
  rw [← eQ]
  unfold fX11_across at hf
  refine E_iload_n (v := a0) dX11_across_0 rfl ?_
  refine E_iconst 0 dX11_across_1 ic_0 ?_
  refine E_iconst 1 dX11_across_2 ic_1 ?_
  obtain ⟨r2, hc1, hf⟩ := bd_some hf
  try dsimp only at hf
  refine E_callSi (rest := []) cs_RX11_100 dX11_across_3 (MX11_within hc1) rfl rfl rfl (fun _ => Nat.le_of_ble_eq_true rfl) ?_
  refine E_if_ne 12 dX11_across_6 (by decide) (fun hc3 => ?_) (fun hc3 => ?_)
  · rw [if_pos hc3] at hf
    refine E_ldc (-2147483648) dX11_across_9 wk_RX11_207 ?_
    obtain ⟨rfl, rfl⟩ := ret2 hf
    exact E.done (by rw [eQ]; exact ⟨rfl, Or.inl ⟨_, _, rfl, rfl, dX11_across_11, rfl, rfl⟩⟩)
  · rw [if_neg hc3] at hf
    refine E_aload_n (v := 0) dX11_across_12 rfl ?_
    refine E_getR fg_RX11_43 dX11_across_13 sC_0 rfl rC_0_6 (Nat.succ_ne_zero _) ?_
    refine E_aload_n (v := 0) dX11_across_16 rfl ?_
    refine E_getR fg_RX11_10 dX11_across_17 sC_0 rfl rC_0_0 (Nat.succ_ne_zero _) ?_
    refine E_iconst 0 dX11_across_20 ic_0 ?_
    obtain ⟨w5, hc4, hf⟩ := bd_some hf
    try dsimp only at hf
    refine E_callVv (rest := []) (ci := 3) cv_RX11_208 dX11_across_21 (MX3_measure B_is1 hc4) rfl sC_46 rfl (by decide) rfl rfl (fun _ => Nat.le_of_ble_eq_true rfl) ?_
    refine E_bipush (-9) dX11_across_24 bp_m9 ?_
    refine E_istore_n (ls' := [some (.ref 0), some (.int a0), some (.int (-9)), none, none, none]) dX11_across_26 rfl rfl rfl ?_
    refine E_aload_n (v := 0) dX11_across_27 rfl ?_
    refine E_getR fg_RX11_52 dX11_across_28 sC_0 rfl rC_0_7 (Nat.succ_ne_zero _) ?_
    refine E_aload_n (v := 0) dX11_across_31 rfl ?_
    refine E_getR fg_RX11_10 dX11_across_32 sC_0 rfl rC_0_0 (Nat.succ_ne_zero _) ?_
    refine E_getR fg_RX11_130 dX11_across_35 sC_1 rfl rC_1_0 (Nat.succ_ne_zero _) ?_
    refine E_bipush (-9) dX11_across_38 bp_m9 ?_
    obtain ⟨r7, w8, hc6, hf⟩ := bd2_some hf
    try dsimp only at hf
    refine E_callVi (rest := []) (ci := 5) cv_RX11_212 dX11_across_40 (MX5_mostWorth J_is2 hc6) rfl sC_49 rfl (by decide) rfl rfl (fun _ => Nat.le_of_ble_eq_true rfl) ?_
    refine E_istore_n (ls' := [some (.ref 0), some (.int a0), some (.int (-9)), some (.int r7), none, none]) dX11_across_43 rfl rfl rfl ?_
    refine E_iconst 0 dX11_across_44 ic_0 ?_
    refine E_istore (ls' := [some (.ref 0), some (.int a0), some (.int (-9)), some (.int r7), some (.int 0), none]) dX11_across_45 rfl rfl rfl ?_
    obtain ⟨q, hw18, hf⟩ := bd_some hf
    try dsimp only at hf
    show (fun (s : Int32 × Int32 × Int32 × AW) => E PC RX11 cX11_across 6 14 47 [some (.ref 0), some (.int a0), some (.int s.1), some (.int s.2.1), some (.int s.2.2.1), none] [] s.2.2.2 Q) ((-9), r7, 0, w8)
    refine wh_E (K := (fun (s : Int32 × Int32 × Int32 × AW) => E PC RX11 cX11_across 6 14 47 [some (.ref 0), some (.int a0), some (.int s.1), some (.int s.2.1), some (.int s.2.2.1), none] [] s.2.2.2 Q)) (X := (fun (s : Int32 × Int32 × AW) => E PC RX11 cX11_across 6 14 114 [none, some (.int a0), some (.int s.1), some (.int s.2.1), none, none] [] s.2.2 Q)) ?_ hw18 ?_
    · intro s9 z9 hf k9
      obtain ⟨x2_47_1, x3_47_1, x4_47_1, w_47_1⟩ := s9
      dsimp only [lbX11_across_47_1] at hf
      show E PC RX11 cX11_across 6 14 47 [some (.ref 0), some (.int a0), some (.int x2_47_1), some (.int x3_47_1), some (.int x4_47_1), none] [] w_47_1 Q
      refine E_iload (v := x4_47_1) dX11_across_47 rfl ?_
      refine E_aload_n (v := 0) dX11_across_49 rfl ?_
      refine E_getR fg_RX11_10 dX11_across_50 sC_0 rfl rC_0_0 (Nat.succ_ne_zero _) ?_
      refine E_getR fg_RX11_130 dX11_across_53 sC_1 rfl rC_1_0 (Nat.succ_ne_zero _) ?_
      refine E_getI fg_RX11_131 dX11_across_56 sC_2 rfl ?_
      refine E_icmp_ge 114 dX11_across_59 (by decide) (fun hc10 => ?_) (fun hc10 => ?_)
      · rw [if_pos hc10] at hf
        obtain rfl := Option.some.inj hf
        refine E.fewer (ls' := [none, some (.int a0), some (.int x2_47_1), some (.int x3_47_1), none, none]) ⟨Or.inl rfl, ⟨Or.inr rfl, ⟨Or.inr rfl, ⟨Or.inr rfl, ⟨Or.inl rfl, ⟨Or.inl rfl, trivial⟩⟩⟩⟩⟩⟩ ?_
        exact k9
      · rw [if_neg hc10] at hf
        refine E_aload_n (v := 0) dX11_across_62 rfl ?_
        refine E_getR fg_RX11_52 dX11_across_63 sC_0 rfl rC_0_7 (Nat.succ_ne_zero _) ?_
        refine E_aload_n (v := 0) dX11_across_66 rfl ?_
        refine E_getR fg_RX11_10 dX11_across_67 sC_0 rfl rC_0_0 (Nat.succ_ne_zero _) ?_
        refine E_getR fg_RX11_130 dX11_across_70 sC_1 rfl rC_1_0 (Nat.succ_ne_zero _) ?_
        refine E_iload (v := x4_47_1) dX11_across_73 rfl ?_
        obtain ⟨r12, w13, hc11, hf⟩ := bd2_some hf
        try dsimp only at hf
        refine E_callVi (rest := []) (ci := 5) cv_RX11_212 dX11_across_75 (MX5_mostWorth J_is2 hc11) rfl sC_49 rfl (by decide) rfl rfl (fun _ => Nat.le_of_ble_eq_true rfl) ?_
        refine E_aload_n (v := 0) dX11_across_78 rfl ?_
        refine E_getR fg_RX11_10 dX11_across_79 sC_0 rfl rC_0_0 (Nat.succ_ne_zero _) ?_
        refine E_getR fg_RX11_130 dX11_across_82 sC_1 rfl rC_1_0 (Nat.succ_ne_zero _) ?_
        refine E_getR fg_RX11_156 dX11_across_85 sC_2 rfl rC_2_5 (Nat.succ_ne_zero _) ?_
        refine E_iload (v := x4_47_1) dX11_across_88 rfl ?_
        obtain ⟨hi15, hf⟩ := gd_some hf
        refine E_iald (n := 6) dX11_across_90 sC_7 (by decide) (inb_in hi15) ?_
        refine E_iconst 2 dX11_across_91 ic_2 ?_
        refine E_idiv dX11_across_92 (by decide) ?_
        refine E_iadd dX11_across_93 ?_
        obtain ⟨v16, ev16, hf⟩ := lw_some hf
        try dsimp only at hf
        rw [← ev16]
        refine E_istore (ls' := [some (.ref 0), some (.int a0), some (.int x2_47_1), some (.int x3_47_1), some (.int x4_47_1), some (.int v16)]) dX11_across_94 rfl rfl rfl ?_
        refine E_iload (v := v16) dX11_across_96 rfl ?_
        refine E_iload_n (v := x3_47_1) dX11_across_98 rfl ?_
        refine E_icmp_le 108 dX11_across_99 (by decide) (fun hc17 => ?_) (fun hc17 => ?_)
        · rw [if_pos hc17] at hf
          refine E_iinc (ls' := [some (.ref 0), some (.int a0), some (.int x2_47_1), some (.int x3_47_1), some (.int (x4_47_1 + 1)), some (.int v16)]) 1 dX11_across_108 rfl ic_1 rfl rfl rfl ?_
          refine E_goto 47 dX11_across_111 (by decide) ?_
          obtain rfl := Option.some.inj hf
          refine E.fewer (ls' := [some (.ref 0), some (.int a0), some (.int x2_47_1), some (.int x3_47_1), some (.int (x4_47_1 + 1)), none]) ⟨Or.inr rfl, ⟨Or.inr rfl, ⟨Or.inr rfl, ⟨Or.inr rfl, ⟨Or.inr rfl, ⟨Or.inl rfl, trivial⟩⟩⟩⟩⟩⟩ ?_
          exact k9
        · rw [if_neg hc17] at hf
          refine E_iload (v := v16) dX11_across_102 rfl ?_
          refine E_istore_n (ls' := [some (.ref 0), some (.int a0), some (.int x2_47_1), some (.int v16), some (.int x4_47_1), some (.int v16)]) dX11_across_104 rfl rfl rfl ?_
          refine E_iload (v := x4_47_1) dX11_across_105 rfl ?_
          refine E_istore_n (ls' := [some (.ref 0), some (.int a0), some (.int x4_47_1), some (.int v16), some (.int x4_47_1), some (.int v16)]) dX11_across_107 rfl rfl rfl ?_
          refine E_iinc (ls' := [some (.ref 0), some (.int a0), some (.int x4_47_1), some (.int v16), some (.int (x4_47_1 + 1)), some (.int v16)]) 1 dX11_across_108 rfl ic_1 rfl rfl rfl ?_
          refine E_goto 47 dX11_across_111 (by decide) ?_
          obtain rfl := Option.some.inj hf
          refine E.fewer (ls' := [some (.ref 0), some (.int a0), some (.int x4_47_1), some (.int v16), some (.int (x4_47_1 + 1)), none]) ⟨Or.inr rfl, ⟨Or.inr rfl, ⟨Or.inr rfl, ⟨Or.inr rfl, ⟨Or.inr rfl, ⟨Or.inl rfl, trivial⟩⟩⟩⟩⟩⟩ ?_
          exact k9
    · skip
      obtain ⟨y19, y20, w21⟩ := q
      try dsimp only at hf
      show E PC RX11 cX11_across 6 14 114 [none, some (.int a0), some (.int y19), some (.int y20), none, none] [] w21 Q
      refine E_iload_n (v := a0) dX11_across_114 rfl ?_
      refine E_if_ne 122 dX11_across_115 (by decide) (fun hc22 => ?_) (fun hc22 => ?_)
      · rw [if_pos hc22] at hf
        refine E_iload_n (v := y19) dX11_across_118 rfl ?_
        refine E_goto 123 dX11_across_119 (by decide) ?_
        obtain ⟨rfl, rfl⟩ := ret2 hf
        exact E.done (by rw [eQ]; exact ⟨rfl, Or.inl ⟨_, _, rfl, rfl, dX11_across_123, rfl, rfl⟩⟩)
      · rw [if_neg hc22] at hf
        refine E_iload_n (v := y20) dX11_across_122 rfl ?_
        obtain ⟨rfl, rfl⟩ := ret2 hf
        exact E.done (by rw [eQ]; exact ⟨rfl, Or.inl ⟨_, _, rfl, rfl, dX11_across_123, rfl, rfl⟩⟩)
set_option maxRecDepth 10000 in
set_option maxHeartbeats 2000000 in
theorem MX7_isPlace {a0 : Int32} {w : AW} {rZ : Int32} (hf : fX7_isPlace a0 w = some rZ) : CallOK PC yX7_isPlace cX7_isPlace 1 (some .boolean) 2 [.int a0] w (some (.int rZ)) w := by
  refine CallOK.of (ls := [some (.int a0)]) (by decide) (by simp) rfl rfl ?_
  obtain ⟨Q, eQ⟩ : ∃ Q, Q = Qret cX7_isPlace (some .boolean) (some (.int rZ)) w := ⟨_, rfl⟩
  rw [← eQ]
  unfold fX7_isPlace at hf
  refine E_iload_n (v := a0) dX7_isPlace_0 rfl ?_
  refine E_iconst 0 dX7_isPlace_1 ic_0 ?_
  refine E_iconst 3 dX7_isPlace_2 ic_3 ?_
  obtain ⟨r2, hc1, hf⟩ := bd_some hf
  try dsimp only at hf
  refine E_callNi (rest := []) cn_RX7_30 dX7_isPlace_3 (MX11_within hc1) rfl rfl rfl (fun _ => Nat.le_of_ble_eq_true rfl) ?_
  obtain ⟨hb3, hf⟩ := gd_some hf
  obtain rfl := Option.some.inj hf
  exact E.done (by rw [eQ]; exact ⟨rfl, Or.inl ⟨_, _, rfl, rfl, dX7_isPlace_6, rfl, (isb_n hb3)⟩⟩)
set_option maxRecDepth 10000 in
set_option maxHeartbeats 2000000 in
theorem MX7_jobOn {a0 : Int32} {w : AW} {rZ : Int32} (hf : fX7_jobOn a0 w = some rZ) : CallOK PC yX7_jobOn cX7_jobOn 2 (some .int) 1 [.ref 67, .int a0] w (some (.int rZ)) w := by
  refine CallOK.of (ls := [some (.ref 67), some (.int a0)]) (by decide) (by simp) rfl rfl ?_
  obtain ⟨Q, eQ⟩ : ∃ Q, Q = Qret cX7_jobOn (some .int) (some (.int rZ)) w := ⟨_, rfl⟩
  rw [← eQ]
  unfold fX7_jobOn at hf
  refine E_aload_n (v := 67) dX7_jobOn_0 rfl ?_
  refine E_getR fg_RX7_21 dX7_jobOn_1 sC_67 rfl rC_67_3 (Nat.succ_ne_zero _) ?_
  refine E_iload_n (v := a0) dX7_jobOn_4 rfl ?_
  obtain ⟨hi1, hf⟩ := gd_some hf
  refine E_iald (n := 4) dX7_jobOn_5 sC_71 (by decide) (inb_in hi1) ?_
  refine E_iconst 1 dX7_jobOn_6 ic_1 ?_
  refine E_icmp_ne 19 dX7_jobOn_7 (by decide) (fun hc2 => ?_) (fun hc2 => ?_)
  · rw [if_pos hc2] at hf
    refine E_aload_n (v := 67) dX7_jobOn_10 rfl ?_
    refine E_getR fg_RX7_27 dX7_jobOn_11 sC_67 rfl rC_67_5 (Nat.succ_ne_zero _) ?_
    refine E_iload_n (v := a0) dX7_jobOn_14 rfl ?_
    refine E_iald (n := 4) dX7_jobOn_15 sC_73 (by decide) (inb_in hi1) ?_
    refine E_goto 21 dX7_jobOn_16 (by decide) ?_
    obtain rfl := Option.some.inj hf
    exact E.done (by rw [eQ]; exact ⟨rfl, Or.inl ⟨_, _, rfl, rfl, dX7_jobOn_21, rfl, rfl⟩⟩)
  · rw [if_neg hc2] at hf
    refine E_bipush (-9) dX7_jobOn_19 bp_m9 ?_
    obtain rfl := Option.some.inj hf
    exact E.done (by rw [eQ]; exact ⟨rfl, Or.inl ⟨_, _, rfl, rfl, dX7_jobOn_21, rfl, rfl⟩⟩)
set_option maxRecDepth 10000 in
set_option maxHeartbeats 2000000 in
theorem MX9_become {a0 : Int32} {a1 : Int32} {a2 : Int32} {w : AW} {wZ : AW} (hf : fX9_become a0 a1 a2 w = some wZ) : CallOK PC yX9_become cX9_become 4 none 1 [.ref 74, .int a0, .int a1, .int a2] w none wZ := by
  refine CallOK.of (ls := [some (.ref 74), some (.int a0), some (.int a1), some (.int a2)]) (by decide) (by simp) rfl rfl ?_
  obtain ⟨Q, eQ⟩ : ∃ Q, Q = Qret cX9_become none none wZ := ⟨_, rfl⟩
  rw [← eQ]
  unfold fX9_become at hf
  refine E_aload_n (v := 74) dX9_become_0 rfl ?_
  refine E_iload_n (v := a0) dX9_become_1 rfl ?_
  obtain ⟨w1, ew1, hf⟩ := lw_some hf
  try dsimp only at hf
  refine E_putI fp_RX9_9 dX9_become_2 sC_74 rfl rfl rfl ?_
  rw [← ew1]
  refine E_aload_n (v := 74) dX9_become_5 rfl ?_
  refine E_iload_n (v := a1) dX9_become_6 rfl ?_
  obtain ⟨w2, ew2, hf⟩ := lw_some hf
  try dsimp only at hf
  refine E_putI fp_RX9_15 dX9_become_7 sC_74 rfl rfl rfl ?_
  rw [← ew2]
  refine E_aload_n (v := 74) dX9_become_10 rfl ?_
  refine E_iload_n (v := a2) dX9_become_11 rfl ?_
  obtain ⟨w3, ew3, hf⟩ := lw_some hf
  try dsimp only at hf
  refine E_putI fp_RX9_18 dX9_become_12 sC_74 rfl rfl rfl ?_
  rw [← ew3]
  refine E_aload_n (v := 74) dX9_become_15 rfl ?_
  refine E_iconst 0 dX9_become_16 ic_0 ?_
  obtain ⟨w4, ew4, hf⟩ := lw_some hf
  try dsimp only at hf
  refine E_putI fp_RX9_21 dX9_become_17 sC_74 rfl rfl rfl ?_
  rw [← ew4]
  obtain rfl := Option.some.inj hf
  exact E.done (by rw [eQ]; exact ⟨rfl, Or.inr ⟨rfl, rfl, dX9_become_20, rfl⟩⟩)
set_option maxRecDepth 10000 in
set_option maxHeartbeats 2000000 in
theorem MX9_forget {w : AW} {wZ : AW} (hf : fX9_forget w = some wZ) : CallOK PC yX9_forget cX9_forget 1 none 1 [.ref 74] w none wZ := by
  refine CallOK.of (ls := [some (.ref 74)]) (by decide) (by simp) rfl rfl ?_
  obtain ⟨Q, eQ⟩ : ∃ Q, Q = Qret cX9_forget none none wZ := ⟨_, rfl⟩
  rw [← eQ]
  unfold fX9_forget at hf
  refine E_aload_n (v := 74) dX9_forget_0 rfl ?_
  refine E_iconst 0 dX9_forget_1 ic_0 ?_
  obtain ⟨w1, ew1, hf⟩ := lw_some hf
  try dsimp only at hf
  refine E_putI fp_RX9_29 dX9_forget_2 sC_74 rfl rfl rfl ?_
  rw [← ew1]
  obtain rfl := Option.some.inj hf
  exact E.done (by rw [eQ]; exact ⟨rfl, Or.inr ⟨rfl, rfl, dX9_forget_5, rfl⟩⟩)
set_option maxRecDepth 10000 in
set_option maxHeartbeats 2000000 in
theorem MX11_isUnder {a0 : Int32} {a1 : Int32} {w : AW} {rZ : Int32} (hf : fX11_isUnder a0 a1 w = some rZ) : CallOK PC yX11_isUnder cX11_isUnder 2 (some .boolean) 1 [.int a0, .int a1] w (some (.int rZ)) w := by
  refine CallOK.of (ls := [some (.int a0), some (.int a1)]) (by decide) (by simp) rfl rfl ?_
  obtain ⟨Q, eQ⟩ : ∃ Q, Q = Qret cX11_isUnder (some .boolean) (some (.int rZ)) w := ⟨_, rfl⟩
  rw [← eQ]
  unfold fX11_isUnder at hf
  refine E_iload_n (v := a0) dX11_isUnder_0 rfl ?_
  refine E_iload_n (v := a1) dX11_isUnder_1 rfl ?_
  refine E_icmp_eq 29 dX11_isUnder_2 (by decide) (fun hc1 => ?_) (fun hc1 => ?_)
  · rw [if_pos hc1] at hf
    refine E_iconst 1 dX11_isUnder_29 ic_1 ?_
    refine E_goto 34 dX11_isUnder_30 (by decide) ?_
    obtain rfl := Option.some.inj hf
    exact E.done (by rw [eQ]; exact ⟨rfl, Or.inl ⟨_, _, rfl, rfl, dX11_isUnder_34, rfl, rfl⟩⟩)
  · rw [if_neg hc1] at hf
    refine E_iload_n (v := a1) dX11_isUnder_5 rfl ?_
    refine E_if_eq 29 dX11_isUnder_6 (by decide) (fun hc2 => ?_) (fun hc2 => ?_)
    · rw [if_pos hc2] at hf
      refine E_iconst 1 dX11_isUnder_29 ic_1 ?_
      refine E_goto 34 dX11_isUnder_30 (by decide) ?_
      obtain rfl := Option.some.inj hf
      exact E.done (by rw [eQ]; exact ⟨rfl, Or.inl ⟨_, _, rfl, rfl, dX11_isUnder_34, rfl, rfl⟩⟩)
    · rw [if_neg hc2] at hf
      refine E_iload_n (v := a0) dX11_isUnder_9 rfl ?_
      refine E_iconst 3 dX11_isUnder_10 ic_3 ?_
      refine E_icmp_ne 19 dX11_isUnder_11 (by decide) (fun hc3 => ?_) (fun hc3 => ?_)
      · rw [if_pos hc3] at hf
        refine E_iload_n (v := a1) dX11_isUnder_14 rfl ?_
        refine E_iconst 2 dX11_isUnder_15 ic_2 ?_
        refine E_icmp_eq 29 dX11_isUnder_16 (by decide) (fun hc4 => ?_) (fun hc4 => ?_)
        · rw [if_pos hc4] at hf
          refine E_iconst 1 dX11_isUnder_29 ic_1 ?_
          refine E_goto 34 dX11_isUnder_30 (by decide) ?_
          obtain rfl := Option.some.inj hf
          exact E.done (by rw [eQ]; exact ⟨rfl, Or.inl ⟨_, _, rfl, rfl, dX11_isUnder_34, rfl, rfl⟩⟩)
        · rw [if_neg hc4] at hf
          refine E_iload_n (v := a0) dX11_isUnder_19 rfl ?_
          refine E_iconst 4 dX11_isUnder_20 ic_4 ?_
          refine E_icmp_ne 33 dX11_isUnder_21 (by decide) (fun hc5 => ?_) (fun hc5 => ?_)
          · rw [if_pos hc5] at hf
            refine E_iload_n (v := a1) dX11_isUnder_24 rfl ?_
            refine E_iconst 1 dX11_isUnder_25 ic_1 ?_
            refine E_icmp_ne 33 dX11_isUnder_26 (by decide) (fun hc6 => ?_) (fun hc6 => ?_)
            · rw [if_pos hc6] at hf
              refine E_iconst 1 dX11_isUnder_29 ic_1 ?_
              refine E_goto 34 dX11_isUnder_30 (by decide) ?_
              obtain rfl := Option.some.inj hf
              exact E.done (by rw [eQ]; exact ⟨rfl, Or.inl ⟨_, _, rfl, rfl, dX11_isUnder_34, rfl, rfl⟩⟩)
            · rw [if_neg hc6] at hf
              refine E_iconst 0 dX11_isUnder_33 ic_0 ?_
              obtain rfl := Option.some.inj hf
              exact E.done (by rw [eQ]; exact ⟨rfl, Or.inl ⟨_, _, rfl, rfl, dX11_isUnder_34, rfl, rfl⟩⟩)
          · rw [if_neg hc5] at hf
            refine E_iconst 0 dX11_isUnder_33 ic_0 ?_
            obtain rfl := Option.some.inj hf
            exact E.done (by rw [eQ]; exact ⟨rfl, Or.inl ⟨_, _, rfl, rfl, dX11_isUnder_34, rfl, rfl⟩⟩)
      · rw [if_neg hc3] at hf
        refine E_iload_n (v := a0) dX11_isUnder_19 rfl ?_
        refine E_iconst 4 dX11_isUnder_20 ic_4 ?_
        refine E_icmp_ne 33 dX11_isUnder_21 (by decide) (fun hc7 => ?_) (fun hc7 => ?_)
        · rw [if_pos hc7] at hf
          refine E_iload_n (v := a1) dX11_isUnder_24 rfl ?_
          refine E_iconst 1 dX11_isUnder_25 ic_1 ?_
          refine E_icmp_ne 33 dX11_isUnder_26 (by decide) (fun hc8 => ?_) (fun hc8 => ?_)
          · rw [if_pos hc8] at hf
            refine E_iconst 1 dX11_isUnder_29 ic_1 ?_
            refine E_goto 34 dX11_isUnder_30 (by decide) ?_
            obtain rfl := Option.some.inj hf
            exact E.done (by rw [eQ]; exact ⟨rfl, Or.inl ⟨_, _, rfl, rfl, dX11_isUnder_34, rfl, rfl⟩⟩)
          · rw [if_neg hc8] at hf
            refine E_iconst 0 dX11_isUnder_33 ic_0 ?_
            obtain rfl := Option.some.inj hf
            exact E.done (by rw [eQ]; exact ⟨rfl, Or.inl ⟨_, _, rfl, rfl, dX11_isUnder_34, rfl, rfl⟩⟩)
        · rw [if_neg hc7] at hf
          refine E_iconst 0 dX11_isUnder_33 ic_0 ?_
          obtain rfl := Option.some.inj hf
          exact E.done (by rw [eQ]; exact ⟨rfl, Or.inl ⟨_, _, rfl, rfl, dX11_isUnder_34, rfl, rfl⟩⟩)
set_option maxRecDepth 10000 in
set_option maxHeartbeats 2000000 in
theorem MX9_is {a0 : Int32} {w : AW} {rZ : Int32} (hf : fX9_is a0 w = some rZ) : CallOK PC yX9_is cX9_is 2 (some .boolean) 2 [.ref 74, .int a0] w (some (.int rZ)) w := by
  refine CallOK.of (ls := [some (.ref 74), some (.int a0)]) (by decide) (by simp) rfl rfl ?_
  obtain ⟨Q, eQ⟩ : ∃ Q, Q = Qret cX9_is (some .boolean) (some (.int rZ)) w := ⟨_, rfl⟩
  rw [← eQ]
  unfold fX9_is at hf
  refine E_aload_n (v := 74) dX9_is_0 rfl ?_
  refine E_getI fg_RX9_9 dX9_is_1 sC_74 rfl ?_
  refine E_iload_n (v := a0) dX9_is_4 rfl ?_
  obtain ⟨r2, hc1, hf⟩ := bd_some hf
  try dsimp only at hf
  refine E_callNi (rest := []) cn_RX9_45 dX9_is_5 (MX11_isUnder hc1) rfl rfl rfl (fun _ => Nat.le_of_ble_eq_true rfl) ?_
  obtain ⟨hb3, hf⟩ := gd_some hf
  obtain rfl := Option.some.inj hf
  exact E.done (by rw [eQ]; exact ⟨rfl, Or.inl ⟨_, _, rfl, rfl, dX9_is_8, rfl, (isb_n hb3)⟩⟩)
set_option maxRecDepth 10000 in
set_option maxHeartbeats 2000000 in
theorem MX9_runs {a0 : Int32} {w : AW} {wZ : AW} (hf : fX9_runs a0 w = some wZ) : CallOK PC yX9_runs cX9_runs 2 none 1 [.ref 74, .int a0] w none wZ := by
  refine CallOK.of (ls := [some (.ref 74), some (.int a0)]) (by decide) (by simp) rfl rfl ?_
  obtain ⟨Q, eQ⟩ : ∃ Q, Q = Qret cX9_runs none none wZ := ⟨_, rfl⟩
  rw [← eQ]
  unfold fX9_runs at hf
  refine E_aload_n (v := 74) dX9_runs_0 rfl ?_
  refine E_getI fg_RX9_29 dX9_runs_1 sC_74 rfl ?_
  refine E_bipush 30 dX9_runs_4 bp_30 ?_
  refine E_icmp_lt 10 dX9_runs_6 (by decide) (fun hc1 => ?_) (fun hc1 => ?_)
  · rw [if_pos hc1] at hf
    refine E_aload_n (v := 74) dX9_runs_10 rfl ?_
    refine E_getR fg_RX9_25 dX9_runs_11 sC_74 rfl rC_74_4 (Nat.succ_ne_zero _) ?_
    refine E_aload_n (v := 74) dX9_runs_14 rfl ?_
    refine E_getI fg_RX9_29 dX9_runs_15 sC_74 rfl ?_
    refine E_iload_n (v := a0) dX9_runs_18 rfl ?_
    obtain ⟨hi2, hf⟩ := gd_some hf
    obtain ⟨w3, ew3, hf⟩ := lw_some hf
    try dsimp only at hf
    refine E_iast (n := 30) dX9_runs_19 sC_75 (by decide) (inb_in hi2) ?_
    rw [← ew3]
    refine E_aload_n (v := 74) dX9_runs_20 rfl ?_
    refine E_dup_r dX9_runs_21 ?_
    refine E_getI fg_RX9_29 dX9_runs_22 sC_74 rfl ?_
    refine E_iconst 1 dX9_runs_25 ic_1 ?_
    refine E_iadd dX9_runs_26 ?_
    obtain ⟨w4, ew4, hf⟩ := lw_some hf
    try dsimp only at hf
    refine E_putI fp_RX9_29 dX9_runs_27 sC_74 rfl rfl rfl ?_
    rw [← ew4]
    obtain rfl := Option.some.inj hf
    exact E.done (by rw [eQ]; exact ⟨rfl, Or.inr ⟨rfl, rfl, dX9_runs_30, rfl⟩⟩)
  · rw [if_neg hc1] at hf
    obtain rfl := Option.some.inj hf
    exact E.done (by rw [eQ]; exact ⟨rfl, Or.inr ⟨rfl, rfl, dX9_runs_9, rfl⟩⟩)
set_option maxRecDepth 10000 in
set_option maxHeartbeats 2000000 in
theorem BX9_prints_42 (p1_42 : Int32) (w : AW) (rZ : Int32) (wZ : AW) {Q : Nat → List (Option Value) → List Value → AW → Prop} (eQ : Q = Qret cX9_prints (some .int) (some (.int rZ)) wZ) (hf : bX9_prints_42 p1_42 w = some (rZ, wZ)) : E PC RX9 cX9_prints 3 3 42 [some (.ref 74), some (.int p1_42), none] [] w Q := by
  unfold bX9_prints_42 at hf
  refine E_aload_n (v := 74) dX9_prints_42 rfl ?_
  refine E_bipush 10 dX9_prints_43 bp_10 ?_
  obtain ⟨w11, hc10, hf⟩ := bd_some hf
  try dsimp only at hf
  refine E_callVv (rest := []) (ci := 9) cv_RX9_53 dX9_prints_45 (MX9_runs hc10) rfl sC_74 rfl (by decide) rfl rfl (fun _ => Nat.le_of_ble_eq_true rfl) ?_
  refine E_iload_n (v := p1_42) dX9_prints_48 rfl ?_
  refine E_aload_n (v := 74) dX9_prints_49 rfl ?_
  refine E_getI fg_RX9_15 dX9_prints_50 sC_74 rfl ?_
  refine E_iadd dX9_prints_53 ?_
  refine E_istore_n (ls' := [some (.ref 74), some (.int p1_42), some (.int (p1_42 + (w11.1 74 1)))]) dX9_prints_54 rfl rfl rfl ?_
  refine E_aload_n (v := 74) dX9_prints_55 rfl ?_
  refine E_iconst 2 dX9_prints_56 ic_2 ?_
  obtain ⟨r13, hc12, hf⟩ := bd_some hf
  try dsimp only at hf
  refine E_callVi (rest := []) (ci := 9) cv_RX9_49 dX9_prints_57 (MX9_is hc12) rfl sC_74 rfl (by decide) rfl rfl (fun _ => Nat.le_of_ble_eq_true rfl) ?_
  refine E_if_eq 67 dX9_prints_60 (by decide) (fun hc14 => ?_) (fun hc14 => ?_)
  · rw [if_pos hc14] at hf
    refine E_aload_n (v := 74) dX9_prints_67 rfl ?_
    refine E_iconst 3 dX9_prints_68 ic_3 ?_
    obtain ⟨r16, hc15, hf⟩ := bd_some hf
    try dsimp only at hf
    refine E_callVi (rest := []) (ci := 9) cv_RX9_49 dX9_prints_69 (MX9_is hc15) rfl sC_74 rfl (by decide) rfl rfl (fun _ => Nat.le_of_ble_eq_true rfl) ?_
    refine E_if_eq 82 dX9_prints_72 (by decide) (fun hc17 => ?_) (fun hc17 => ?_)
    · rw [if_pos hc17] at hf
      refine E_aload_n (v := 74) dX9_prints_82 rfl ?_
      refine E_iconst 4 dX9_prints_83 ic_4 ?_
      obtain ⟨r19, hc18, hf⟩ := bd_some hf
      try dsimp only at hf
      refine E_callVi (rest := []) (ci := 9) cv_RX9_49 dX9_prints_84 (MX9_is hc18) rfl sC_74 rfl (by decide) rfl rfl (fun _ => Nat.le_of_ble_eq_true rfl) ?_
      refine E_if_eq 96 dX9_prints_87 (by decide) (fun hc20 => ?_) (fun hc20 => ?_)
      · rw [if_pos hc20] at hf
        refine E_iload_n (v := (p1_42 + (w11.1 74 1))) dX9_prints_96 rfl ?_
        obtain ⟨rfl, rfl⟩ := ret2 hf
        exact E.done (by rw [eQ]; exact ⟨rfl, Or.inl ⟨_, _, rfl, rfl, dX9_prints_97, rfl, rfl⟩⟩)
      · rw [if_neg hc20] at hf
        refine E_iconst 0 dX9_prints_90 ic_0 ?_
        refine E_iload_n (v := (p1_42 + (w11.1 74 1))) dX9_prints_91 rfl ?_
        refine E_isub dX9_prints_92 ?_
        refine E_goto 97 dX9_prints_93 (by decide) ?_
        obtain ⟨rfl, rfl⟩ := ret2 hf
        exact E.done (by rw [eQ]; exact ⟨rfl, Or.inl ⟨_, _, rfl, rfl, dX9_prints_97, rfl, rfl⟩⟩)
    · rw [if_neg hc17] at hf
      refine E_iload_n (v := (p1_42 + (w11.1 74 1))) dX9_prints_75 rfl ?_
      refine E_aload_n (v := 74) dX9_prints_76 rfl ?_
      refine E_getI fg_RX9_15 dX9_prints_77 sC_74 rfl ?_
      refine E_isub dX9_prints_80 ?_
      obtain ⟨v21, ev21, hf⟩ := lw_some hf
      try dsimp only at hf
      rw [← ev21]
      refine E_istore_n (ls' := [some (.ref 74), some (.int p1_42), some (.int v21)]) dX9_prints_81 rfl rfl rfl ?_
      refine E_aload_n (v := 74) dX9_prints_82 rfl ?_
      refine E_iconst 4 dX9_prints_83 ic_4 ?_
      obtain ⟨r23, hc22, hf⟩ := bd_some hf
      try dsimp only at hf
      refine E_callVi (rest := []) (ci := 9) cv_RX9_49 dX9_prints_84 (MX9_is hc22) rfl sC_74 rfl (by decide) rfl rfl (fun _ => Nat.le_of_ble_eq_true rfl) ?_
      refine E_if_eq 96 dX9_prints_87 (by decide) (fun hc24 => ?_) (fun hc24 => ?_)
      · rw [if_pos hc24] at hf
        refine E_iload_n (v := v21) dX9_prints_96 rfl ?_
        obtain ⟨rfl, rfl⟩ := ret2 hf
        exact E.done (by rw [eQ]; exact ⟨rfl, Or.inl ⟨_, _, rfl, rfl, dX9_prints_97, rfl, rfl⟩⟩)
      · rw [if_neg hc24] at hf
        refine E_iconst 0 dX9_prints_90 ic_0 ?_
        refine E_iload_n (v := v21) dX9_prints_91 rfl ?_
        refine E_isub dX9_prints_92 ?_
        refine E_goto 97 dX9_prints_93 (by decide) ?_
        obtain ⟨rfl, rfl⟩ := ret2 hf
        exact E.done (by rw [eQ]; exact ⟨rfl, Or.inl ⟨_, _, rfl, rfl, dX9_prints_97, rfl, rfl⟩⟩)
  · rw [if_neg hc14] at hf
    refine E_iload_n (v := (p1_42 + (w11.1 74 1))) dX9_prints_63 rfl ?_
    refine E_iconst 3 dX9_prints_64 ic_3 ?_
    refine E_imul dX9_prints_65 ?_
    refine E_istore_n (ls' := [some (.ref 74), some (.int p1_42), some (.int ((p1_42 + (w11.1 74 1)) * 3))]) dX9_prints_66 rfl rfl rfl ?_
    refine E_aload_n (v := 74) dX9_prints_67 rfl ?_
    refine E_iconst 3 dX9_prints_68 ic_3 ?_
    obtain ⟨r26, hc25, hf⟩ := bd_some hf
    try dsimp only at hf
    refine E_callVi (rest := []) (ci := 9) cv_RX9_49 dX9_prints_69 (MX9_is hc25) rfl sC_74 rfl (by decide) rfl rfl (fun _ => Nat.le_of_ble_eq_true rfl) ?_
    refine E_if_eq 82 dX9_prints_72 (by decide) (fun hc27 => ?_) (fun hc27 => ?_)
    · rw [if_pos hc27] at hf
      refine E_aload_n (v := 74) dX9_prints_82 rfl ?_
      refine E_iconst 4 dX9_prints_83 ic_4 ?_
      obtain ⟨r29, hc28, hf⟩ := bd_some hf
      try dsimp only at hf
      refine E_callVi (rest := []) (ci := 9) cv_RX9_49 dX9_prints_84 (MX9_is hc28) rfl sC_74 rfl (by decide) rfl rfl (fun _ => Nat.le_of_ble_eq_true rfl) ?_
      refine E_if_eq 96 dX9_prints_87 (by decide) (fun hc30 => ?_) (fun hc30 => ?_)
      · rw [if_pos hc30] at hf
        refine E_iload_n (v := ((p1_42 + (w11.1 74 1)) * 3)) dX9_prints_96 rfl ?_
        obtain ⟨rfl, rfl⟩ := ret2 hf
        exact E.done (by rw [eQ]; exact ⟨rfl, Or.inl ⟨_, _, rfl, rfl, dX9_prints_97, rfl, rfl⟩⟩)
      · rw [if_neg hc30] at hf
        refine E_iconst 0 dX9_prints_90 ic_0 ?_
        refine E_iload_n (v := ((p1_42 + (w11.1 74 1)) * 3)) dX9_prints_91 rfl ?_
        refine E_isub dX9_prints_92 ?_
        refine E_goto 97 dX9_prints_93 (by decide) ?_
        obtain ⟨rfl, rfl⟩ := ret2 hf
        exact E.done (by rw [eQ]; exact ⟨rfl, Or.inl ⟨_, _, rfl, rfl, dX9_prints_97, rfl, rfl⟩⟩)
    · rw [if_neg hc27] at hf
      refine E_iload_n (v := ((p1_42 + (w11.1 74 1)) * 3)) dX9_prints_75 rfl ?_
      refine E_aload_n (v := 74) dX9_prints_76 rfl ?_
      refine E_getI fg_RX9_15 dX9_prints_77 sC_74 rfl ?_
      refine E_isub dX9_prints_80 ?_
      obtain ⟨v31, ev31, hf⟩ := lw_some hf
      try dsimp only at hf
      rw [← ev31]
      refine E_istore_n (ls' := [some (.ref 74), some (.int p1_42), some (.int v31)]) dX9_prints_81 rfl rfl rfl ?_
      refine E_aload_n (v := 74) dX9_prints_82 rfl ?_
      refine E_iconst 4 dX9_prints_83 ic_4 ?_
      obtain ⟨r33, hc32, hf⟩ := bd_some hf
      try dsimp only at hf
      refine E_callVi (rest := []) (ci := 9) cv_RX9_49 dX9_prints_84 (MX9_is hc32) rfl sC_74 rfl (by decide) rfl rfl (fun _ => Nat.le_of_ble_eq_true rfl) ?_
      refine E_if_eq 96 dX9_prints_87 (by decide) (fun hc34 => ?_) (fun hc34 => ?_)
      · rw [if_pos hc34] at hf
        refine E_iload_n (v := v31) dX9_prints_96 rfl ?_
        obtain ⟨rfl, rfl⟩ := ret2 hf
        exact E.done (by rw [eQ]; exact ⟨rfl, Or.inl ⟨_, _, rfl, rfl, dX9_prints_97, rfl, rfl⟩⟩)
      · rw [if_neg hc34] at hf
        refine E_iconst 0 dX9_prints_90 ic_0 ?_
        refine E_iload_n (v := v31) dX9_prints_91 rfl ?_
        refine E_isub dX9_prints_92 ?_
        refine E_goto 97 dX9_prints_93 (by decide) ?_
        obtain ⟨rfl, rfl⟩ := ret2 hf
        exact E.done (by rw [eQ]; exact ⟨rfl, Or.inl ⟨_, _, rfl, rfl, dX9_prints_97, rfl, rfl⟩⟩)
set_option maxRecDepth 10000 in
set_option maxHeartbeats 2000000 in
theorem BX9_prints_28 (p1_28 : Int32) (w : AW) (rZ : Int32) (wZ : AW) {Q : Nat → List (Option Value) → List Value → AW → Prop} (eQ : Q = Qret cX9_prints (some .int) (some (.int rZ)) wZ) (hf : bX9_prints_28 p1_28 w = some (rZ, wZ)) : E PC RX9 cX9_prints 3 3 28 [some (.ref 74), some (.int p1_28), none] [] w Q := by
  unfold bX9_prints_28 at hf
  refine E_aload_n (v := 74) dX9_prints_28 rfl ?_
  refine E_iconst 4 dX9_prints_29 ic_4 ?_
  obtain ⟨r8, hc7, hf⟩ := bd_some hf
  try dsimp only at hf
  refine E_callVi (rest := []) (ci := 9) cv_RX9_49 dX9_prints_30 (MX9_is hc7) rfl sC_74 rfl (by decide) rfl rfl (fun _ => Nat.le_of_ble_eq_true rfl) ?_
  refine E_if_eq 42 dX9_prints_33 (by decide) (fun hc9 => ?_) (fun hc9 => ?_)
  · rw [if_pos hc9] at hf
    exact BX9_prints_42 p1_28 w  rZ wZ eQ hf
  · rw [if_neg hc9] at hf
    refine E_aload_n (v := 74) dX9_prints_36 rfl ?_
    refine E_bipush 50 dX9_prints_37 bp_50 ?_
    obtain ⟨w36, hc35, hf⟩ := bd_some hf
    try dsimp only at hf
    refine E_callVv (rest := []) (ci := 9) cv_RX9_53 dX9_prints_39 (MX9_runs hc35) rfl sC_74 rfl (by decide) rfl rfl (fun _ => Nat.le_of_ble_eq_true rfl) ?_
    exact BX9_prints_42 p1_28 w36  rZ wZ eQ hf
set_option maxRecDepth 10000 in
set_option maxHeartbeats 2000000 in
theorem BX9_prints_14 (p1_14 : Int32) (w : AW) (rZ : Int32) (wZ : AW) {Q : Nat → List (Option Value) → List Value → AW → Prop} (eQ : Q = Qret cX9_prints (some .int) (some (.int rZ)) wZ) (hf : bX9_prints_14 p1_14 w = some (rZ, wZ)) : E PC RX9 cX9_prints 3 3 14 [some (.ref 74), some (.int p1_14), none] [] w Q := by
  unfold bX9_prints_14 at hf
  refine E_aload_n (v := 74) dX9_prints_14 rfl ?_
  refine E_iconst 2 dX9_prints_15 ic_2 ?_
  obtain ⟨r5, hc4, hf⟩ := bd_some hf
  try dsimp only at hf
  refine E_callVi (rest := []) (ci := 9) cv_RX9_49 dX9_prints_16 (MX9_is hc4) rfl sC_74 rfl (by decide) rfl rfl (fun _ => Nat.le_of_ble_eq_true rfl) ?_
  refine E_if_eq 28 dX9_prints_19 (by decide) (fun hc6 => ?_) (fun hc6 => ?_)
  · rw [if_pos hc6] at hf
    exact BX9_prints_28 p1_14 w  rZ wZ eQ hf
  · rw [if_neg hc6] at hf
    refine E_aload_n (v := 74) dX9_prints_22 rfl ?_
    refine E_bipush 30 dX9_prints_23 bp_30 ?_
    obtain ⟨w38, hc37, hf⟩ := bd_some hf
    try dsimp only at hf
    refine E_callVv (rest := []) (ci := 9) cv_RX9_53 dX9_prints_25 (MX9_runs hc37) rfl sC_74 rfl (by decide) rfl rfl (fun _ => Nat.le_of_ble_eq_true rfl) ?_
    exact BX9_prints_28 p1_14 w38  rZ wZ eQ hf
set_option maxRecDepth 10000 in
set_option maxHeartbeats 2000000 in
theorem MX9_prints {a0 : Int32} {w : AW} {rZ : Int32} {wZ : AW} (hf : fX9_prints a0 w = some (rZ, wZ)) : CallOK PC yX9_prints cX9_prints 3 (some .int) 3 [.ref 74, .int a0] w (some (.int rZ)) wZ := by
  refine CallOK.of (ls := [some (.ref 74), some (.int a0), none]) (by decide) (by simp) rfl rfl ?_
  obtain ⟨Q, eQ⟩ : ∃ Q, Q = Qret cX9_prints (some .int) (some (.int rZ)) wZ := ⟨_, rfl⟩
  rw [← eQ]
  unfold fX9_prints at hf
  refine E_aload_n (v := 74) dX9_prints_0 rfl ?_
  refine E_iconst 3 dX9_prints_1 ic_3 ?_
  obtain ⟨r2, hc1, hf⟩ := bd_some hf
  try dsimp only at hf
  refine E_callVi (rest := []) (ci := 9) cv_RX9_49 dX9_prints_2 (MX9_is hc1) rfl sC_74 rfl (by decide) rfl rfl (fun _ => Nat.le_of_ble_eq_true rfl) ?_
  refine E_if_eq 14 dX9_prints_5 (by decide) (fun hc3 => ?_) (fun hc3 => ?_)
  · rw [if_pos hc3] at hf
    exact BX9_prints_14 a0 w  rZ wZ eQ hf
  · rw [if_neg hc3] at hf
    refine E_aload_n (v := 74) dX9_prints_8 rfl ?_
    refine E_bipush 41 dX9_prints_9 bp_41 ?_
    obtain ⟨w40, hc39, hf⟩ := bd_some hf
    try dsimp only at hf
    refine E_callVv (rest := []) (ci := 9) cv_RX9_53 dX9_prints_11 (MX9_runs hc39) rfl sC_74 rfl (by decide) rfl rfl (fun _ => Nat.le_of_ble_eq_true rfl) ?_
    exact BX9_prints_14 a0 w40  rZ wZ eQ hf
set_option maxRecDepth 10000 in
set_option maxHeartbeats 2000000 in
theorem BX9_sets_28 (p1_28 : Int32) (w : AW) (rZ : Int32) (wZ : AW) {Q : Nat → List (Option Value) → List Value → AW → Prop} (eQ : Q = Qret cX9_sets (some .int) (some (.int rZ)) wZ) (hf : bX9_sets_28 p1_28 w = some (rZ, wZ)) : E PC RX9 cX9_sets 3 4 28 [some (.ref 74), some (.int p1_28), none] [] w Q := by
  unfold bX9_sets_28 at hf
  refine E_aload_n (v := 74) dX9_sets_28 rfl ?_
  refine E_bipush 11 dX9_sets_29 bp_11 ?_
  obtain ⟨w8, hc7, hf⟩ := bd_some hf
  try dsimp only at hf
  refine E_callVv (rest := []) (ci := 9) cv_RX9_53 dX9_sets_31 (MX9_runs hc7) rfl sC_74 rfl (by decide) rfl rfl (fun _ => Nat.le_of_ble_eq_true rfl) ?_
  refine E_aload_n (v := 74) dX9_sets_34 rfl ?_
  refine E_iload_n (v := p1_28) dX9_sets_35 rfl ?_
  obtain ⟨r10, w11, hc9, hf⟩ := bd2_some hf
  try dsimp only at hf
  refine E_callVi (rest := []) (ci := 9) cv_RX9_32 dX9_sets_36 (MX9_prints hc9) rfl sC_74 rfl (by decide) rfl rfl (fun _ => Nat.le_of_ble_eq_true rfl) ?_
  refine E_iconst 2 dX9_sets_39 ic_2 ?_
  refine E_imul dX9_sets_40 ?_
  refine E_istore_n (ls' := [some (.ref 74), some (.int p1_28), some (.int (r10 * 2))]) dX9_sets_41 rfl rfl rfl ?_
  refine E_aload_n (v := 74) dX9_sets_42 rfl ?_
  refine E_iconst 1 dX9_sets_43 ic_1 ?_
  obtain ⟨r14, hc13, hf⟩ := bd_some hf
  try dsimp only at hf
  refine E_callVi (rest := []) (ci := 9) cv_RX9_49 dX9_sets_44 (MX9_is hc13) rfl sC_74 rfl (by decide) rfl rfl (fun _ => Nat.le_of_ble_eq_true rfl) ?_
  refine E_if_eq 57 dX9_sets_47 (by decide) (fun hc15 => ?_) (fun hc15 => ?_)
  · rw [if_pos hc15] at hf
    refine E_aload_n (v := 74) dX9_sets_57 rfl ?_
    refine E_iconst 4 dX9_sets_58 ic_4 ?_
    obtain ⟨r17, hc16, hf⟩ := bd_some hf
    try dsimp only at hf
    refine E_callVi (rest := []) (ci := 9) cv_RX9_49 dX9_sets_59 (MX9_is hc16) rfl sC_74 rfl (by decide) rfl rfl (fun _ => Nat.le_of_ble_eq_true rfl) ?_
    refine E_if_eq 78 dX9_sets_62 (by decide) (fun hc18 => ?_) (fun hc18 => ?_)
    · rw [if_pos hc18] at hf
      refine E_iload_n (v := (r10 * 2)) dX9_sets_78 rfl ?_
      obtain ⟨rfl, rfl⟩ := ret2 hf
      exact E.done (by rw [eQ]; exact ⟨rfl, Or.inl ⟨_, _, rfl, rfl, dX9_sets_79, rfl, rfl⟩⟩)
    · rw [if_neg hc18] at hf
      refine E_iload_n (v := (r10 * 2)) dX9_sets_65 rfl ?_
      refine E_aload_n (v := 74) dX9_sets_66 rfl ?_
      refine E_aload_n (v := 74) dX9_sets_67 rfl ?_
      refine E_getI fg_RX9_15 dX9_sets_68 sC_74 rfl ?_
      obtain ⟨r20, w21, hc19, hf⟩ := bd2_some hf
      try dsimp only at hf
      refine E_callVi (rest := [.int (r10 * 2)]) (ci := 9) cv_RX9_32 dX9_sets_71 (MX9_prints hc19) rfl sC_74 rfl (by decide) rfl rfl (fun _ => Nat.le_of_ble_eq_true rfl) ?_
      refine E_iadd dX9_sets_74 ?_
      refine E_goto 79 dX9_sets_75 (by decide) ?_
      obtain ⟨rfl, rfl⟩ := ret2 hf
      exact E.done (by rw [eQ]; exact ⟨rfl, Or.inl ⟨_, _, rfl, rfl, dX9_sets_79, rfl, rfl⟩⟩)
  · rw [if_neg hc15] at hf
    refine E_iload_n (v := (r10 * 2)) dX9_sets_50 rfl ?_
    refine E_aload_n (v := 74) dX9_sets_51 rfl ?_
    refine E_getI fg_RX9_18 dX9_sets_52 sC_74 rfl ?_
    refine E_isub dX9_sets_55 ?_
    refine E_istore_n (ls' := [some (.ref 74), some (.int p1_28), some (.int ((r10 * 2) - (w11.1 74 2)))]) dX9_sets_56 rfl rfl rfl ?_
    refine E_aload_n (v := 74) dX9_sets_57 rfl ?_
    refine E_iconst 4 dX9_sets_58 ic_4 ?_
    obtain ⟨r24, hc23, hf⟩ := bd_some hf
    try dsimp only at hf
    refine E_callVi (rest := []) (ci := 9) cv_RX9_49 dX9_sets_59 (MX9_is hc23) rfl sC_74 rfl (by decide) rfl rfl (fun _ => Nat.le_of_ble_eq_true rfl) ?_
    refine E_if_eq 78 dX9_sets_62 (by decide) (fun hc25 => ?_) (fun hc25 => ?_)
    · rw [if_pos hc25] at hf
      refine E_iload_n (v := ((r10 * 2) - (w11.1 74 2))) dX9_sets_78 rfl ?_
      obtain ⟨rfl, rfl⟩ := ret2 hf
      exact E.done (by rw [eQ]; exact ⟨rfl, Or.inl ⟨_, _, rfl, rfl, dX9_sets_79, rfl, rfl⟩⟩)
    · rw [if_neg hc25] at hf
      refine E_iload_n (v := ((r10 * 2) - (w11.1 74 2))) dX9_sets_65 rfl ?_
      refine E_aload_n (v := 74) dX9_sets_66 rfl ?_
      refine E_aload_n (v := 74) dX9_sets_67 rfl ?_
      refine E_getI fg_RX9_15 dX9_sets_68 sC_74 rfl ?_
      obtain ⟨r27, w28, hc26, hf⟩ := bd2_some hf
      try dsimp only at hf
      refine E_callVi (rest := [.int ((r10 * 2) - (w11.1 74 2))]) (ci := 9) cv_RX9_32 dX9_sets_71 (MX9_prints hc26) rfl sC_74 rfl (by decide) rfl rfl (fun _ => Nat.le_of_ble_eq_true rfl) ?_
      refine E_iadd dX9_sets_74 ?_
      refine E_goto 79 dX9_sets_75 (by decide) ?_
      obtain ⟨rfl, rfl⟩ := ret2 hf
      exact E.done (by rw [eQ]; exact ⟨rfl, Or.inl ⟨_, _, rfl, rfl, dX9_sets_79, rfl, rfl⟩⟩)
set_option maxRecDepth 10000 in
set_option maxHeartbeats 2000000 in
theorem BX9_sets_14 (p1_14 : Int32) (w : AW) (rZ : Int32) (wZ : AW) {Q : Nat → List (Option Value) → List Value → AW → Prop} (eQ : Q = Qret cX9_sets (some .int) (some (.int rZ)) wZ) (hf : bX9_sets_14 p1_14 w = some (rZ, wZ)) : E PC RX9 cX9_sets 3 4 14 [some (.ref 74), some (.int p1_14), none] [] w Q := by
  unfold bX9_sets_14 at hf
  refine E_aload_n (v := 74) dX9_sets_14 rfl ?_
  refine E_iconst 1 dX9_sets_15 ic_1 ?_
  obtain ⟨r5, hc4, hf⟩ := bd_some hf
  try dsimp only at hf
  refine E_callVi (rest := []) (ci := 9) cv_RX9_49 dX9_sets_16 (MX9_is hc4) rfl sC_74 rfl (by decide) rfl rfl (fun _ => Nat.le_of_ble_eq_true rfl) ?_
  refine E_if_eq 28 dX9_sets_19 (by decide) (fun hc6 => ?_) (fun hc6 => ?_)
  · rw [if_pos hc6] at hf
    exact BX9_sets_28 p1_14 w  rZ wZ eQ hf
  · rw [if_neg hc6] at hf
    refine E_aload_n (v := 74) dX9_sets_22 rfl ?_
    refine E_bipush 20 dX9_sets_23 bp_20 ?_
    obtain ⟨w31, hc30, hf⟩ := bd_some hf
    try dsimp only at hf
    refine E_callVv (rest := []) (ci := 9) cv_RX9_53 dX9_sets_25 (MX9_runs hc30) rfl sC_74 rfl (by decide) rfl rfl (fun _ => Nat.le_of_ble_eq_true rfl) ?_
    exact BX9_sets_28 p1_14 w31  rZ wZ eQ hf
set_option maxRecDepth 10000 in
set_option maxHeartbeats 2000000 in
theorem MX9_sets {a0 : Int32} {w : AW} {rZ : Int32} {wZ : AW} (hf : fX9_sets a0 w = some (rZ, wZ)) : CallOK PC yX9_sets cX9_sets 3 (some .int) 4 [.ref 74, .int a0] w (some (.int rZ)) wZ := by
  refine CallOK.of (ls := [some (.ref 74), some (.int a0), none]) (by decide) (by simp) rfl rfl ?_
  obtain ⟨Q, eQ⟩ : ∃ Q, Q = Qret cX9_sets (some .int) (some (.int rZ)) wZ := ⟨_, rfl⟩
  rw [← eQ]
  unfold fX9_sets at hf
  refine E_aload_n (v := 74) dX9_sets_0 rfl ?_
  refine E_iconst 4 dX9_sets_1 ic_4 ?_
  obtain ⟨r2, hc1, hf⟩ := bd_some hf
  try dsimp only at hf
  refine E_callVi (rest := []) (ci := 9) cv_RX9_49 dX9_sets_2 (MX9_is hc1) rfl sC_74 rfl (by decide) rfl rfl (fun _ => Nat.le_of_ble_eq_true rfl) ?_
  refine E_if_eq 14 dX9_sets_5 (by decide) (fun hc3 => ?_) (fun hc3 => ?_)
  · rw [if_pos hc3] at hf
    exact BX9_sets_14 a0 w  rZ wZ eQ hf
  · rw [if_neg hc3] at hf
    refine E_aload_n (v := 74) dX9_sets_8 rfl ?_
    refine E_bipush 51 dX9_sets_9 bp_51 ?_
    obtain ⟨w33, hc32, hf⟩ := bd_some hf
    try dsimp only at hf
    refine E_callVv (rest := []) (ci := 9) cv_RX9_53 dX9_sets_11 (MX9_runs hc32) rfl sC_74 rfl (by decide) rfl rfl (fun _ => Nat.le_of_ble_eq_true rfl) ?_
    exact BX9_sets_14 a0 w33  rZ wZ eQ hf
set_option maxRecDepth 10000 in
set_option maxHeartbeats 2000000 in
theorem BX9_shares_67 (q0_67 : Int32) (w : AW) (rZ : Int32) (wZ : AW) {Q : Nat → List (Option Value) → List Value → AW → Prop} (eQ : Q = Qret cX9_shares (some .int) (some (.int rZ)) wZ) (hf : bX9_shares_67 q0_67 w = some (rZ, wZ)) : E PC RX9 cX9_shares 3 4 67 [some (.ref 74), none, none] [.int q0_67] w Q := by
  unfold bX9_shares_67 at hf
  refine E_aload_n (v := 74) dX9_shares_67 rfl ?_
  refine E_getI fg_RX9_18 dX9_shares_68 sC_74 rfl ?_
  refine E_aload_n (v := 74) dX9_shares_71 rfl ?_
  refine E_getI fg_RX9_15 dX9_shares_72 sC_74 rfl ?_
  refine E_isub dX9_shares_75 ?_
  obtain ⟨hz14, hf⟩ := gd_some hf
  refine E_idiv dX9_shares_76 (of_decide_eq_true hz14) ?_
  refine E_istore_n (ls' := [some (.ref 74), none, some (.int (q0_67 / ((w.1 74 2) - (w.1 74 1))))]) dX9_shares_77 rfl rfl rfl ?_
  refine E_aload_n (v := 74) dX9_shares_78 rfl ?_
  refine E_iconst 3 dX9_shares_79 ic_3 ?_
  obtain ⟨r16, hc15, hf⟩ := bd_some hf
  try dsimp only at hf
  refine E_callVi (rest := []) (ci := 9) cv_RX9_49 dX9_shares_80 (MX9_is hc15) rfl sC_74 rfl (by decide) rfl rfl (fun _ => Nat.le_of_ble_eq_true rfl) ?_
  refine E_if_eq 90 dX9_shares_83 (by decide) (fun hc17 => ?_) (fun hc17 => ?_)
  · rw [if_pos hc17] at hf
    refine E_aload_n (v := 74) dX9_shares_90 rfl ?_
    refine E_iconst 5 dX9_shares_91 ic_5 ?_
    obtain ⟨r19, hc18, hf⟩ := bd_some hf
    try dsimp only at hf
    refine E_callVi (rest := []) (ci := 9) cv_RX9_49 dX9_shares_92 (MX9_is hc18) rfl sC_74 rfl (by decide) rfl rfl (fun _ => Nat.le_of_ble_eq_true rfl) ?_
    refine E_if_eq 111 dX9_shares_95 (by decide) (fun hc20 => ?_) (fun hc20 => ?_)
    · rw [if_pos hc20] at hf
      refine E_iload_n (v := (q0_67 / ((w.1 74 2) - (w.1 74 1)))) dX9_shares_111 rfl ?_
      obtain ⟨rfl, rfl⟩ := ret2 hf
      exact E.done (by rw [eQ]; exact ⟨rfl, Or.inl ⟨_, _, rfl, rfl, dX9_shares_112, rfl, rfl⟩⟩)
    · rw [if_neg hc20] at hf
      refine E_iload_n (v := (q0_67 / ((w.1 74 2) - (w.1 74 1)))) dX9_shares_98 rfl ?_
      refine E_aload_n (v := 74) dX9_shares_99 rfl ?_
      refine E_aload_n (v := 74) dX9_shares_100 rfl ?_
      refine E_getI fg_RX9_18 dX9_shares_101 sC_74 rfl ?_
      obtain ⟨r22, w23, hc21, hf⟩ := bd2_some hf
      try dsimp only at hf
      refine E_callVi (rest := [.int (q0_67 / ((w.1 74 2) - (w.1 74 1)))]) (ci := 9) cv_RX9_32 dX9_shares_104 (MX9_prints hc21) rfl sC_74 rfl (by decide) rfl rfl (fun _ => Nat.le_of_ble_eq_true rfl) ?_
      refine E_iadd dX9_shares_107 ?_
      refine E_goto 112 dX9_shares_108 (by decide) ?_
      obtain ⟨rfl, rfl⟩ := ret2 hf
      exact E.done (by rw [eQ]; exact ⟨rfl, Or.inl ⟨_, _, rfl, rfl, dX9_shares_112, rfl, rfl⟩⟩)
  · rw [if_neg hc17] at hf
    refine E_iload_n (v := (q0_67 / ((w.1 74 2) - (w.1 74 1)))) dX9_shares_86 rfl ?_
    refine E_iconst 1 dX9_shares_87 ic_1 ?_
    refine E_ixor dX9_shares_88 ?_
    obtain ⟨v25, ev25, hf⟩ := lw_some hf
    try dsimp only at hf
    rw [← ev25]
    refine E_istore_n (ls' := [some (.ref 74), none, some (.int v25)]) dX9_shares_89 rfl rfl rfl ?_
    refine E_aload_n (v := 74) dX9_shares_90 rfl ?_
    refine E_iconst 5 dX9_shares_91 ic_5 ?_
    obtain ⟨r27, hc26, hf⟩ := bd_some hf
    try dsimp only at hf
    refine E_callVi (rest := []) (ci := 9) cv_RX9_49 dX9_shares_92 (MX9_is hc26) rfl sC_74 rfl (by decide) rfl rfl (fun _ => Nat.le_of_ble_eq_true rfl) ?_
    refine E_if_eq 111 dX9_shares_95 (by decide) (fun hc28 => ?_) (fun hc28 => ?_)
    · rw [if_pos hc28] at hf
      refine E_iload_n (v := v25) dX9_shares_111 rfl ?_
      obtain ⟨rfl, rfl⟩ := ret2 hf
      exact E.done (by rw [eQ]; exact ⟨rfl, Or.inl ⟨_, _, rfl, rfl, dX9_shares_112, rfl, rfl⟩⟩)
    · rw [if_neg hc28] at hf
      refine E_iload_n (v := v25) dX9_shares_98 rfl ?_
      refine E_aload_n (v := 74) dX9_shares_99 rfl ?_
      refine E_aload_n (v := 74) dX9_shares_100 rfl ?_
      refine E_getI fg_RX9_18 dX9_shares_101 sC_74 rfl ?_
      obtain ⟨r30, w31, hc29, hf⟩ := bd2_some hf
      try dsimp only at hf
      refine E_callVi (rest := [.int v25]) (ci := 9) cv_RX9_32 dX9_shares_104 (MX9_prints hc29) rfl sC_74 rfl (by decide) rfl rfl (fun _ => Nat.le_of_ble_eq_true rfl) ?_
      refine E_iadd dX9_shares_107 ?_
      refine E_goto 112 dX9_shares_108 (by decide) ?_
      obtain ⟨rfl, rfl⟩ := ret2 hf
      exact E.done (by rw [eQ]; exact ⟨rfl, Or.inl ⟨_, _, rfl, rfl, dX9_shares_112, rfl, rfl⟩⟩)
set_option maxRecDepth 10000 in
set_option maxHeartbeats 2000000 in
theorem BX9_shares_28 (p1_28 : Int32) (w : AW) (rZ : Int32) (wZ : AW) {Q : Nat → List (Option Value) → List Value → AW → Prop} (eQ : Q = Qret cX9_shares (some .int) (some (.int rZ)) wZ) (hf : bX9_shares_28 p1_28 w = some (rZ, wZ)) : E PC RX9 cX9_shares 3 4 28 [some (.ref 74), some (.int p1_28), none] [] w Q := by
  unfold bX9_shares_28 at hf
  refine E_aload_n (v := 74) dX9_shares_28 rfl ?_
  refine E_bipush 12 dX9_shares_29 bp_12 ?_
  obtain ⟨w8, hc7, hf⟩ := bd_some hf
  try dsimp only at hf
  refine E_callVv (rest := []) (ci := 9) cv_RX9_53 dX9_shares_31 (MX9_runs hc7) rfl sC_74 rfl (by decide) rfl rfl (fun _ => Nat.le_of_ble_eq_true rfl) ?_
  refine E_aload_n (v := 74) dX9_shares_34 rfl ?_
  refine E_getI fg_RX9_18 dX9_shares_35 sC_74 rfl ?_
  refine E_aload_n (v := 74) dX9_shares_38 rfl ?_
  refine E_getI fg_RX9_15 dX9_shares_39 sC_74 rfl ?_
  refine E_icmp_ne 52 dX9_shares_42 (by decide) (fun hc9 => ?_) (fun hc9 => ?_)
  · rw [if_pos hc9] at hf
    refine E_aload_n (v := 74) dX9_shares_45 rfl ?_
    refine E_iconst 1 dX9_shares_46 ic_1 ?_
    obtain ⟨w10, ew10, hf⟩ := lw_some hf
    try dsimp only at hf
    refine E_putI fp_RX9_21 dX9_shares_47 sC_74 rfl rfl rfl ?_
    rw [← ew10]
    refine E_iconst 0 dX9_shares_50 ic_0 ?_
    obtain ⟨rfl, rfl⟩ := ret2 hf
    exact E.done (by rw [eQ]; exact ⟨rfl, Or.inl ⟨_, _, rfl, rfl, dX9_shares_51, rfl, rfl⟩⟩)
  · rw [if_neg hc9] at hf
    refine E_aload_n (v := 74) dX9_shares_52 rfl ?_
    refine E_iconst 3 dX9_shares_53 ic_3 ?_
    obtain ⟨r12, hc11, hf⟩ := bd_some hf
    try dsimp only at hf
    refine E_callVi (rest := []) (ci := 9) cv_RX9_49 dX9_shares_54 (MX9_is hc11) rfl sC_74 rfl (by decide) rfl rfl (fun _ => Nat.le_of_ble_eq_true rfl) ?_
    refine E_if_eq 66 dX9_shares_57 (by decide) (fun hc13 => ?_) (fun hc13 => ?_)
    · rw [if_pos hc13] at hf
      refine E_iload_n (v := p1_28) dX9_shares_66 rfl ?_
      refine E.fewer (ls' := [some (.ref 74), none, none]) ⟨Or.inr rfl, ⟨Or.inl rfl, ⟨Or.inl rfl, trivial⟩⟩⟩ ?_
      exact BX9_shares_67 p1_28 w8  rZ wZ eQ hf
    · rw [if_neg hc13] at hf
      refine E_iload_n (v := p1_28) dX9_shares_60 rfl ?_
      refine E_iconst 2 dX9_shares_61 ic_2 ?_
      refine E_iadd dX9_shares_62 ?_
      refine E_goto 67 dX9_shares_63 (by decide) ?_
      refine E.fewer (ls' := [some (.ref 74), none, none]) ⟨Or.inr rfl, ⟨Or.inl rfl, ⟨Or.inl rfl, trivial⟩⟩⟩ ?_
      exact BX9_shares_67 (p1_28 + 2) w8  rZ wZ eQ hf
set_option maxRecDepth 10000 in
set_option maxHeartbeats 2000000 in
theorem BX9_shares_14 (p1_14 : Int32) (w : AW) (rZ : Int32) (wZ : AW) {Q : Nat → List (Option Value) → List Value → AW → Prop} (eQ : Q = Qret cX9_shares (some .int) (some (.int rZ)) wZ) (hf : bX9_shares_14 p1_14 w = some (rZ, wZ)) : E PC RX9 cX9_shares 3 4 14 [some (.ref 74), some (.int p1_14), none] [] w Q := by
  unfold bX9_shares_14 at hf
  refine E_aload_n (v := 74) dX9_shares_14 rfl ?_
  refine E_iconst 5 dX9_shares_15 ic_5 ?_
  obtain ⟨r5, hc4, hf⟩ := bd_some hf
  try dsimp only at hf
  refine E_callVi (rest := []) (ci := 9) cv_RX9_49 dX9_shares_16 (MX9_is hc4) rfl sC_74 rfl (by decide) rfl rfl (fun _ => Nat.le_of_ble_eq_true rfl) ?_
  refine E_if_eq 28 dX9_shares_19 (by decide) (fun hc6 => ?_) (fun hc6 => ?_)
  · rw [if_pos hc6] at hf
    exact BX9_shares_28 p1_14 w  rZ wZ eQ hf
  · rw [if_neg hc6] at hf
    refine E_aload_n (v := 74) dX9_shares_22 rfl ?_
    refine E_bipush 61 dX9_shares_23 bp_61 ?_
    obtain ⟨w34, hc33, hf⟩ := bd_some hf
    try dsimp only at hf
    refine E_callVv (rest := []) (ci := 9) cv_RX9_53 dX9_shares_25 (MX9_runs hc33) rfl sC_74 rfl (by decide) rfl rfl (fun _ => Nat.le_of_ble_eq_true rfl) ?_
    exact BX9_shares_28 p1_14 w34  rZ wZ eQ hf
set_option maxRecDepth 10000 in
set_option maxHeartbeats 2000000 in
theorem MX9_shares {a0 : Int32} {w : AW} {rZ : Int32} {wZ : AW} (hf : fX9_shares a0 w = some (rZ, wZ)) : CallOK PC yX9_shares cX9_shares 3 (some .int) 4 [.ref 74, .int a0] w (some (.int rZ)) wZ := by
  refine CallOK.of (ls := [some (.ref 74), some (.int a0), none]) (by decide) (by simp) rfl rfl ?_
  obtain ⟨Q, eQ⟩ : ∃ Q, Q = Qret cX9_shares (some .int) (some (.int rZ)) wZ := ⟨_, rfl⟩
  rw [← eQ]
  unfold fX9_shares at hf
  refine E_aload_n (v := 74) dX9_shares_0 rfl ?_
  refine E_iconst 3 dX9_shares_1 ic_3 ?_
  obtain ⟨r2, hc1, hf⟩ := bd_some hf
  try dsimp only at hf
  refine E_callVi (rest := []) (ci := 9) cv_RX9_49 dX9_shares_2 (MX9_is hc1) rfl sC_74 rfl (by decide) rfl rfl (fun _ => Nat.le_of_ble_eq_true rfl) ?_
  refine E_if_eq 14 dX9_shares_5 (by decide) (fun hc3 => ?_) (fun hc3 => ?_)
  · rw [if_pos hc3] at hf
    exact BX9_shares_14 a0 w  rZ wZ eQ hf
  · rw [if_neg hc3] at hf
    refine E_aload_n (v := 74) dX9_shares_8 rfl ?_
    refine E_bipush 40 dX9_shares_9 bp_40 ?_
    obtain ⟨w36, hc35, hf⟩ := bd_some hf
    try dsimp only at hf
    refine E_callVv (rest := []) (ci := 9) cv_RX9_53 dX9_shares_11 (MX9_runs hc35) rfl sC_74 rfl (by decide) rfl rfl (fun _ => Nat.le_of_ble_eq_true rfl) ?_
    exact BX9_shares_14 a0 w36  rZ wZ eQ hf
