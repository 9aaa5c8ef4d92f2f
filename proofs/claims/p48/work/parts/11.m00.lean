variable {S : SC}
set_option maxRecDepth 10000 in
set_option maxHeartbeats 2000000 in
theorem MX11_within {a0 : Int32} {a1 : Int32} {a2 : Int32} {w : AW} {rZ : Int32} (hf : fX11_within a0 a1 a2 w = some rZ) : CallOK (PC S) yX11_within cX11_within 3 (some .boolean) 1 [.int a0, .int a1, .int a2] w (some (.int rZ)) w := by
  refine CallOK.of (ls := [some (.int a0), some (.int a1), some (.int a2)]) (by decide) (by simp) rfl rfl ?_
  obtain ⟨Q, eQ⟩ : ∃ Q, Q = Qret cX11_within (some .boolean) (some (.int rZ)) w := ⟨_, rfl⟩
  rw [← eQ]
  unfold fX11_within at hf
  refine E_iload_n (v := a0) dX11_within_0 rfl ?_
  refine E_iload_n (v := a1) dX11_within_1 rfl ?_
  refine E_icmp_lt 14 dX11_within_2 (by decide) (fun hc1 => ?_) (fun hc1 => ?_)
  · rw [if_pos hc1] at hf
    refine E_iconst 0 dX11_within_14 ic_0 ?_
    obtain rfl := Option.some.inj hf
    exact E.done (by rw [eQ]; exact ⟨rfl, Or.inl ⟨_, _, rfl, rfl, dX11_within_15, rfl, rfl⟩⟩)
  · rw [if_neg hc1] at hf
    refine E_iload_n (v := a0) dX11_within_5 rfl ?_
    refine E_iload_n (v := a2) dX11_within_6 rfl ?_
    refine E_icmp_gt 14 dX11_within_7 (by decide) (fun hc2 => ?_) (fun hc2 => ?_)
    · rw [if_pos hc2] at hf
      refine E_iconst 0 dX11_within_14 ic_0 ?_
      obtain rfl := Option.some.inj hf
      exact E.done (by rw [eQ]; exact ⟨rfl, Or.inl ⟨_, _, rfl, rfl, dX11_within_15, rfl, rfl⟩⟩)
    · rw [if_neg hc2] at hf
      refine E_iconst 1 dX11_within_10 ic_1 ?_
      refine E_goto 15 dX11_within_11 (by decide) ?_
      obtain rfl := Option.some.inj hf
      exact E.done (by rw [eQ]; exact ⟨rfl, Or.inl ⟨_, _, rfl, rfl, dX11_within_15, rfl, rfl⟩⟩)
set_option maxRecDepth 10000 in
set_option maxHeartbeats 2000000 in
theorem MX1_slotsOn {b : Nat} {a0 : Int32} {w : AW} {rZ : Int32} (hb : isB b) (hf : fX1_slotsOn b a0 w = some rZ) : CallOK (PC S) yX1_slotsOn cX1_slotsOn 2 (some .int) 2 [.ref b, .int a0] w (some (.int rZ)) w := by
  refine CallOK.of (ls := [some (.ref b), some (.int a0)]) (by decide) (by simp) rfl rfl ?_
  obtain ⟨Q, eQ⟩ : ∃ Q, Q = Qret cX1_slotsOn (some .int) (some (.int rZ)) w := ⟨_, rfl⟩
  rw [← eQ]
  unfold fX1_slotsOn at hf
  refine E_iload_n (v := a0) dX1_slotsOn_0 rfl ?_
  refine E_if_lt 10 dX1_slotsOn_1 (by decide) (fun hc1 => ?_) (fun hc1 => ?_)
  · rw [if_pos hc1] at hf
    refine E_aload_n (v := b) dX1_slotsOn_10 rfl ?_
    refine E_getR fg_RX1_18 dX1_slotsOn_11 (B_s0 hb) rfl (B_r0_1 hb) (Nat.succ_ne_zero _) ?_
    refine E_iconst 0 dX1_slotsOn_14 ic_0 ?_
    refine E_iald (n := 4) dX1_slotsOn_15 (B_s7 hb) (by decide) (inb_in (by decide)) ?_
    obtain rfl := Option.some.inj hf
    exact E.done (by rw [eQ]; exact ⟨rfl, Or.inl ⟨_, _, rfl, rfl, dX1_slotsOn_16, rfl, rfl⟩⟩)
  · rw [if_neg hc1] at hf
    refine E_iload_n (v := a0) dX1_slotsOn_4 rfl ?_
    refine E_bipush 60 dX1_slotsOn_5 bp_60 ?_
    refine E_icmp_le 17 dX1_slotsOn_7 (by decide) (fun hc2 => ?_) (fun hc2 => ?_)
    · rw [if_pos hc2] at hf
      refine E_iconst 0 dX1_slotsOn_17 ic_0 ?_
      refine E_aload_n (v := b) dX1_slotsOn_18 rfl ?_
      refine E_getR fg_RX1_18 dX1_slotsOn_19 (B_s0 hb) rfl (B_r0_1 hb) (Nat.succ_ne_zero _) ?_
      refine E_iconst 0 dX1_slotsOn_22 ic_0 ?_
      refine E_iald (n := 4) dX1_slotsOn_23 (B_s7 hb) (by decide) (inb_in (by decide)) ?_
      refine E_aload_n (v := b) dX1_slotsOn_24 rfl ?_
      refine E_getR fg_RX1_22 dX1_slotsOn_25 (B_s0 hb) rfl (B_r0_2 hb) (Nat.succ_ne_zero _) ?_
      refine E_iload_n (v := a0) dX1_slotsOn_28 rfl ?_
      obtain ⟨hi3, hf⟩ := gd_some hf
      refine E_iald (n := 61) dX1_slotsOn_29 (B_s8 hb) (by decide) (inb_in hi3) ?_
      refine E_isub dX1_slotsOn_30 ?_
      refine E_mmax wl_RX1_44 wsM_max win_math wcM_max dX1_slotsOn_31 (by omega) (fun _ => Nat.le_of_ble_eq_true rfl) ?_
      refine E_aload_n (v := b) dX1_slotsOn_34 rfl ?_
      refine E_getR fg_RX1_25 dX1_slotsOn_35 (B_s0 hb) rfl (B_r0_3 hb) (Nat.succ_ne_zero _) ?_
      refine E_iload_n (v := a0) dX1_slotsOn_38 rfl ?_
      refine E_iald (n := 61) dX1_slotsOn_39 (B_s9 hb) (by decide) (inb_in hi3) ?_
      refine E_iadd dX1_slotsOn_40 ?_
      obtain rfl := Option.some.inj hf
      exact E.done (by rw [eQ]; exact ⟨rfl, Or.inl ⟨_, _, rfl, rfl, dX1_slotsOn_41, rfl, rfl⟩⟩)
    · rw [if_neg hc2] at hf
      refine E_aload_n (v := b) dX1_slotsOn_10 rfl ?_
      refine E_getR fg_RX1_18 dX1_slotsOn_11 (B_s0 hb) rfl (B_r0_1 hb) (Nat.succ_ne_zero _) ?_
      refine E_iconst 0 dX1_slotsOn_14 ic_0 ?_
      refine E_iald (n := 4) dX1_slotsOn_15 (B_s7 hb) (by decide) (inb_in (by decide)) ?_
      obtain rfl := Option.some.inj hf
      exact E.done (by rw [eQ]; exact ⟨rfl, Or.inl ⟨_, _, rfl, rfl, dX1_slotsOn_16, rfl, rfl⟩⟩)
set_option maxRecDepth 10000 in
set_option maxHeartbeats 2000000 in
theorem MX3_measure {N : Nat} {o0 : Nat} {a1 : Int32} {w : AW} {wZ : AW} (ho0 : isB o0) (hf : fX3_measure N o0 a1 w = some wZ) : CallOK (PC S) yX3_measure cX3_measure 7 none 3 [.ref 46, .ref o0, .int a1] w none wZ := by
  refine CallOK.of (ls := [some (.ref 46), some (.ref o0), some (.int a1), none, none, none, none]) (by decide) (by simp) rfl rfl ?_
  obtain ⟨Q, eQ⟩ : ∃ Q, Q = Qret cX3_measure none none wZ := ⟨_, rfl⟩
  rw [← eQ]
  unfold fX3_measure at hf
  refine E_aload_n (v := 46) dX3_measure_0 rfl ?_
  refine E_aload_n (v := o0) dX3_measure_1 rfl ?_
  refine E_getR fg_RX3_34 dX3_measure_2 (B_s0 ho0) rfl (B_r0_1 ho0) (Nat.succ_ne_zero _) ?_
  refine E_iconst 2 dX3_measure_5 ic_2 ?_
  refine E_iald (n := 4) dX3_measure_6 (B_s7 ho0) (by decide) (inb_in (by decide)) ?_
  obtain ⟨w1, ew1, hf⟩ := lw_some hf
  try dsimp only at hf
  refine E_putI fp_RX3_18 dX3_measure_7 sC_46 rfl rfl rfl ?_
  rw [← ew1]
  refine E_aload_n (v := 46) dX3_measure_10 rfl ?_
  refine E_aload_n (v := o0) dX3_measure_11 rfl ?_
  refine E_getR fg_RX3_34 dX3_measure_12 (B_s0 ho0) rfl (B_r0_1 ho0) (Nat.succ_ne_zero _) ?_
  refine E_iconst 3 dX3_measure_15 ic_3 ?_
  refine E_iald (n := 4) dX3_measure_16 (B_s7 ho0) (by decide) (inb_in (by decide)) ?_
  obtain ⟨w2, ew2, hf⟩ := lw_some hf
  try dsimp only at hf
  refine E_putI fp_RX3_22 dX3_measure_17 sC_46 rfl rfl rfl ?_
  rw [← ew2]
  refine E_aload_n (v := 46) dX3_measure_20 rfl ?_
  refine E_aload_n (v := o0) dX3_measure_21 rfl ?_
  refine E_getR fg_RX3_34 dX3_measure_22 (B_s0 ho0) rfl (B_r0_1 ho0) (Nat.succ_ne_zero _) ?_
  refine E_iconst 1 dX3_measure_25 ic_1 ?_
  refine E_iald (n := 4) dX3_measure_26 (B_s7 ho0) (by decide) (inb_in (by decide)) ?_
  obtain ⟨w3, ew3, hf⟩ := lw_some hf
  try dsimp only at hf
  refine E_putI fp_RX3_25 dX3_measure_27 sC_46 rfl rfl rfl ?_
  rw [← ew3]
  refine E_aload_n (v := 46) dX3_measure_30 rfl ?_
  refine E_aload_n (v := o0) dX3_measure_31 rfl ?_
  refine E_getI fg_RX3_39 dX3_measure_32 (B_s0 ho0) rfl ?_
  obtain ⟨w4, ew4, hf⟩ := lw_some hf
  try dsimp only at hf
  refine E_putI fp_RX3_28 dX3_measure_35 sC_46 rfl rfl rfl ?_
  rw [← ew4]
  refine E_aload_n (v := 46) dX3_measure_38 rfl ?_
  refine E_aload_n (v := o0) dX3_measure_39 rfl ?_
  refine E_getI fg_RX3_40 dX3_measure_40 (B_s0 ho0) rfl ?_
  obtain ⟨w5, ew5, hf⟩ := lw_some hf
  try dsimp only at hf
  refine E_putI fp_RX3_31 dX3_measure_43 sC_46 rfl rfl rfl ?_
  rw [← ew5]
  refine E_iconst 0 dX3_measure_46 ic_0 ?_
  refine E_istore_n (ls' := [some (.ref 46), some (.ref o0), some (.int a1), some (.int 0), none, none, none]) dX3_measure_47 rfl rfl rfl ?_
  refine E_aload_n (v := o0) dX3_measure_48 rfl ?_
  refine E_getI fg_RX3_41 dX3_measure_49 (B_s0 ho0) rfl ?_
  refine E_istore (ls' := [some (.ref 46), some (.ref o0), some (.int a1), some (.int 0), some (.int (w5.1 o0 5)), none, none]) dX3_measure_52 rfl rfl rfl ?_
  obtain ⟨q, hw25, hf⟩ := bd_some hf
  try dsimp only at hf
  show (fun (s : Int32 × Int32 × AW) => E (PC S) RX3 cX3_measure 7 3 54 [some (.ref 46), some (.ref o0), some (.int a1), some (.int s.1), some (.int s.2.1), none, none] [] s.2.2 Q) (0, (w5.1 o0 5), w5)
  refine wh_E (K := (fun (s : Int32 × Int32 × AW) => E (PC S) RX3 cX3_measure 7 3 54 [some (.ref 46), some (.ref o0), some (.int a1), some (.int s.1), some (.int s.2.1), none, none] [] s.2.2 Q)) (X := (fun (s : AW) => E (PC S) RX3 cX3_measure 7 3 132 [none, none, none, none, none, none, none] [] s Q)) ?_ hw25 ?_
  · intro s9 z9 hf k9
    obtain ⟨x3_54_1, x4_54_1, w_54_1⟩ := s9
    dsimp only [lbX3_measure_54_1] at hf
    show E (PC S) RX3 cX3_measure 7 3 54 [some (.ref 46), some (.ref o0), some (.int a1), some (.int x3_54_1), some (.int x4_54_1), none, none] [] w_54_1 Q
    refine E_iload (v := x4_54_1) dX3_measure_54 rfl ?_
    refine E_sipush 186 dX3_measure_56 sp_186 ?_
    refine E_icmp_gt 132 dX3_measure_59 (by decide) (fun hc6 => ?_) (fun hc6 => ?_)
    · rw [if_pos hc6] at hf
      obtain rfl := Option.some.inj hf
      refine E.fewer (ls' := [none, none, none, none, none, none, none]) ⟨Or.inl rfl, ⟨Or.inl rfl, ⟨Or.inl rfl, ⟨Or.inl rfl, ⟨Or.inl rfl, ⟨Or.inl rfl, ⟨Or.inl rfl, trivial⟩⟩⟩⟩⟩⟩⟩ ?_
      exact k9
    · rw [if_neg hc6] at hf
      refine E_iload_n (v := x3_54_1) dX3_measure_62 rfl ?_
      refine E_bipush 126 dX3_measure_63 bp_126 ?_
      refine E_icmp_ge 132 dX3_measure_65 (by decide) (fun hc7 => ?_) (fun hc7 => ?_)
      · rw [if_pos hc7] at hf
        obtain rfl := Option.some.inj hf
        refine E.fewer (ls' := [none, none, none, none, none, none, none]) ⟨Or.inl rfl, ⟨Or.inl rfl, ⟨Or.inl rfl, ⟨Or.inl rfl, ⟨Or.inl rfl, ⟨Or.inl rfl, ⟨Or.inl rfl, trivial⟩⟩⟩⟩⟩⟩⟩ ?_
        exact k9
      · rw [if_neg hc7] at hf
        refine E_aload_n (v := o0) dX3_measure_68 rfl ?_
        refine E_iload (v := x4_54_1) dX3_measure_69 rfl ?_
        obtain ⟨r9, hc8, hf⟩ := bd_some hf
        try dsimp only at hf
        refine E_callVi (rest := []) (ci := 1) cv_RX3_44 dX3_measure_71 (MX1_slotsOn ho0 hc8) rfl (B_s0 ho0) rfl (by decide) rfl rfl (fun _ => Nat.le_of_ble_eq_true rfl) ?_
        refine E_iload (v := x4_54_1) dX3_measure_74 rfl ?_
        refine E_aload_n (v := o0) dX3_measure_76 rfl ?_
        refine E_getI fg_RX3_41 dX3_measure_77 (B_s0 ho0) rfl ?_
        refine E_isub dX3_measure_80 ?_
        refine E_iload_n (v := a1) dX3_measure_81 rfl ?_
        refine E_icmp_ge 89 dX3_measure_82 (by decide) (fun hc10 => ?_) (fun hc10 => ?_)
        · rw [if_pos hc10] at hf
          refine E_iconst 0 dX3_measure_89 ic_0 ?_
          refine E_iadd dX3_measure_90 ?_
          refine E_istore (ls' := [some (.ref 46), some (.ref o0), some (.int a1), some (.int x3_54_1), some (.int x4_54_1), some (.int (r9 + 0)), none]) dX3_measure_91 rfl rfl rfl ?_
          refine E_iconst 0 dX3_measure_93 ic_0 ?_
          refine E_istore (ls' := [some (.ref 46), some (.ref o0), some (.int a1), some (.int x3_54_1), some (.int x4_54_1), some (.int (r9 + 0)), some (.int 0)]) dX3_measure_94 rfl rfl rfl ?_
          obtain ⟨q, hw15, hf⟩ := bd_some hf
          try dsimp only at hf
          show (fun (s : Int32 × Int32 × AW) => E (PC S) RX3 cX3_measure 7 3 96 [some (.ref 46), some (.ref o0), some (.int a1), some (.int s.1), some (.int x4_54_1), some (.int (r9 + 0)), some (.int s.2.1)] [] s.2.2 Q) (x3_54_1, 0, w_54_1)
          refine wh_E (K := (fun (s : Int32 × Int32 × AW) => E (PC S) RX3 cX3_measure 7 3 96 [some (.ref 46), some (.ref o0), some (.int a1), some (.int s.1), some (.int x4_54_1), some (.int (r9 + 0)), some (.int s.2.1)] [] s.2.2 Q)) (X := (fun (s : Int32 × AW) => E (PC S) RX3 cX3_measure 7 3 126 [some (.ref 46), some (.ref o0), some (.int a1), some (.int s.1), some (.int x4_54_1), none, none] [] s.2 Q)) ?_ hw15 ?_
          · intro s9 z9 hf k9
            obtain ⟨x3_96_2, x6_96_2, w_96_2⟩ := s9
            dsimp only [lbX3_measure_96_2] at hf
            show E (PC S) RX3 cX3_measure 7 3 96 [some (.ref 46), some (.ref o0), some (.int a1), some (.int x3_96_2), some (.int x4_54_1), some (.int (r9 + 0)), some (.int x6_96_2)] [] w_96_2 Q
            refine E_iload (v := x6_96_2) dX3_measure_96 rfl ?_
            refine E_iload (v := (r9 + 0)) dX3_measure_98 rfl ?_
            refine E_icmp_ge 126 dX3_measure_100 (by decide) (fun hc11 => ?_) (fun hc11 => ?_)
            · rw [if_pos hc11] at hf
              obtain rfl := Option.some.inj hf
              refine E.fewer (ls' := [some (.ref 46), some (.ref o0), some (.int a1), some (.int x3_96_2), some (.int x4_54_1), none, none]) ⟨Or.inr rfl, ⟨Or.inr rfl, ⟨Or.inr rfl, ⟨Or.inr rfl, ⟨Or.inr rfl, ⟨Or.inl rfl, ⟨Or.inl rfl, trivial⟩⟩⟩⟩⟩⟩⟩ ?_
              exact k9
            · rw [if_neg hc11] at hf
              refine E_iload_n (v := x3_96_2) dX3_measure_103 rfl ?_
              refine E_bipush 126 dX3_measure_104 bp_126 ?_
              refine E_icmp_ge 126 dX3_measure_106 (by decide) (fun hc12 => ?_) (fun hc12 => ?_)
              · rw [if_pos hc12] at hf
                obtain rfl := Option.some.inj hf
                refine E.fewer (ls' := [some (.ref 46), some (.ref o0), some (.int a1), some (.int x3_96_2), some (.int x4_54_1), none, none]) ⟨Or.inr rfl, ⟨Or.inr rfl, ⟨Or.inr rfl, ⟨Or.inr rfl, ⟨Or.inr rfl, ⟨Or.inl rfl, ⟨Or.inl rfl, trivial⟩⟩⟩⟩⟩⟩⟩ ?_
                exact k9
              · rw [if_neg hc12] at hf
                refine E_iinc (ls' := [some (.ref 46), some (.ref o0), some (.int a1), some (.int (x3_96_2 + 1)), some (.int x4_54_1), some (.int (r9 + 0)), some (.int x6_96_2)]) 1 dX3_measure_109 rfl ic_1 rfl rfl rfl ?_
                refine E_aload_n (v := 46) dX3_measure_112 rfl ?_
                refine E_getR fg_RX3_11 dX3_measure_113 sC_46 rfl rC_46_0 (Nat.succ_ne_zero _) ?_
                refine E_iload_n (v := (x3_96_2 + 1)) dX3_measure_116 rfl ?_
                refine E_iload (v := x4_54_1) dX3_measure_117 rfl ?_
                obtain ⟨hi13, hf⟩ := gd_some hf
                obtain ⟨w14, ew14, hf⟩ := lw_some hf
                try dsimp only at hf
                refine E_iast (n := 127) dX3_measure_119 sC_47 (by decide) (inb_in hi13) ?_
                rw [← ew14]
                refine E_iinc (ls' := [some (.ref 46), some (.ref o0), some (.int a1), some (.int (x3_96_2 + 1)), some (.int x4_54_1), some (.int (r9 + 0)), some (.int (x6_96_2 + 1))]) 1 dX3_measure_120 rfl ic_1 rfl rfl rfl ?_
                refine E_goto 96 dX3_measure_123 (by decide) ?_
                obtain rfl := Option.some.inj hf
                exact k9
          · skip
            obtain ⟨y16, w17⟩ := q
            try dsimp only at hf
            show E (PC S) RX3 cX3_measure 7 3 126 [some (.ref 46), some (.ref o0), some (.int a1), some (.int y16), some (.int x4_54_1), none, none] [] w17 Q
            refine E_iinc (ls' := [some (.ref 46), some (.ref o0), some (.int a1), some (.int y16), some (.int (x4_54_1 + 1)), none, none]) 1 dX3_measure_126 rfl ic_1 rfl rfl rfl ?_
            refine E_goto 54 dX3_measure_129 (by decide) ?_
            obtain rfl := Option.some.inj hf
            exact k9
        · rw [if_neg hc10] at hf
          refine E_iconst 1 dX3_measure_85 ic_1 ?_
          refine E_goto 90 dX3_measure_86 (by decide) ?_
          refine E_iadd dX3_measure_90 ?_
          refine E_istore (ls' := [some (.ref 46), some (.ref o0), some (.int a1), some (.int x3_54_1), some (.int x4_54_1), some (.int (r9 + 1)), none]) dX3_measure_91 rfl rfl rfl ?_
          refine E_iconst 0 dX3_measure_93 ic_0 ?_
          refine E_istore (ls' := [some (.ref 46), some (.ref o0), some (.int a1), some (.int x3_54_1), some (.int x4_54_1), some (.int (r9 + 1)), some (.int 0)]) dX3_measure_94 rfl rfl rfl ?_
          obtain ⟨q, hw22, hf⟩ := bd_some hf
          try dsimp only at hf
          show (fun (s : Int32 × Int32 × AW) => E (PC S) RX3 cX3_measure 7 3 96 [some (.ref 46), some (.ref o0), some (.int a1), some (.int s.1), some (.int x4_54_1), some (.int (r9 + 1)), some (.int s.2.1)] [] s.2.2 Q) (x3_54_1, 0, w_54_1)
          refine wh_E (K := (fun (s : Int32 × Int32 × AW) => E (PC S) RX3 cX3_measure 7 3 96 [some (.ref 46), some (.ref o0), some (.int a1), some (.int s.1), some (.int x4_54_1), some (.int (r9 + 1)), some (.int s.2.1)] [] s.2.2 Q)) (X := (fun (s : Int32 × AW) => E (PC S) RX3 cX3_measure 7 3 126 [some (.ref 46), some (.ref o0), some (.int a1), some (.int s.1), some (.int x4_54_1), none, none] [] s.2 Q)) ?_ hw22 ?_
          · intro s9 z9 hf k9
            obtain ⟨x3_96_3, x6_96_3, w_96_3⟩ := s9
            dsimp only [lbX3_measure_96_3] at hf
            show E (PC S) RX3 cX3_measure 7 3 96 [some (.ref 46), some (.ref o0), some (.int a1), some (.int x3_96_3), some (.int x4_54_1), some (.int (r9 + 1)), some (.int x6_96_3)] [] w_96_3 Q
            refine E_iload (v := x6_96_3) dX3_measure_96 rfl ?_
            refine E_iload (v := (r9 + 1)) dX3_measure_98 rfl ?_
            refine E_icmp_ge 126 dX3_measure_100 (by decide) (fun hc18 => ?_) (fun hc18 => ?_)
            · rw [if_pos hc18] at hf
              obtain rfl := Option.some.inj hf
              refine E.fewer (ls' := [some (.ref 46), some (.ref o0), some (.int a1), some (.int x3_96_3), some (.int x4_54_1), none, none]) ⟨Or.inr rfl, ⟨Or.inr rfl, ⟨Or.inr rfl, ⟨Or.inr rfl, ⟨Or.inr rfl, ⟨Or.inl rfl, ⟨Or.inl rfl, trivial⟩⟩⟩⟩⟩⟩⟩ ?_
              exact k9
            · rw [if_neg hc18] at hf
              refine E_iload_n (v := x3_96_3) dX3_measure_103 rfl ?_
              refine E_bipush 126 dX3_measure_104 bp_126 ?_
              refine E_icmp_ge 126 dX3_measure_106 (by decide) (fun hc19 => ?_) (fun hc19 => ?_)
              · rw [if_pos hc19] at hf
                obtain rfl := Option.some.inj hf
                refine E.fewer (ls' := [some (.ref 46), some (.ref o0), some (.int a1), some (.int x3_96_3), some (.int x4_54_1), none, none]) ⟨Or.inr rfl, ⟨Or.inr rfl, ⟨Or.inr rfl, ⟨Or.inr rfl, ⟨Or.inr rfl, ⟨Or.inl rfl, ⟨Or.inl rfl, trivial⟩⟩⟩⟩⟩⟩⟩ ?_
                exact k9
              · rw [if_neg hc19] at hf
                refine E_iinc (ls' := [some (.ref 46), some (.ref o0), some (.int a1), some (.int (x3_96_3 + 1)), some (.int x4_54_1), some (.int (r9 + 1)), some (.int x6_96_3)]) 1 dX3_measure_109 rfl ic_1 rfl rfl rfl ?_
                refine E_aload_n (v := 46) dX3_measure_112 rfl ?_
                refine E_getR fg_RX3_11 dX3_measure_113 sC_46 rfl rC_46_0 (Nat.succ_ne_zero _) ?_
                refine E_iload_n (v := (x3_96_3 + 1)) dX3_measure_116 rfl ?_
                refine E_iload (v := x4_54_1) dX3_measure_117 rfl ?_
                obtain ⟨hi20, hf⟩ := gd_some hf
                obtain ⟨w21, ew21, hf⟩ := lw_some hf
                try dsimp only at hf
                refine E_iast (n := 127) dX3_measure_119 sC_47 (by decide) (inb_in hi20) ?_
                rw [← ew21]
                refine E_iinc (ls' := [some (.ref 46), some (.ref o0), some (.int a1), some (.int (x3_96_3 + 1)), some (.int x4_54_1), some (.int (r9 + 1)), some (.int (x6_96_3 + 1))]) 1 dX3_measure_120 rfl ic_1 rfl rfl rfl ?_
                refine E_goto 96 dX3_measure_123 (by decide) ?_
                obtain rfl := Option.some.inj hf
                exact k9
          · skip
            obtain ⟨y23, w24⟩ := q
            try dsimp only at hf
            show E (PC S) RX3 cX3_measure 7 3 126 [some (.ref 46), some (.ref o0), some (.int a1), some (.int y23), some (.int x4_54_1), none, none] [] w24 Q
            refine E_iinc (ls' := [some (.ref 46), some (.ref o0), some (.int a1), some (.int y23), some (.int (x4_54_1 + 1)), none, none]) 1 dX3_measure_126 rfl ic_1 rfl rfl rfl ?_
            refine E_goto 54 dX3_measure_129 (by decide) ?_
            obtain rfl := Option.some.inj hf
            exact k9
  · skip
    obtain ⟨w26, hq9⟩ : ∃ a, a = q := ⟨_, rfl⟩
    subst hq9
    try dsimp only at hf
    show E (PC S) RX3 cX3_measure 7 3 132 [none, none, none, none, none, none, none] [] w26 Q
    obtain rfl := Option.some.inj hf
    exact E.done (by rw [eQ]; exact ⟨rfl, Or.inr ⟨rfl, rfl, dX3_measure_132, rfl⟩⟩)
set_option maxRecDepth 10000 in
set_option maxHeartbeats 2000000 in
theorem MX4_has {o : Nat} {a0 : Int32} {w : AW} {rZ : Int32} (ho : isJ o) (hf : fX4_has o a0 w = some rZ) : CallOK (PC S) yX4_has cX4_has 2 (some .boolean) 1 [.ref o, .int a0] w (some (.int rZ)) w := by
  refine CallOK.of (ls := [some (.ref o), some (.int a0)]) (by decide) (by simp) rfl rfl ?_
  obtain ⟨Q, eQ⟩ : ∃ Q, Q = Qret cX4_has (some .boolean) (some (.int rZ)) w := ⟨_, rfl⟩
  rw [← eQ]
  unfold fX4_has at hf
  refine E_iload_n (v := a0) dX4_has_0 rfl ?_
  refine E_if_lt 16 dX4_has_1 (by decide) (fun hc1 => ?_) (fun hc1 => ?_)
  · rw [if_pos hc1] at hf
    refine E_iconst 0 dX4_has_16 ic_0 ?_
    obtain rfl := Option.some.inj hf
    exact E.done (by rw [eQ]; exact ⟨rfl, Or.inl ⟨_, _, rfl, rfl, dX4_has_17, rfl, rfl⟩⟩)
  · rw [if_neg hc1] at hf
    refine E_iload_n (v := a0) dX4_has_4 rfl ?_
    refine E_aload_n (v := o) dX4_has_5 rfl ?_
    refine E_getI fg_RX4_9 dX4_has_6 (J_s0 ho) rfl ?_
    refine E_icmp_ge 16 dX4_has_9 (by decide) (fun hc2 => ?_) (fun hc2 => ?_)
    · rw [if_pos hc2] at hf
      refine E_iconst 0 dX4_has_16 ic_0 ?_
      obtain rfl := Option.some.inj hf
      exact E.done (by rw [eQ]; exact ⟨rfl, Or.inl ⟨_, _, rfl, rfl, dX4_has_17, rfl, rfl⟩⟩)
    · rw [if_neg hc2] at hf
      refine E_iconst 1 dX4_has_12 ic_1 ?_
      refine E_goto 17 dX4_has_13 (by decide) ?_
      obtain rfl := Option.some.inj hf
      exact E.done (by rw [eQ]; exact ⟨rfl, Or.inl ⟨_, _, rfl, rfl, dX4_has_17, rfl, rfl⟩⟩)
set_option maxRecDepth 10000 in
set_option maxHeartbeats 2000000 in
theorem MX3_dayAt {a0 : Int32} {w : AW} {rZ : Int32} (hf : fX3_dayAt a0 w = some rZ) : CallOK (PC S) yX3_dayAt cX3_dayAt 2 (some .int) 2 [.ref 46, .int a0] w (some (.int rZ)) w := by
  refine CallOK.of (ls := [some (.ref 46), some (.int a0)]) (by decide) (by simp) rfl rfl ?_
  obtain ⟨Q, eQ⟩ : ∃ Q, Q = Qret cX3_dayAt (some .int) (some (.int rZ)) w := ⟨_, rfl⟩
  rw [← eQ]
  unfold fX3_dayAt at hf
  refine E_aload_n (v := 46) dX3_dayAt_0 rfl ?_
  refine E_getR fg_RX3_11 dX3_dayAt_1 sC_46 rfl rC_46_0 (Nat.succ_ne_zero _) ?_
  refine E_iconst 0 dX3_dayAt_4 ic_0 ?_
  refine E_iload_n (v := a0) dX3_dayAt_5 rfl ?_
  refine E_bipush 126 dX3_dayAt_6 bp_126 ?_
  refine E_mmin wl_RX3_55 wsM_min win_math wcM_min dX3_dayAt_8 (by omega) (fun _ => Nat.le_of_ble_eq_true rfl) ?_
  refine E_mmax wl_RX3_61 wsM_max win_math wcM_max dX3_dayAt_11 (by omega) (fun _ => Nat.le_of_ble_eq_true rfl) ?_
  obtain ⟨hi1, hf⟩ := gd_some hf
  refine E_iald (n := 127) dX3_dayAt_14 sC_47 (by decide) (inb_in hi1) ?_
  obtain rfl := Option.some.inj hf
  exact E.done (by rw [eQ]; exact ⟨rfl, Or.inl ⟨_, _, rfl, rfl, dX3_dayAt_15, rfl, rfl⟩⟩)
set_option maxRecDepth 10000 in
set_option maxHeartbeats 2000000 in
theorem BX3_usedBehind_23 (o2 : Nat) (p1_23 : Int32) (p4_23 : Int32) (p5_23 : Int32) (q0_23 : Int32) (w : AW) (ho2 : isJ o2) (rZ : Int32) {Q : Nat → List (Option Value) → List Value → AW → Prop} (eQ : Q = Qret cX3_usedBehind (some .int) (some (.int rZ)) w) (hf : bX3_usedBehind_23 o2 p1_23 p4_23 p5_23 q0_23 w = some rZ) : E (PC S) RX3 cX3_usedBehind 7 1 23 [some (.ref 46), some (.int p1_23), none, some (.ref o2), some (.int p4_23), some (.int p5_23), none] [.int q0_23] w Q := by
  unfold bX3_usedBehind_23 at hf
  refine E_istore (ls' := [some (.ref 46), some (.int p1_23), none, some (.ref o2), some (.int p4_23), some (.int p5_23), some (.int q0_23)]) dX3_usedBehind_23 rfl rfl rfl ?_
  refine E_iload_n (v := p1_23) dX3_usedBehind_25 rfl ?_
  refine E_if_ne 51 dX3_usedBehind_26 (by decide) (fun hc3 => ?_) (fun hc3 => ?_)
  · rw [if_pos hc3] at hf
    refine E_iload (v := p5_23) dX3_usedBehind_29 rfl ?_
    refine E_aload_n (v := 46) dX3_usedBehind_31 rfl ?_
    refine E_getI fg_RX3_28 dX3_usedBehind_32 sC_46 rfl ?_
    refine E_icmp_ne 45 dX3_usedBehind_35 (by decide) (fun hc4 => ?_) (fun hc4 => ?_)
    · rw [if_pos hc4] at hf
      refine E_aload_n (v := 46) dX3_usedBehind_38 rfl ?_
      refine E_getI fg_RX3_31 dX3_usedBehind_39 sC_46 rfl ?_
      refine E_goto 49 dX3_usedBehind_42 (by decide) ?_
      refine E_istore (ls' := [some (.ref 46), some (.int p1_23), none, some (.ref o2), some (.int p4_23), some (.int p5_23), some (.int (w.1 46 6))]) dX3_usedBehind_49 rfl rfl rfl ?_
      refine E_iload_n (v := p1_23) dX3_usedBehind_51 rfl ?_
      refine E_iload (v := (w.1 46 6)) dX3_usedBehind_52 rfl ?_
      refine E_iadd dX3_usedBehind_54 ?_
      refine E_aload_n (v := o2) dX3_usedBehind_55 rfl ?_
      refine E_getR fg_RX3_52 dX3_usedBehind_56 (J_s0 ho2) rfl (J_r0_2 ho2) (Nat.succ_ne_zero _) ?_
      refine E_iload (v := p4_23) dX3_usedBehind_59 rfl ?_
      obtain ⟨hi5, hf⟩ := gd_some hf
      refine E_iald (n := 6) dX3_usedBehind_61 (J_s2 ho2) (by decide) (inb_in hi5) ?_
      refine E_iadd dX3_usedBehind_62 ?_
      obtain rfl := Option.some.inj hf
      exact E.done (by rw [eQ]; exact ⟨rfl, Or.inl ⟨_, _, rfl, rfl, dX3_usedBehind_63, rfl, rfl⟩⟩)
    · rw [if_neg hc4] at hf
      refine E_aload_n (v := 46) dX3_usedBehind_45 rfl ?_
      refine E_getI fg_RX3_25 dX3_usedBehind_46 sC_46 rfl ?_
      refine E_istore (ls' := [some (.ref 46), some (.int p1_23), none, some (.ref o2), some (.int p4_23), some (.int p5_23), some (.int (w.1 46 4))]) dX3_usedBehind_49 rfl rfl rfl ?_
      refine E_iload_n (v := p1_23) dX3_usedBehind_51 rfl ?_
      refine E_iload (v := (w.1 46 4)) dX3_usedBehind_52 rfl ?_
      refine E_iadd dX3_usedBehind_54 ?_
      refine E_aload_n (v := o2) dX3_usedBehind_55 rfl ?_
      refine E_getR fg_RX3_52 dX3_usedBehind_56 (J_s0 ho2) rfl (J_r0_2 ho2) (Nat.succ_ne_zero _) ?_
      refine E_iload (v := p4_23) dX3_usedBehind_59 rfl ?_
      obtain ⟨hi6, hf⟩ := gd_some hf
      refine E_iald (n := 6) dX3_usedBehind_61 (J_s2 ho2) (by decide) (inb_in hi6) ?_
      refine E_iadd dX3_usedBehind_62 ?_
      obtain rfl := Option.some.inj hf
      exact E.done (by rw [eQ]; exact ⟨rfl, Or.inl ⟨_, _, rfl, rfl, dX3_usedBehind_63, rfl, rfl⟩⟩)
  · rw [if_neg hc3] at hf
    refine E_iload_n (v := p1_23) dX3_usedBehind_51 rfl ?_
    refine E_iload (v := q0_23) dX3_usedBehind_52 rfl ?_
    refine E_iadd dX3_usedBehind_54 ?_
    refine E_aload_n (v := o2) dX3_usedBehind_55 rfl ?_
    refine E_getR fg_RX3_52 dX3_usedBehind_56 (J_s0 ho2) rfl (J_r0_2 ho2) (Nat.succ_ne_zero _) ?_
    refine E_iload (v := p4_23) dX3_usedBehind_59 rfl ?_
    obtain ⟨hi7, hf⟩ := gd_some hf
    refine E_iald (n := 6) dX3_usedBehind_61 (J_s2 ho2) (by decide) (inb_in hi7) ?_
    refine E_iadd dX3_usedBehind_62 ?_
    obtain rfl := Option.some.inj hf
    exact E.done (by rw [eQ]; exact ⟨rfl, Or.inl ⟨_, _, rfl, rfl, dX3_usedBehind_63, rfl, rfl⟩⟩)
set_option maxRecDepth 10000 in
set_option maxHeartbeats 2000000 in
theorem MX3_usedBehind {a0 : Int32} {a1 : Int32} {o2 : Nat} {a3 : Int32} {w : AW} {rZ : Int32} (ho2 : isJ o2) (hf : fX3_usedBehind a0 a1 o2 a3 w = some rZ) : CallOK (PC S) yX3_usedBehind cX3_usedBehind 7 (some .int) 1 [.ref 46, .int a0, .int a1, .ref o2, .int a3] w (some (.int rZ)) w := by
  refine CallOK.of (ls := [some (.ref 46), some (.int a0), some (.int a1), some (.ref o2), some (.int a3), none, none]) (by decide) (by simp) rfl rfl ?_
  obtain ⟨Q, eQ⟩ : ∃ Q, Q = Qret cX3_usedBehind (some .int) (some (.int rZ)) w := ⟨_, rfl⟩
  rw [← eQ]
  unfold fX3_usedBehind at hf
  refine E_aload_n (v := o2) dX3_usedBehind_0 rfl ?_
  refine E_getR fg_RX3_48 dX3_usedBehind_1 (J_s0 ho2) rfl (J_r0_3 ho2) (Nat.succ_ne_zero _) ?_
  refine E_iload (v := a3) dX3_usedBehind_4 rfl ?_
  obtain ⟨hi1, hf⟩ := gd_some hf
  refine E_iald (n := 6) dX3_usedBehind_6 (J_s3 ho2) (by decide) (inb_in hi1) ?_
  refine E_istore (ls' := [some (.ref 46), some (.int a0), some (.int a1), some (.ref o2), some (.int a3), some (.int (w.1 (o2 + 3) a3.toNatClampNeg)), none]) dX3_usedBehind_7 rfl rfl rfl ?_
  refine E_iload (v := (w.1 (o2 + 3) a3.toNatClampNeg)) dX3_usedBehind_9 rfl ?_
  refine E_iload_n (v := a1) dX3_usedBehind_11 rfl ?_
  refine E_icmp_ne 19 dX3_usedBehind_12 (by decide) (fun hc2 => ?_) (fun hc2 => ?_)
  · rw [if_pos hc2] at hf
    refine E_iconst 0 dX3_usedBehind_15 ic_0 ?_
    refine E_goto 23 dX3_usedBehind_16 (by decide) ?_
    refine E.fewer (ls' := [some (.ref 46), some (.int a0), none, some (.ref o2), some (.int a3), some (.int (w.1 (o2 + 3) a3.toNatClampNeg)), none]) ⟨Or.inr rfl, ⟨Or.inr rfl, ⟨Or.inl rfl, ⟨Or.inr rfl, ⟨Or.inr rfl, ⟨Or.inr rfl, ⟨Or.inl rfl, trivial⟩⟩⟩⟩⟩⟩⟩ ?_
    exact BX3_usedBehind_23 o2 a0 a3 (w.1 (o2 + 3) a3.toNatClampNeg) 0 w ho2 rZ eQ hf
  · rw [if_neg hc2] at hf
    refine E_aload_n (v := 46) dX3_usedBehind_19 rfl ?_
    refine E_getI fg_RX3_25 dX3_usedBehind_20 sC_46 rfl ?_
    refine E.fewer (ls' := [some (.ref 46), some (.int a0), none, some (.ref o2), some (.int a3), some (.int (w.1 (o2 + 3) a3.toNatClampNeg)), none]) ⟨Or.inr rfl, ⟨Or.inr rfl, ⟨Or.inl rfl, ⟨Or.inr rfl, ⟨Or.inr rfl, ⟨Or.inr rfl, ⟨Or.inl rfl, trivial⟩⟩⟩⟩⟩⟩⟩ ?_
    exact BX3_usedBehind_23 o2 a0 a3 (w.1 (o2 + 3) a3.toNatClampNeg) (w.1 46 4) w ho2 rZ eQ hf
set_option maxRecDepth 10000 in
set_option maxHeartbeats 2000000 in
theorem MX4_valueOf {o : Nat} {a0 : Int32} {a1 : Int32} {a2 : Int32} {w : AW} {rZ : Int32} (ho : isJ o) (hf : fX4_valueOf o a0 a1 a2 w = some rZ) : CallOK (PC S) yX4_valueOf cX4_valueOf 4 (some .int) 1 [.ref o, .int a0, .int a1, .int a2] w (some (.int rZ)) w := by
  refine CallOK.of (ls := [some (.ref o), some (.int a0), some (.int a1), some (.int a2)]) (by decide) (by simp) rfl rfl ?_
  obtain ⟨Q, eQ⟩ : ∃ Q, Q = Qret cX4_valueOf (some .int) (some (.int rZ)) w := ⟨_, rfl⟩
  rw [← eQ]
  unfold fX4_valueOf at hf
  refine E_iload_n (v := a1) dX4_valueOf_0 rfl ?_
  refine E_aload_n (v := o) dX4_valueOf_1 rfl ?_
  refine E_getR fg_RX4_25 dX4_valueOf_2 (J_s0 ho) rfl (J_r0_4 ho) (Nat.succ_ne_zero _) ?_
  refine E_iload_n (v := a0) dX4_valueOf_5 rfl ?_
  obtain ⟨hi1, hf⟩ := gd_some hf
  refine E_iald (n := 6) dX4_valueOf_6 (J_s4 ho) (by decide) (inb_in hi1) ?_
  refine E_icmp_gt 17 dX4_valueOf_7 (by decide) (fun hc2 => ?_) (fun hc2 => ?_)
  · rw [if_pos hc2] at hf
    refine E_aload_n (v := o) dX4_valueOf_17 rfl ?_
    refine E_getR fg_RX4_15 dX4_valueOf_18 (J_s0 ho) rfl (J_r0_1 ho) (Nat.succ_ne_zero _) ?_
    refine E_iload_n (v := a0) dX4_valueOf_21 rfl ?_
    refine E_iald (n := 6) dX4_valueOf_22 (J_s1 ho) (by decide) (inb_in hi1) ?_
    by_cases hc3 : (w.1 (o + 1) a0.toNatClampNeg) = 1
    · rw [if_pos hc3] at hf
      refine E_tableIn 52 dX4_valueOf_23 (by rw [hc3]; decide) (by rw [hc3]; decide) (by rw [hc3]; rfl) (by decide) ?_
      refine E_bipush (-2) dX4_valueOf_52 bp_m2 ?_
      refine E_iload_n (v := a2) dX4_valueOf_54 rfl ?_
      refine E_imul dX4_valueOf_55 ?_
      obtain rfl := Option.some.inj hf
      exact E.done (by rw [eQ]; exact ⟨rfl, Or.inl ⟨_, _, rfl, rfl, dX4_valueOf_56, rfl, rfl⟩⟩)
    · rw [if_neg hc3] at hf
      by_cases hc4 : (w.1 (o + 1) a0.toNatClampNeg) = 2
      · rw [if_pos hc4] at hf
        refine E_tableIn 57 dX4_valueOf_23 (by rw [hc4]; decide) (by rw [hc4]; decide) (by rw [hc4]; rfl) (by decide) ?_
        refine E_aload_n (v := o) dX4_valueOf_57 rfl ?_
        refine E_getR fg_RX4_28 dX4_valueOf_58 (J_s0 ho) rfl (J_r0_5 ho) (Nat.succ_ne_zero _) ?_
        refine E_iload_n (v := a0) dX4_valueOf_61 rfl ?_
        refine E_iald (n := 6) dX4_valueOf_62 (J_s5 ho) (by decide) (inb_in hi1) ?_
        refine E_iconst 2 dX4_valueOf_63 ic_2 ?_
        refine E_idiv dX4_valueOf_64 (by decide) ?_
        obtain rfl := Option.some.inj hf
        exact E.done (by rw [eQ]; exact ⟨rfl, Or.inl ⟨_, _, rfl, rfl, dX4_valueOf_65, rfl, rfl⟩⟩)
      · rw [if_neg hc4] at hf
        by_cases hc5 : (w.1 (o + 1) a0.toNatClampNeg) = 3
        · rw [if_pos hc5] at hf
          refine E_tableIn 66 dX4_valueOf_23 (by rw [hc5]; decide) (by rw [hc5]; decide) (by rw [hc5]; rfl) (by decide) ?_
          refine E_aload_n (v := o) dX4_valueOf_66 rfl ?_
          refine E_getR fg_RX4_28 dX4_valueOf_67 (J_s0 ho) rfl (J_r0_5 ho) (Nat.succ_ne_zero _) ?_
          refine E_iload_n (v := a0) dX4_valueOf_70 rfl ?_
          refine E_iald (n := 6) dX4_valueOf_71 (J_s5 ho) (by decide) (inb_in hi1) ?_
          refine E_iconst 2 dX4_valueOf_72 ic_2 ?_
          refine E_idiv dX4_valueOf_73 (by decide) ?_
          refine E_iload_n (v := a2) dX4_valueOf_74 rfl ?_
          refine E_isub dX4_valueOf_75 ?_
          obtain rfl := Option.some.inj hf
          exact E.done (by rw [eQ]; exact ⟨rfl, Or.inl ⟨_, _, rfl, rfl, dX4_valueOf_76, rfl, rfl⟩⟩)
        · rw [if_neg hc5] at hf
          by_cases hc6 : (w.1 (o + 1) a0.toNatClampNeg) = 4
          · rw [if_pos hc6] at hf
            refine E_tableIn 77 dX4_valueOf_23 (by rw [hc6]; decide) (by rw [hc6]; decide) (by rw [hc6]; rfl) (by decide) ?_
            refine E_iload_n (v := a1) dX4_valueOf_77 rfl ?_
            refine E_aload_n (v := o) dX4_valueOf_78 rfl ?_
            refine E_getR fg_RX4_25 dX4_valueOf_79 (J_s0 ho) rfl (J_r0_4 ho) (Nat.succ_ne_zero _) ?_
            refine E_iload_n (v := a0) dX4_valueOf_82 rfl ?_
            refine E_iald (n := 6) dX4_valueOf_83 (J_s4 ho) (by decide) (inb_in hi1) ?_
            refine E_iconst 1 dX4_valueOf_84 ic_1 ?_
            refine E_iadd dX4_valueOf_85 ?_
            refine E_icmp_ne 93 dX4_valueOf_86 (by decide) (fun hc7 => ?_) (fun hc7 => ?_)
            · rw [if_pos hc7] at hf
              refine E_iconst 0 dX4_valueOf_89 ic_0 ?_
              refine E_goto 97 dX4_valueOf_90 (by decide) ?_
              obtain rfl := Option.some.inj hf
              exact E.done (by rw [eQ]; exact ⟨rfl, Or.inl ⟨_, _, rfl, rfl, dX4_valueOf_97, rfl, rfl⟩⟩)
            · rw [if_neg hc7] at hf
              refine E_bipush (-2) dX4_valueOf_93 bp_m2 ?_
              refine E_iload_n (v := a2) dX4_valueOf_95 rfl ?_
              refine E_imul dX4_valueOf_96 ?_
              obtain rfl := Option.some.inj hf
              exact E.done (by rw [eQ]; exact ⟨rfl, Or.inl ⟨_, _, rfl, rfl, dX4_valueOf_97, rfl, rfl⟩⟩)
          · rw [if_neg hc6] at hf
            refine E_tableOut 98 dX4_valueOf_23 (tb_1_4 hc3 hc4 hc5 hc6) (by decide) ?_
            refine E_iload_n (v := a2) dX4_valueOf_98 rfl ?_
            refine E_ineg dX4_valueOf_99 ?_
            obtain rfl := Option.some.inj hf
            exact E.done (by rw [eQ]; exact ⟨rfl, Or.inl ⟨_, _, rfl, rfl, dX4_valueOf_100, rfl, rfl⟩⟩)
  · rw [if_neg hc2] at hf
    refine E_aload_n (v := o) dX4_valueOf_10 rfl ?_
    refine E_getR fg_RX4_28 dX4_valueOf_11 (J_s0 ho) rfl (J_r0_5 ho) (Nat.succ_ne_zero _) ?_
    refine E_iload_n (v := a0) dX4_valueOf_14 rfl ?_
    refine E_iald (n := 6) dX4_valueOf_15 (J_s5 ho) (by decide) (inb_in hi1) ?_
    obtain rfl := Option.some.inj hf
    exact E.done (by rw [eQ]; exact ⟨rfl, Or.inl ⟨_, _, rfl, rfl, dX4_valueOf_16, rfl, rfl⟩⟩)
set_option maxRecDepth 10000 in
set_option maxHeartbeats 2000000 in
theorem MX5_lossOf {o0 : Nat} {a1 : Int32} {a2 : Int32} {w : AW} {rZ : Int32} (ho0 : isJ o0) (hf : fX5_lossOf o0 a1 a2 w = some rZ) : CallOK (PC S) yX5_lossOf cX5_lossOf 5 (some .int) 2 [.ref 49, .ref o0, .int a1, .int a2] w (some (.int rZ)) w := by
  refine CallOK.of (ls := [some (.ref 49), some (.ref o0), some (.int a1), some (.int a2), none]) (by decide) (by simp) rfl rfl ?_
  obtain ⟨Q, eQ⟩ : ∃ Q, Q = Qret cX5_lossOf (some .int) (some (.int rZ)) w := ⟨_, rfl⟩
  rw [← eQ]
  unfold fX5_lossOf at hf
  refine E_iload_n (v := a2) dX5_lossOf_0 rfl ?_
  refine E_aload_n (v := o0) dX5_lossOf_1 rfl ?_
  refine E_getR fg_RX5_76 dX5_lossOf_2 (J_s0 ho0) rfl (J_r0_4 ho0) (Nat.succ_ne_zero _) ?_
  refine E_iload_n (v := a1) dX5_lossOf_5 rfl ?_
  obtain ⟨hi1, hf⟩ := gd_some hf
  refine E_iald (n := 6) dX5_lossOf_6 (J_s4 ho0) (by decide) (inb_in hi1) ?_
  refine E_icmp_le 14 dX5_lossOf_7 (by decide) (fun hc2 => ?_) (fun hc2 => ?_)
  · rw [if_pos hc2] at hf
    refine E_iconst 0 dX5_lossOf_14 ic_0 ?_
    refine E_istore (ls' := [some (.ref 49), some (.ref o0), some (.int a1), some (.int a2), some (.int 0)]) dX5_lossOf_15 rfl rfl rfl ?_
    refine E_aload_n (v := 49) dX5_lossOf_17 rfl ?_
    refine E_getI fg_RX5_18 dX5_lossOf_18 sC_49 rfl ?_
    by_cases hc3 : (w.1 49 3) = 0
    · rw [if_pos hc3] at hf
      refine E_lookup 48 dX5_lossOf_21 (by decide) (by first | (rw [hc3]; done) | (rw [hc3]; rfl)) (by decide) ?_
      refine E_aload_n (v := o0) dX5_lossOf_48 rfl ?_
      refine E_getR fg_RX5_38 dX5_lossOf_49 (J_s0 ho0) rfl (J_r0_5 ho0) (Nat.succ_ne_zero _) ?_
      refine E_iload_n (v := a1) dX5_lossOf_52 rfl ?_
      refine E_iald (n := 6) dX5_lossOf_53 (J_s5 ho0) (by decide) (inb_in hi1) ?_
      refine E_aload_n (v := o0) dX5_lossOf_54 rfl ?_
      refine E_iload_n (v := a1) dX5_lossOf_55 rfl ?_
      refine E_iload_n (v := a2) dX5_lossOf_56 rfl ?_
      refine E_aload_n (v := 49) dX5_lossOf_57 rfl ?_
      refine E_getR fg_RX5_29 dX5_lossOf_58 sC_49 rfl rC_49_0 (Nat.succ_ne_zero _) ?_
      refine E_getI fg_RX5_79 dX5_lossOf_61 sC_46 rfl ?_
      obtain ⟨r5, hc4, hf⟩ := bd_some hf
      try dsimp only at hf
      refine E_callVi (rest := [.int (w.1 (o0 + 5) a1.toNatClampNeg)]) (ci := 4) cv_RX5_82 dX5_lossOf_64 (MX4_valueOf ho0 hc4) rfl (J_s0 ho0) rfl (by decide) rfl rfl (fun _ => Nat.le_of_ble_eq_true rfl) ?_
      refine E_isub dX5_lossOf_67 ?_
      obtain rfl := Option.some.inj hf
      exact E.done (by rw [eQ]; exact ⟨rfl, Or.inl ⟨_, _, rfl, rfl, dX5_lossOf_68, rfl, rfl⟩⟩)
    · rw [if_neg hc3] at hf
      by_cases hc6 : (w.1 49 3) = 1
      · rw [if_pos hc6] at hf
        refine E_lookup 69 dX5_lossOf_21 (by decide) (by first | (rw [hc6]; done) | (rw [hc6]; rfl)) (by decide) ?_
        refine E_iload (v := 0) dX5_lossOf_69 rfl ?_
        refine E_if_eq 78 dX5_lossOf_71 (by decide) (fun _ => ?_) (fun hc7 => absurd (by decide) hc7)
        refine E_iconst 0 dX5_lossOf_78 ic_0 ?_
        obtain rfl := Option.some.inj hf
        exact E.done (by rw [eQ]; exact ⟨rfl, Or.inl ⟨_, _, rfl, rfl, dX5_lossOf_79, rfl, rfl⟩⟩)
      · rw [if_neg hc6] at hf
        refine E_lookup 80 dX5_lossOf_21 (by decide) (off := 59) (by simp [Op.lookupswitch.offset, lk_ne2 (n := 0) hc3 (by decide), lk_ne2 (n := 1) hc6 (by decide)]) (by decide) ?_
        refine E_iload_n (v := a1) dX5_lossOf_80 rfl ?_
        refine E_aload_n (v := o0) dX5_lossOf_81 rfl ?_
        refine E_getI fg_RX5_33 dX5_lossOf_82 (J_s0 ho0) rfl ?_
        refine E_iconst 1 dX5_lossOf_85 ic_1 ?_
        refine E_isub dX5_lossOf_86 ?_
        refine E_icmp_ne 92 dX5_lossOf_87 (by decide) (fun hc8 => ?_) (fun hc8 => ?_)
        · rw [if_pos hc8] at hf
          refine E_iload_n (v := a2) dX5_lossOf_90 rfl ?_
          obtain rfl := Option.some.inj hf
          exact E.done (by rw [eQ]; exact ⟨rfl, Or.inl ⟨_, _, rfl, rfl, dX5_lossOf_91, rfl, rfl⟩⟩)
        · rw [if_neg hc8] at hf
          refine E_iload (v := 0) dX5_lossOf_92 rfl ?_
          refine E_if_eq 102 dX5_lossOf_94 (by decide) (fun _ => ?_) (fun hc9 => absurd (by decide) hc9)
          refine E_iconst 0 dX5_lossOf_102 ic_0 ?_
          obtain rfl := Option.some.inj hf
          exact E.done (by rw [eQ]; exact ⟨rfl, Or.inl ⟨_, _, rfl, rfl, dX5_lossOf_103, rfl, rfl⟩⟩)
  · rw [if_neg hc2] at hf
    refine E_iconst 1 dX5_lossOf_10 ic_1 ?_
    refine E_goto 15 dX5_lossOf_11 (by decide) ?_
    refine E_istore (ls' := [some (.ref 49), some (.ref o0), some (.int a1), some (.int a2), some (.int 1)]) dX5_lossOf_15 rfl rfl rfl ?_
    refine E_aload_n (v := 49) dX5_lossOf_17 rfl ?_
    refine E_getI fg_RX5_18 dX5_lossOf_18 sC_49 rfl ?_
    by_cases hc10 : (w.1 49 3) = 0
    · rw [if_pos hc10] at hf
      refine E_lookup 48 dX5_lossOf_21 (by decide) (by first | (rw [hc10]; done) | (rw [hc10]; rfl)) (by decide) ?_
      refine E_aload_n (v := o0) dX5_lossOf_48 rfl ?_
      refine E_getR fg_RX5_38 dX5_lossOf_49 (J_s0 ho0) rfl (J_r0_5 ho0) (Nat.succ_ne_zero _) ?_
      refine E_iload_n (v := a1) dX5_lossOf_52 rfl ?_
      refine E_iald (n := 6) dX5_lossOf_53 (J_s5 ho0) (by decide) (inb_in hi1) ?_
      refine E_aload_n (v := o0) dX5_lossOf_54 rfl ?_
      refine E_iload_n (v := a1) dX5_lossOf_55 rfl ?_
      refine E_iload_n (v := a2) dX5_lossOf_56 rfl ?_
      refine E_aload_n (v := 49) dX5_lossOf_57 rfl ?_
      refine E_getR fg_RX5_29 dX5_lossOf_58 sC_49 rfl rC_49_0 (Nat.succ_ne_zero _) ?_
      refine E_getI fg_RX5_79 dX5_lossOf_61 sC_46 rfl ?_
      obtain ⟨r12, hc11, hf⟩ := bd_some hf
      try dsimp only at hf
      refine E_callVi (rest := [.int (w.1 (o0 + 5) a1.toNatClampNeg)]) (ci := 4) cv_RX5_82 dX5_lossOf_64 (MX4_valueOf ho0 hc11) rfl (J_s0 ho0) rfl (by decide) rfl rfl (fun _ => Nat.le_of_ble_eq_true rfl) ?_
      refine E_isub dX5_lossOf_67 ?_
      obtain rfl := Option.some.inj hf
      exact E.done (by rw [eQ]; exact ⟨rfl, Or.inl ⟨_, _, rfl, rfl, dX5_lossOf_68, rfl, rfl⟩⟩)
    · rw [if_neg hc10] at hf
      by_cases hc13 : (w.1 49 3) = 1
      · rw [if_pos hc13] at hf
        refine E_lookup 69 dX5_lossOf_21 (by decide) (by first | (rw [hc13]; done) | (rw [hc13]; rfl)) (by decide) ?_
        refine E_iload (v := 1) dX5_lossOf_69 rfl ?_
        refine E_if_eq 78 dX5_lossOf_71 (by decide) (fun hc14 => absurd hc14 (by decide)) (fun _ => ?_)
        refine E_iconst 1 dX5_lossOf_74 ic_1 ?_
        refine E_goto 79 dX5_lossOf_75 (by decide) ?_
        obtain rfl := Option.some.inj hf
        exact E.done (by rw [eQ]; exact ⟨rfl, Or.inl ⟨_, _, rfl, rfl, dX5_lossOf_79, rfl, rfl⟩⟩)
      · rw [if_neg hc13] at hf
        refine E_lookup 80 dX5_lossOf_21 (by decide) (off := 59) (by simp [Op.lookupswitch.offset, lk_ne2 (n := 0) hc10 (by decide), lk_ne2 (n := 1) hc13 (by decide)]) (by decide) ?_
        refine E_iload_n (v := a1) dX5_lossOf_80 rfl ?_
        refine E_aload_n (v := o0) dX5_lossOf_81 rfl ?_
        refine E_getI fg_RX5_33 dX5_lossOf_82 (J_s0 ho0) rfl ?_
        refine E_iconst 1 dX5_lossOf_85 ic_1 ?_
        refine E_isub dX5_lossOf_86 ?_
        refine E_icmp_ne 92 dX5_lossOf_87 (by decide) (fun hc15 => ?_) (fun hc15 => ?_)
        · rw [if_pos hc15] at hf
          refine E_iload_n (v := a2) dX5_lossOf_90 rfl ?_
          obtain rfl := Option.some.inj hf
          exact E.done (by rw [eQ]; exact ⟨rfl, Or.inl ⟨_, _, rfl, rfl, dX5_lossOf_91, rfl, rfl⟩⟩)
        · rw [if_neg hc15] at hf
          refine E_iload (v := 1) dX5_lossOf_92 rfl ?_
          refine E_if_eq 102 dX5_lossOf_94 (by decide) (fun hc16 => absurd hc16 (by decide)) (fun _ => ?_)
          refine E_ldc 1000000 dX5_lossOf_97 wk_RX5_25 ?_
          refine E_goto 103 dX5_lossOf_99 (by decide) ?_
          obtain rfl := Option.some.inj hf
          exact E.done (by rw [eQ]; exact ⟨rfl, Or.inl ⟨_, _, rfl, rfl, dX5_lossOf_103, rfl, rfl⟩⟩)
set_option maxRecDepth 10000 in
set_option maxHeartbeats 2000000 in
theorem MX5_walk_b {N n9 : Nat} {rec : Nat → Int32 → Int32 → Int32 → Int32 → Int32 → AW → Option (AW)} (hrec : ∀ (o0 : Nat) (a1 : Int32) (a2 : Int32) (a3 : Int32) (a4 : Int32) (a5 : Int32) (w : AW) (wZ : AW) (ho0 : isJ o0) , rec o0 a1 a2 a3 a4 a5 w = some wZ → CallOK (PC S) yX5_walk cX5_walk 10 none (3 + n9 - 1) [.ref 49, .ref o0, .int a1, .int a2, .int a3, .int a4, .int a5] w none wZ) {o0 : Nat} {a1 : Int32} {a2 : Int32} {a3 : Int32} {a4 : Int32} {a5 : Int32} {w : AW} {wZ : AW} (ho0 : isJ o0) (hf : fX5_walk_b N rec o0 a1 a2 a3 a4 a5 w = some wZ) : CallOK (PC S) yX5_walk cX5_walk 10 none (3 + n9) [.ref 49, .ref o0, .int a1, .int a2, .int a3, .int a4, .int a5] w none wZ := by
  refine CallOK.of (ls := [some (.ref 49), some (.ref o0), some (.int a1), some (.int a2), some (.int a3), some (.int a4), some (.int a5), none, none, none]) (by decide) (by simp) rfl rfl ?_
  obtain ⟨Q, eQ⟩ : ∃ Q, Q = Qret cX5_walk none none wZ := ⟨_, rfl⟩
  rw [← eQ]
  unfold fX5_walk_b at hf
  refine E_iload (v := a5) dX5_walk_0 rfl ?_
  refine E_aload_n (v := 49) dX5_walk_2 rfl ?_
  refine E_getI fg_RX5_26 dX5_walk_3 sC_49 rfl ?_
  refine E_icmp_lt 10 dX5_walk_6 (by decide) (fun hc1 => ?_) (fun hc1 => ?_)
  · rw [if_pos hc1] at hf
    refine E_iload_n (v := a1) dX5_walk_10 rfl ?_
    refine E_aload_n (v := 49) dX5_walk_11 rfl ?_
    refine E_getI fg_RX5_22 dX5_walk_12 sC_49 rfl ?_
    refine E_icmp_lt 40 dX5_walk_15 (by decide) (fun hc2 => ?_) (fun hc2 => ?_)
    · rw [if_pos hc2] at hf
      refine E_iconst 0 dX5_walk_40 ic_0 ?_
      refine E_istore (ls' := [some (.ref 49), some (.ref o0), some (.int a1), some (.int a2), some (.int a3), some (.int a4), some (.int a5), some (.int 0), none, none]) dX5_walk_41 rfl rfl rfl ?_
      obtain ⟨q, hw16, hf⟩ := bd_some hf
      try dsimp only at hf
      show (fun (s : Int32 × AW) => E (PC S) RX5 cX5_walk 10 (3 + n9) 43 [some (.ref 49), some (.ref o0), some (.int a1), some (.int a2), some (.int a3), some (.int a4), some (.int a5), some (.int s.1), none, none] [] s.2 Q) (0, w)
      refine wh_E (K := (fun (s : Int32 × AW) => E (PC S) RX5 cX5_walk 10 (3 + n9) 43 [some (.ref 49), some (.ref o0), some (.int a1), some (.int a2), some (.int a3), some (.int a4), some (.int a5), some (.int s.1), none, none] [] s.2 Q)) (X := (fun (s : AW) => E (PC S) RX5 cX5_walk 10 (3 + n9) 141 [none, none, none, none, none, none, none, none, none, none] [] s Q)) ?_ hw16 ?_
      · intro s9 z9 hf k9
        obtain ⟨x7_43_1, w_43_1⟩ := s9
        dsimp only [lbX5_walk_43_1] at hf
        show E (PC S) RX5 cX5_walk 10 (3 + n9) 43 [some (.ref 49), some (.ref o0), some (.int a1), some (.int a2), some (.int a3), some (.int a4), some (.int a5), some (.int x7_43_1), none, none] [] w_43_1 Q
        refine E_iload (v := x7_43_1) dX5_walk_43 rfl ?_
        refine E_aload_n (v := o0) dX5_walk_45 rfl ?_
        refine E_getI fg_RX5_33 dX5_walk_46 (J_s0 ho0) rfl ?_
        refine E_icmp_ge 141 dX5_walk_49 (by decide) (fun hc3 => ?_) (fun hc3 => ?_)
        · rw [if_pos hc3] at hf
          obtain rfl := Option.some.inj hf
          refine E.fewer (ls' := [none, none, none, none, none, none, none, none, none, none]) ⟨Or.inl rfl, ⟨Or.inl rfl, ⟨Or.inl rfl, ⟨Or.inl rfl, ⟨Or.inl rfl, ⟨Or.inl rfl, ⟨Or.inl rfl, ⟨Or.inl rfl, ⟨Or.inl rfl, ⟨Or.inl rfl, trivial⟩⟩⟩⟩⟩⟩⟩⟩⟩⟩ ?_
          exact k9
        · rw [if_neg hc3] at hf
          refine E_iload (v := a4) dX5_walk_52 rfl ?_
          refine E_iload (v := x7_43_1) dX5_walk_54 rfl ?_
          refine E_ishr dX5_walk_56 ?_
          refine E_iconst 1 dX5_walk_57 ic_1 ?_
          refine E_iand dX5_walk_58 ?_
          refine E_if_eq 65 dX5_walk_59 (by decide) (fun hc4 => ?_) (fun hc4 => ?_)
          · rw [if_pos hc4] at hf
            refine E_aload_n (v := 49) dX5_walk_65 rfl ?_
            refine E_getR fg_RX5_29 dX5_walk_66 sC_49 rfl rC_49_0 (Nat.succ_ne_zero _) ?_
            refine E_iload_n (v := a2) dX5_walk_69 rfl ?_
            refine E_iload (v := a3) dX5_walk_70 rfl ?_
            refine E_aload_n (v := o0) dX5_walk_72 rfl ?_
            refine E_iload (v := x7_43_1) dX5_walk_73 rfl ?_
            obtain ⟨r6, hc5, hf⟩ := bd_some hf
            try dsimp only at hf
            refine E_callVi (rest := []) (ci := 3) cv_RX5_59 dX5_walk_75 (MX3_usedBehind ho0 hc5) (Nat.ble_eq_true_of_le (by omega)) sC_46 rfl (by decide) rfl rfl (fun _ => Nat.le_of_ble_eq_true rfl) ?_
            refine E_istore (ls' := [some (.ref 49), some (.ref o0), some (.int a1), some (.int a2), some (.int a3), some (.int a4), some (.int a5), some (.int x7_43_1), some (.int r6), none]) dX5_walk_78 rfl rfl rfl ?_
            refine E_aload_n (v := 49) dX5_walk_80 rfl ?_
            refine E_getR fg_RX5_9 dX5_walk_81 sC_49 rfl rC_49_1 (Nat.succ_ne_zero _) ?_
            refine E_iload_n (v := a1) dX5_walk_84 rfl ?_
            refine E_iload (v := x7_43_1) dX5_walk_85 rfl ?_
            obtain ⟨hi7, hf⟩ := gd_some hf
            obtain ⟨w8, ew8, hf⟩ := lw_some hf
            try dsimp only at hf
            refine E_iast (n := 6) dX5_walk_87 sC_50 (by decide) (inb_in hi7) ?_
            rw [← ew8]
            refine E_aload_n (v := 49) dX5_walk_88 rfl ?_
            refine E_aload_n (v := o0) dX5_walk_89 rfl ?_
            refine E_iload (v := x7_43_1) dX5_walk_90 rfl ?_
            refine E_aload_n (v := 49) dX5_walk_92 rfl ?_
            refine E_getR fg_RX5_29 dX5_walk_93 sC_49 rfl rC_49_0 (Nat.succ_ne_zero _) ?_
            refine E_iload (v := r6) dX5_walk_96 rfl ?_
            obtain ⟨r10, hc9, hf⟩ := bd_some hf
            try dsimp only at hf
            refine E_callVi (rest := [.int x7_43_1, .ref o0, .ref 49]) (ci := 3) cv_RX5_65 dX5_walk_98 (MX3_dayAt hc9) (Nat.ble_eq_true_of_le (by omega)) sC_46 rfl (by decide) rfl rfl (fun _ => Nat.le_of_ble_eq_true rfl) ?_
            obtain ⟨r12, hc11, hf⟩ := bd_some hf
            try dsimp only at hf
            refine E_callVi (rest := []) (ci := 5) cv_RX5_69 dX5_walk_101 (MX5_lossOf ho0 hc11) (Nat.ble_eq_true_of_le (by omega)) sC_49 rfl (by decide) rfl rfl (fun _ => Nat.le_of_ble_eq_true rfl) ?_
            refine E_istore (ls' := [some (.ref 49), some (.ref o0), some (.int a1), some (.int a2), some (.int a3), some (.int a4), some (.int a5), some (.int x7_43_1), some (.int r6), some (.int r12)]) dX5_walk_104 rfl rfl rfl ?_
            refine E_aload_n (v := 49) dX5_walk_106 rfl ?_
            refine E_aload_n (v := o0) dX5_walk_107 rfl ?_
            refine E_iload_n (v := a1) dX5_walk_108 rfl ?_
            refine E_iconst 1 dX5_walk_109 ic_1 ?_
            refine E_iadd dX5_walk_110 ?_
            refine E_iload (v := r6) dX5_walk_111 rfl ?_
            refine E_aload_n (v := o0) dX5_walk_113 rfl ?_
            refine E_getR fg_RX5_73 dX5_walk_114 (J_s0 ho0) rfl (J_r0_3 ho0) (Nat.succ_ne_zero _) ?_
            refine E_iload (v := x7_43_1) dX5_walk_117 rfl ?_
            obtain ⟨hi13, hf⟩ := gd_some hf
            refine E_iald (n := 6) dX5_walk_119 (J_s3 ho0) (by decide) (inb_in hi13) ?_
            refine E_iload (v := a4) dX5_walk_120 rfl ?_
            refine E_iconst 1 dX5_walk_122 ic_1 ?_
            refine E_iload (v := x7_43_1) dX5_walk_123 rfl ?_
            refine E_ishl dX5_walk_125 ?_
            refine E_ior dX5_walk_126 ?_
            refine E_iload (v := a5) dX5_walk_127 rfl ?_
            refine E_iload (v := r12) dX5_walk_129 rfl ?_
            refine E_iadd dX5_walk_131 ?_
            obtain ⟨w15, hc14, hf⟩ := bd_some hf
            try dsimp only at hf
            refine E_callVv (rest := []) (ci := 5) cv_RX5_49 dX5_walk_132 (hrec _ _ _ _ _ _ _ _ ho0 hc14) (Nat.ble_eq_true_of_le (by omega)) sC_49 rfl (by decide) rfl rfl (fun _ => Nat.le_of_ble_eq_true rfl) ?_
            refine E_iinc (ls' := [some (.ref 49), some (.ref o0), some (.int a1), some (.int a2), some (.int a3), some (.int a4), some (.int a5), some (.int (x7_43_1 + 1)), some (.int r6), some (.int r12)]) 1 dX5_walk_135 rfl ic_1 rfl rfl rfl ?_
            refine E_goto 43 dX5_walk_138 (by decide) ?_
            obtain rfl := Option.some.inj hf
            refine E.fewer (ls' := [some (.ref 49), some (.ref o0), some (.int a1), some (.int a2), some (.int a3), some (.int a4), some (.int a5), some (.int (x7_43_1 + 1)), none, none]) ⟨Or.inr rfl, ⟨Or.inr rfl, ⟨Or.inr rfl, ⟨Or.inr rfl, ⟨Or.inr rfl, ⟨Or.inr rfl, ⟨Or.inr rfl, ⟨Or.inr rfl, ⟨Or.inl rfl, ⟨Or.inl rfl, trivial⟩⟩⟩⟩⟩⟩⟩⟩⟩⟩ ?_
            exact k9
          · rw [if_neg hc4] at hf
            refine E_goto 135 dX5_walk_62 (by decide) ?_
            refine E_iinc (ls' := [some (.ref 49), some (.ref o0), some (.int a1), some (.int a2), some (.int a3), some (.int a4), some (.int a5), some (.int (x7_43_1 + 1)), none, none]) 1 dX5_walk_135 rfl ic_1 rfl rfl rfl ?_
            refine E_goto 43 dX5_walk_138 (by decide) ?_
            obtain rfl := Option.some.inj hf
            exact k9
      · skip
        obtain ⟨w17, hq9⟩ : ∃ a, a = q := ⟨_, rfl⟩
        subst hq9
        try dsimp only at hf
        show E (PC S) RX5 cX5_walk 10 (3 + n9) 141 [none, none, none, none, none, none, none, none, none, none] [] w17 Q
        obtain rfl := Option.some.inj hf
        exact E.done (by rw [eQ]; exact ⟨rfl, Or.inr ⟨rfl, rfl, dX5_walk_141, rfl⟩⟩)
    · rw [if_neg hc2] at hf
      refine E_aload_n (v := 49) dX5_walk_18 rfl ?_
      refine E_iload (v := a5) dX5_walk_19 rfl ?_
      obtain ⟨w18, ew18, hf⟩ := lw_some hf
      try dsimp only at hf
      refine E_putI fp_RX5_26 dX5_walk_21 sC_49 rfl rfl rfl ?_
      rw [← ew18]
      refine E_aload_n (v := 49) dX5_walk_24 rfl ?_
      refine E_getR fg_RX5_9 dX5_walk_25 sC_49 rfl rC_49_1 (Nat.succ_ne_zero _) ?_
      refine E_iconst 0 dX5_walk_28 ic_0 ?_
      refine E_aload_n (v := 49) dX5_walk_29 rfl ?_
      refine E_getR fg_RX5_15 dX5_walk_30 sC_49 rfl rC_49_2 (Nat.succ_ne_zero _) ?_
      refine E_iconst 0 dX5_walk_33 ic_0 ?_
      refine E_bipush 6 dX5_walk_34 bp_6 ?_
      obtain ⟨w19, ew19, hf⟩ := lw_some hf
      try dsimp only at hf
      refine E_copyI (n0 := 6) (n1 := 6) wl_RX5_53 wna_copy wst_copy win_sys dX5_walk_36 (by omega) rfl sC_50 (by decide) sC_51 (by decide) (by decide) (by decide) (by decide) (by decide) (by decide) ?_
      rw [← ew19]
      obtain rfl := Option.some.inj hf
      exact E.done (by rw [eQ]; exact ⟨rfl, Or.inr ⟨rfl, rfl, dX5_walk_39, rfl⟩⟩)
  · rw [if_neg hc1] at hf
    obtain rfl := Option.some.inj hf
    exact E.done (by rw [eQ]; exact ⟨rfl, Or.inr ⟨rfl, rfl, dX5_walk_9, rfl⟩⟩)
theorem MX5_walk {N : Nat} : ∀ (n : Nat) (o0 : Nat) (a1 : Int32) (a2 : Int32) (a3 : Int32) (a4 : Int32) (a5 : Int32) (w : AW) (wZ : AW) (ho0 : isJ o0) , fX5_walk N n o0 a1 a2 a3 a4 a5 w = some wZ → CallOK (PC S) yX5_walk cX5_walk 10 none (3 + n) [.ref 49, .ref o0, .int a1, .int a2, .int a3, .int a4, .int a5] w none wZ := by
  intro n
  induction n with
  | zero => intro o0 a1 a2 a3 a4 a5 w wZ ho0 hf; simp [fX5_walk] at hf
  | succ n ih => intro o0 a1 a2 a3 a4 a5 w wZ ho0 hf; exact MX5_walk_b (n9 := n + 1) (fun o0 a1 a2 a3 a4 a5 w z ho0 h => ih o0 a1 a2 a3 a4 a5 w z ho0 h) ho0 (by simpa [fX5_walk] using hf)
set_option maxRecDepth 10000 in
set_option maxHeartbeats 2000000 in
theorem MX5_leastLost {N : Nat} {a0 : Int32} {o1 : Nat} {a2 : Int32} {w : AW} {rZ : Int32} {wZ : AW} (ho1 : isJ o1) (hf : fX5_leastLost N a0 o1 a2 w = some (rZ, wZ)) : CallOK (PC S) yX5_leastLost cX5_leastLost 5 (some .int) 12 [.ref 49, .int a0, .ref o1, .int a2] w (some (.int rZ)) wZ := by
  refine CallOK.of (ls := [some (.ref 49), some (.int a0), some (.ref o1), some (.int a2), none]) (by decide) (by simp) rfl rfl ?_
  obtain ⟨Q, eQ⟩ : ∃ Q, Q = Qret cX5_leastLost (some .int) (some (.int rZ)) wZ := ⟨_, rfl⟩
  rw [← eQ]
  unfold fX5_leastLost at hf
  refine E_aload_n (v := 49) dX5_leastLost_0 rfl ?_
  refine E_iload_n (v := a0) dX5_leastLost_1 rfl ?_
  obtain ⟨w1, ew1, hf⟩ := lw_some hf
  try dsimp only at hf
  refine E_putI fp_RX5_18 dX5_leastLost_2 sC_49 rfl rfl rfl ?_
  rw [← ew1]
  refine E_aload_n (v := 49) dX5_leastLost_5 rfl ?_
  refine E_ldc 1000000 dX5_leastLost_6 wk_RX5_25 ?_
  obtain ⟨w2, ew2, hf⟩ := lw_some hf
  try dsimp only at hf
  refine E_putI fp_RX5_26 dX5_leastLost_8 sC_49 rfl rfl rfl ?_
  rw [← ew2]
  refine E_aload_n (v := o1) dX5_leastLost_11 rfl ?_
  refine E_iload_n (v := a2) dX5_leastLost_12 rfl ?_
  obtain ⟨r4, hc3, hf⟩ := bd_some hf
  try dsimp only at hf
  refine E_callVi (rest := []) (ci := 4) cv_RX5_45 dX5_leastLost_13 (MX4_has ho1 hc3) rfl (J_s0 ho1) rfl (by decide) rfl rfl (fun _ => Nat.le_of_ble_eq_true rfl) ?_
  refine E_istore (ls' := [some (.ref 49), some (.int a0), some (.ref o1), some (.int a2), some (.int r4)]) dX5_leastLost_16 rfl rfl rfl ?_
  refine E_aload_n (v := 49) dX5_leastLost_18 rfl ?_
  refine E_iload (v := r4) dX5_leastLost_19 rfl ?_
  refine E_if_eq 33 dX5_leastLost_21 (by decide) (fun hc5 => ?_) (fun hc5 => ?_)
  · rw [if_pos hc5] at hf
    refine E_aload_n (v := o1) dX5_leastLost_33 rfl ?_
    refine E_getI fg_RX5_33 dX5_leastLost_34 (J_s0 ho1) rfl ?_
    obtain ⟨w6, ew6, hf⟩ := lw_some hf
    try dsimp only at hf
    refine E_putI fp_RX5_22 dX5_leastLost_37 sC_49 rfl rfl rfl ?_
    rw [← ew6]
    refine E_aload_n (v := 49) dX5_leastLost_40 rfl ?_
    refine E_aload_n (v := o1) dX5_leastLost_41 rfl ?_
    refine E_iconst 0 dX5_leastLost_42 ic_0 ?_
    refine E_iconst 0 dX5_leastLost_43 ic_0 ?_
    refine E_iconst 0 dX5_leastLost_44 ic_0 ?_
    refine E_iload (v := r4) dX5_leastLost_45 rfl ?_
    refine E_if_eq 56 dX5_leastLost_47 (by decide) (fun hc7 => ?_) (fun hc7 => ?_)
    · rw [if_pos hc7] at hf
      refine E_iconst 0 dX5_leastLost_56 ic_0 ?_
      refine E_iconst 0 dX5_leastLost_57 ic_0 ?_
      obtain ⟨w9, hc8, hf⟩ := bd_some hf
      try dsimp only at hf
      refine E_callVv (rest := []) (ci := 5) cv_RX5_49 dX5_leastLost_58 (MX5_walk 8 _ _ _ _ _ _ _ _ ho1 hc8) rfl sC_49 rfl (by decide) rfl rfl (fun _ => Nat.le_of_ble_eq_true rfl) ?_
      refine E_aload_n (v := 49) dX5_leastLost_61 rfl ?_
      refine E_getI fg_RX5_26 dX5_leastLost_62 sC_49 rfl ?_
      obtain ⟨rfl, rfl⟩ := ret2 hf
      exact E.done (by rw [eQ]; exact ⟨rfl, Or.inl ⟨_, _, rfl, rfl, dX5_leastLost_65, rfl, rfl⟩⟩)
    · rw [if_neg hc7] at hf
      refine E_iconst 1 dX5_leastLost_50 ic_1 ?_
      refine E_iload_n (v := a2) dX5_leastLost_51 rfl ?_
      refine E_ishl dX5_leastLost_52 ?_
      refine E_goto 57 dX5_leastLost_53 (by decide) ?_
      refine E_iconst 0 dX5_leastLost_57 ic_0 ?_
      obtain ⟨w11, hc10, hf⟩ := bd_some hf
      try dsimp only at hf
      refine E_callVv (rest := []) (ci := 5) cv_RX5_49 dX5_leastLost_58 (MX5_walk 8 _ _ _ _ _ _ _ _ ho1 hc10) rfl sC_49 rfl (by decide) rfl rfl (fun _ => Nat.le_of_ble_eq_true rfl) ?_
      refine E_aload_n (v := 49) dX5_leastLost_61 rfl ?_
      refine E_getI fg_RX5_26 dX5_leastLost_62 sC_49 rfl ?_
      obtain ⟨rfl, rfl⟩ := ret2 hf
      exact E.done (by rw [eQ]; exact ⟨rfl, Or.inl ⟨_, _, rfl, rfl, dX5_leastLost_65, rfl, rfl⟩⟩)
  · rw [if_neg hc5] at hf
    refine E_aload_n (v := o1) dX5_leastLost_24 rfl ?_
    refine E_getI fg_RX5_33 dX5_leastLost_25 (J_s0 ho1) rfl ?_
    refine E_iconst 1 dX5_leastLost_28 ic_1 ?_
    refine E_isub dX5_leastLost_29 ?_
    refine E_goto 37 dX5_leastLost_30 (by decide) ?_
    obtain ⟨w12, ew12, hf⟩ := lw_some hf
    try dsimp only at hf
    refine E_putI fp_RX5_22 dX5_leastLost_37 sC_49 rfl rfl rfl ?_
    rw [← ew12]
    refine E_aload_n (v := 49) dX5_leastLost_40 rfl ?_
    refine E_aload_n (v := o1) dX5_leastLost_41 rfl ?_
    refine E_iconst 0 dX5_leastLost_42 ic_0 ?_
    refine E_iconst 0 dX5_leastLost_43 ic_0 ?_
    refine E_iconst 0 dX5_leastLost_44 ic_0 ?_
    refine E_iload (v := r4) dX5_leastLost_45 rfl ?_
    refine E_if_eq 56 dX5_leastLost_47 (by decide) (fun hc13 => ?_) (fun hc13 => ?_)
    · rw [if_pos hc13] at hf
      refine E_iconst 0 dX5_leastLost_56 ic_0 ?_
      refine E_iconst 0 dX5_leastLost_57 ic_0 ?_
      obtain ⟨w15, hc14, hf⟩ := bd_some hf
      try dsimp only at hf
      refine E_callVv (rest := []) (ci := 5) cv_RX5_49 dX5_leastLost_58 (MX5_walk 8 _ _ _ _ _ _ _ _ ho1 hc14) rfl sC_49 rfl (by decide) rfl rfl (fun _ => Nat.le_of_ble_eq_true rfl) ?_
      refine E_aload_n (v := 49) dX5_leastLost_61 rfl ?_
      refine E_getI fg_RX5_26 dX5_leastLost_62 sC_49 rfl ?_
      obtain ⟨rfl, rfl⟩ := ret2 hf
      exact E.done (by rw [eQ]; exact ⟨rfl, Or.inl ⟨_, _, rfl, rfl, dX5_leastLost_65, rfl, rfl⟩⟩)
    · rw [if_neg hc13] at hf
      refine E_iconst 1 dX5_leastLost_50 ic_1 ?_
      refine E_iload_n (v := a2) dX5_leastLost_51 rfl ?_
      refine E_ishl dX5_leastLost_52 ?_
      refine E_goto 57 dX5_leastLost_53 (by decide) ?_
      refine E_iconst 0 dX5_leastLost_57 ic_0 ?_
      obtain ⟨w17, hc16, hf⟩ := bd_some hf
      try dsimp only at hf
      refine E_callVv (rest := []) (ci := 5) cv_RX5_49 dX5_leastLost_58 (MX5_walk 8 _ _ _ _ _ _ _ _ ho1 hc16) rfl sC_49 rfl (by decide) rfl rfl (fun _ => Nat.le_of_ble_eq_true rfl) ?_
      refine E_aload_n (v := 49) dX5_leastLost_61 rfl ?_
      refine E_getI fg_RX5_26 dX5_leastLost_62 sC_49 rfl ?_
      obtain ⟨rfl, rfl⟩ := ret2 hf
      exact E.done (by rw [eQ]; exact ⟨rfl, Or.inl ⟨_, _, rfl, rfl, dX5_leastLost_65, rfl, rfl⟩⟩)
set_option maxRecDepth 10000 in
set_option maxHeartbeats 2000000 in
theorem MX5_mostWorth {N : Nat} {o0 : Nat} {a1 : Int32} {w : AW} {rZ : Int32} {wZ : AW} (ho0 : isJ o0) (hf : fX5_mostWorth N o0 a1 w = some (rZ, wZ)) : CallOK (PC S) yX5_mostWorth cX5_mostWorth 5 (some .int) 13 [.ref 49, .ref o0, .int a1] w (some (.int rZ)) wZ := by
  refine CallOK.of (ls := [some (.ref 49), some (.ref o0), some (.int a1), none, none]) (by decide) (by simp) rfl rfl ?_
  obtain ⟨Q, eQ⟩ : ∃ Q, Q = Qret cX5_mostWorth (some .int) (some (.int rZ)) wZ := ⟨_, rfl⟩
  rw [← eQ]
  unfold fX5_mostWorth at hf
  refine E_iconst 0 dX5_mostWorth_0 ic_0 ?_
  refine E_istore_n (ls' := [some (.ref 49), some (.ref o0), some (.int a1), some (.int 0), none]) dX5_mostWorth_1 rfl rfl rfl ?_
  refine E_iconst 0 dX5_mostWorth_2 ic_0 ?_
  refine E_istore (ls' := [some (.ref 49), some (.ref o0), some (.int a1), some (.int 0), some (.int 0)]) dX5_mostWorth_3 rfl rfl rfl ?_
  obtain ⟨q, hw5, hf⟩ := bd_some hf
  try dsimp only at hf
  show (fun (s : Int32 × Int32) => E (PC S) RX5 cX5_mostWorth 5 13 5 [some (.ref 49), some (.ref o0), some (.int a1), some (.int s.1), some (.int s.2)] [] w Q) (0, 0)
  refine wh_E (K := (fun (s : Int32 × Int32) => E (PC S) RX5 cX5_mostWorth 5 13 5 [some (.ref 49), some (.ref o0), some (.int a1), some (.int s.1), some (.int s.2)] [] w Q)) (X := (fun (s : Int32) => E (PC S) RX5 cX5_mostWorth 5 13 36 [some (.ref 49), some (.ref o0), some (.int a1), some (.int s), none] [] w Q)) ?_ hw5 ?_
  · intro s9 z9 hf k9
    obtain ⟨x3_5_1, x4_5_1⟩ := s9
    dsimp only [lbX5_mostWorth_5_1] at hf
    show E (PC S) RX5 cX5_mostWorth 5 13 5 [some (.ref 49), some (.ref o0), some (.int a1), some (.int x3_5_1), some (.int x4_5_1)] [] w Q
    refine E_iload (v := x4_5_1) dX5_mostWorth_5 rfl ?_
    refine E_aload_n (v := o0) dX5_mostWorth_7 rfl ?_
    refine E_getI fg_RX5_33 dX5_mostWorth_8 (J_s0 ho0) rfl ?_
    refine E_icmp_ge 36 dX5_mostWorth_11 (by decide) (fun hc1 => ?_) (fun hc1 => ?_)
    · rw [if_pos hc1] at hf
      obtain rfl := Option.some.inj hf
      refine E.fewer (ls' := [some (.ref 49), some (.ref o0), some (.int a1), some (.int x3_5_1), none]) ⟨Or.inr rfl, ⟨Or.inr rfl, ⟨Or.inr rfl, ⟨Or.inr rfl, ⟨Or.inl rfl, trivial⟩⟩⟩⟩⟩ ?_
      exact k9
    · rw [if_neg hc1] at hf
      refine E_iload (v := x4_5_1) dX5_mostWorth_14 rfl ?_
      refine E_iload_n (v := a1) dX5_mostWorth_16 rfl ?_
      refine E_icmp_eq 30 dX5_mostWorth_17 (by decide) (fun hc2 => ?_) (fun hc2 => ?_)
      · rw [if_pos hc2] at hf
        refine E_iinc (ls' := [some (.ref 49), some (.ref o0), some (.int a1), some (.int x3_5_1), some (.int (x4_5_1 + 1))]) 1 dX5_mostWorth_30 rfl ic_1 rfl rfl rfl ?_
        refine E_goto 5 dX5_mostWorth_33 (by decide) ?_
        obtain rfl := Option.some.inj hf
        exact k9
      · rw [if_neg hc2] at hf
        refine E_iload_n (v := x3_5_1) dX5_mostWorth_20 rfl ?_
        refine E_aload_n (v := o0) dX5_mostWorth_21 rfl ?_
        refine E_getR fg_RX5_38 dX5_mostWorth_22 (J_s0 ho0) rfl (J_r0_5 ho0) (Nat.succ_ne_zero _) ?_
        refine E_iload (v := x4_5_1) dX5_mostWorth_25 rfl ?_
        obtain ⟨hi3, hf⟩ := gd_some hf
        refine E_iald (n := 6) dX5_mostWorth_27 (J_s5 ho0) (by decide) (inb_in hi3) ?_
        refine E_iadd dX5_mostWorth_28 ?_
        obtain ⟨v4, ev4, hf⟩ := lw_some hf
        try dsimp only at hf
        rw [← ev4]
        refine E_istore_n (ls' := [some (.ref 49), some (.ref o0), some (.int a1), some (.int v4), some (.int x4_5_1)]) dX5_mostWorth_29 rfl rfl rfl ?_
        refine E_iinc (ls' := [some (.ref 49), some (.ref o0), some (.int a1), some (.int v4), some (.int (x4_5_1 + 1))]) 1 dX5_mostWorth_30 rfl ic_1 rfl rfl rfl ?_
        refine E_goto 5 dX5_mostWorth_33 (by decide) ?_
        obtain rfl := Option.some.inj hf
        exact k9
  · skip
    obtain ⟨y6, hq9⟩ : ∃ a, a = q := ⟨_, rfl⟩
    subst hq9
    try dsimp only at hf
    show E (PC S) RX5 cX5_mostWorth 5 13 36 [some (.ref 49), some (.ref o0), some (.int a1), some (.int y6), none] [] w Q
    refine E_iload_n (v := y6) dX5_mostWorth_36 rfl ?_
    refine E_aload_n (v := 49) dX5_mostWorth_37 rfl ?_
    refine E_iconst 0 dX5_mostWorth_38 ic_0 ?_
    refine E_aload_n (v := o0) dX5_mostWorth_39 rfl ?_
    refine E_iload_n (v := a1) dX5_mostWorth_40 rfl ?_
    obtain ⟨r8, w9, hc7, hf⟩ := bd2_some hf
    try dsimp only at hf
    refine E_callVi (rest := [.int y6]) (ci := 5) cv_RX5_41 dX5_mostWorth_41 (MX5_leastLost ho0 hc7) rfl sC_49 rfl (by decide) rfl rfl (fun _ => Nat.le_of_ble_eq_true rfl) ?_
    refine E_isub dX5_mostWorth_44 ?_
    obtain ⟨rfl, rfl⟩ := ret2 hf
    exact E.done (by rw [eQ]; exact ⟨rfl, Or.inl ⟨_, _, rfl, rfl, dX5_mostWorth_45, rfl, rfl⟩⟩)
set_option maxRecDepth 10000 in
set_option maxHeartbeats 2000000 in
theorem MX11_across {N : Nat} {a0 : Int32} {w : AW} {rZ : Int32} {wZ : AW} (hf : fX11_across N a0 w = some (rZ, wZ)) : CallOK (PC S) yX11_across cX11_across 6 (some .int) 14 [.ref 0, .int a0] w (some (.int rZ)) wZ := by
  refine CallOK.of (ls := [some (.ref 0), some (.int a0), none, none, none, none]) (by decide) (by simp) rfl rfl ?_
  obtain ⟨Q, eQ⟩ : ∃ Q, Q = Qret cX11_across (some .int) (some (.int rZ)) wZ := ⟨_, rfl⟩
  rw [← eQ]
  unfold fX11_across at hf
  refine E_iload_n (v := a0) dX11_across_0 rfl ?_
  refine E_iconst 0 dX11_across_1 ic_0 ?_
  refine E_iconst 1 dX11_across_2 ic_1 ?_
  obtain ⟨r2, hc1, hf⟩ := bd_some hf
  try dsimp only at hf
  refine E_callSi (rest := []) cs_RX11_100 dX11_across_3 (MX11_within hc1) rfl rfl rfl (fun _ => Nat.le_of_ble_eq_true rfl) ?_
  refine E_if_ne 12 dX11_across_6 (by decide) (fun hc3 => ?_) (fun hc3 => ?_)
  · rw [if_pos hc3] at hf
    refine E_ldc (-2147483648) dX11_across_9 wk_RX11_207 ?_
    obtain ⟨rfl, rfl⟩ := ret2 hf
    exact E.done (by rw [eQ]; exact ⟨rfl, Or.inl ⟨_, _, rfl, rfl, dX11_across_11, rfl, rfl⟩⟩)
  · rw [if_neg hc3] at hf
    refine E_aload_n (v := 0) dX11_across_12 rfl ?_
    refine E_getR fg_RX11_43 dX11_across_13 sC_0 rfl rC_0_6 (Nat.succ_ne_zero _) ?_
    refine E_aload_n (v := 0) dX11_across_16 rfl ?_
    refine E_getR fg_RX11_10 dX11_across_17 sC_0 rfl rC_0_0 (Nat.succ_ne_zero _) ?_
    refine E_iconst 0 dX11_across_20 ic_0 ?_
    obtain ⟨w5, hc4, hf⟩ := bd_some hf
    try dsimp only at hf
    refine E_callVv (rest := []) (ci := 3) cv_RX11_208 dX11_across_21 (MX3_measure B_is1 hc4) rfl sC_46 rfl (by decide) rfl rfl (fun _ => Nat.le_of_ble_eq_true rfl) ?_
    refine E_bipush (-9) dX11_across_24 bp_m9 ?_
    refine E_istore_n (ls' := [some (.ref 0), some (.int a0), some (.int (-9)), none, none, none]) dX11_across_26 rfl rfl rfl ?_
    refine E_aload_n (v := 0) dX11_across_27 rfl ?_
    refine E_getR fg_RX11_52 dX11_across_28 sC_0 rfl rC_0_7 (Nat.succ_ne_zero _) ?_
    refine E_aload_n (v := 0) dX11_across_31 rfl ?_
    refine E_getR fg_RX11_10 dX11_across_32 sC_0 rfl rC_0_0 (Nat.succ_ne_zero _) ?_
    refine E_getR fg_RX11_130 dX11_across_35 sC_1 rfl rC_1_0 (Nat.succ_ne_zero _) ?_
    refine E_bipush (-9) dX11_across_38 bp_m9 ?_
    obtain ⟨r7, w8, hc6, hf⟩ := bd2_some hf
    try dsimp only at hf
    refine E_callVi (rest := []) (ci := 5) cv_RX11_212 dX11_across_40 (MX5_mostWorth J_is2 hc6) rfl sC_49 rfl (by decide) rfl rfl (fun _ => Nat.le_of_ble_eq_true rfl) ?_
    refine E_istore_n (ls' := [some (.ref 0), some (.int a0), some (.int (-9)), some (.int r7), none, none]) dX11_across_43 rfl rfl rfl ?_
    refine E_iconst 0 dX11_across_44 ic_0 ?_
    refine E_istore (ls' := [some (.ref 0), some (.int a0), some (.int (-9)), some (.int r7), some (.int 0), none]) dX11_across_45 rfl rfl rfl ?_
    obtain ⟨q, hw18, hf⟩ := bd_some hf
    try dsimp only at hf
    show (fun (s : Int32 × Int32 × Int32 × AW) => E (PC S) RX11 cX11_across 6 14 47 [some (.ref 0), some (.int a0), some (.int s.1), some (.int s.2.1), some (.int s.2.2.1), none] [] s.2.2.2 Q) ((-9), r7, 0, w8)
    refine wh_E (K := (fun (s : Int32 × Int32 × Int32 × AW) => E (PC S) RX11 cX11_across 6 14 47 [some (.ref 0), some (.int a0), some (.int s.1), some (.int s.2.1), some (.int s.2.2.1), none] [] s.2.2.2 Q)) (X := (fun (s : Int32 × Int32 × AW) => E (PC S) RX11 cX11_across 6 14 114 [none, some (.int a0), some (.int s.1), some (.int s.2.1), none, none] [] s.2.2 Q)) ?_ hw18 ?_
    · intro s9 z9 hf k9
      obtain ⟨x2_47_1, x3_47_1, x4_47_1, w_47_1⟩ := s9
      dsimp only [lbX11_across_47_1] at hf
      show E (PC S) RX11 cX11_across 6 14 47 [some (.ref 0), some (.int a0), some (.int x2_47_1), some (.int x3_47_1), some (.int x4_47_1), none] [] w_47_1 Q
      refine E_iload (v := x4_47_1) dX11_across_47 rfl ?_
      refine E_aload_n (v := 0) dX11_across_49 rfl ?_
      refine E_getR fg_RX11_10 dX11_across_50 sC_0 rfl rC_0_0 (Nat.succ_ne_zero _) ?_
      refine E_getR fg_RX11_130 dX11_across_53 sC_1 rfl rC_1_0 (Nat.succ_ne_zero _) ?_
      refine E_getI fg_RX11_131 dX11_across_56 sC_2 rfl ?_
      refine E_icmp_ge 114 dX11_across_59 (by decide) (fun hc10 => ?_) (fun hc10 => ?_)
      · rw [if_pos hc10] at hf
        obtain rfl := Option.some.inj hf
        refine E.fewer (ls' := [none, some (.int a0), some (.int x2_47_1), some (.int x3_47_1), none, none]) ⟨Or.inl rfl, ⟨Or.inr rfl, ⟨Or.inr rfl, ⟨Or.inr rfl, ⟨Or.inl rfl, ⟨Or.inl rfl, trivial⟩⟩⟩⟩⟩⟩ ?_
        exact k9
      · rw [if_neg hc10] at hf
        refine E_aload_n (v := 0) dX11_across_62 rfl ?_
        refine E_getR fg_RX11_52 dX11_across_63 sC_0 rfl rC_0_7 (Nat.succ_ne_zero _) ?_
        refine E_aload_n (v := 0) dX11_across_66 rfl ?_
        refine E_getR fg_RX11_10 dX11_across_67 sC_0 rfl rC_0_0 (Nat.succ_ne_zero _) ?_
        refine E_getR fg_RX11_130 dX11_across_70 sC_1 rfl rC_1_0 (Nat.succ_ne_zero _) ?_
        refine E_iload (v := x4_47_1) dX11_across_73 rfl ?_
        obtain ⟨r12, w13, hc11, hf⟩ := bd2_some hf
        try dsimp only at hf
        refine E_callVi (rest := []) (ci := 5) cv_RX11_212 dX11_across_75 (MX5_mostWorth J_is2 hc11) rfl sC_49 rfl (by decide) rfl rfl (fun _ => Nat.le_of_ble_eq_true rfl) ?_
        refine E_aload_n (v := 0) dX11_across_78 rfl ?_
        refine E_getR fg_RX11_10 dX11_across_79 sC_0 rfl rC_0_0 (Nat.succ_ne_zero _) ?_
        refine E_getR fg_RX11_130 dX11_across_82 sC_1 rfl rC_1_0 (Nat.succ_ne_zero _) ?_
        refine E_getR fg_RX11_156 dX11_across_85 sC_2 rfl rC_2_5 (Nat.succ_ne_zero _) ?_
        refine E_iload (v := x4_47_1) dX11_across_88 rfl ?_
        obtain ⟨hi15, hf⟩ := gd_some hf
        refine E_iald (n := 6) dX11_across_90 sC_7 (by decide) (inb_in hi15) ?_
        refine E_iconst 2 dX11_across_91 ic_2 ?_
        refine E_idiv dX11_across_92 (by decide) ?_
        refine E_iadd dX11_across_93 ?_
        obtain ⟨v16, ev16, hf⟩ := lw_some hf
        try dsimp only at hf
        rw [← ev16]
        refine E_istore (ls' := [some (.ref 0), some (.int a0), some (.int x2_47_1), some (.int x3_47_1), some (.int x4_47_1), some (.int v16)]) dX11_across_94 rfl rfl rfl ?_
        refine E_iload (v := v16) dX11_across_96 rfl ?_
        refine E_iload_n (v := x3_47_1) dX11_across_98 rfl ?_
        refine E_icmp_le 108 dX11_across_99 (by decide) (fun hc17 => ?_) (fun hc17 => ?_)
        · rw [if_pos hc17] at hf
          refine E_iinc (ls' := [some (.ref 0), some (.int a0), some (.int x2_47_1), some (.int x3_47_1), some (.int (x4_47_1 + 1)), some (.int v16)]) 1 dX11_across_108 rfl ic_1 rfl rfl rfl ?_
          refine E_goto 47 dX11_across_111 (by decide) ?_
          obtain rfl := Option.some.inj hf
          refine E.fewer (ls' := [some (.ref 0), some (.int a0), some (.int x2_47_1), some (.int x3_47_1), some (.int (x4_47_1 + 1)), none]) ⟨Or.inr rfl, ⟨Or.inr rfl, ⟨Or.inr rfl, ⟨Or.inr rfl, ⟨Or.inr rfl, ⟨Or.inl rfl, trivial⟩⟩⟩⟩⟩⟩ ?_
          exact k9
        · rw [if_neg hc17] at hf
          refine E_iload (v := v16) dX11_across_102 rfl ?_
          refine E_istore_n (ls' := [some (.ref 0), some (.int a0), some (.int x2_47_1), some (.int v16), some (.int x4_47_1), some (.int v16)]) dX11_across_104 rfl rfl rfl ?_
          refine E_iload (v := x4_47_1) dX11_across_105 rfl ?_
          refine E_istore_n (ls' := [some (.ref 0), some (.int a0), some (.int x4_47_1), some (.int v16), some (.int x4_47_1), some (.int v16)]) dX11_across_107 rfl rfl rfl ?_
          refine E_iinc (ls' := [some (.ref 0), some (.int a0), some (.int x4_47_1), some (.int v16), some (.int (x4_47_1 + 1)), some (.int v16)]) 1 dX11_across_108 rfl ic_1 rfl rfl rfl ?_
          refine E_goto 47 dX11_across_111 (by decide) ?_
          obtain rfl := Option.some.inj hf
          refine E.fewer (ls' := [some (.ref 0), some (.int a0), some (.int x4_47_1), some (.int v16), some (.int (x4_47_1 + 1)), none]) ⟨Or.inr rfl, ⟨Or.inr rfl, ⟨Or.inr rfl, ⟨Or.inr rfl, ⟨Or.inr rfl, ⟨Or.inl rfl, trivial⟩⟩⟩⟩⟩⟩ ?_
          exact k9
    · skip
      obtain ⟨y19, y20, w21⟩ := q
      try dsimp only at hf
      show E (PC S) RX11 cX11_across 6 14 114 [none, some (.int a0), some (.int y19), some (.int y20), none, none] [] w21 Q
      refine E_iload_n (v := a0) dX11_across_114 rfl ?_
      refine E_if_ne 122 dX11_across_115 (by decide) (fun hc22 => ?_) (fun hc22 => ?_)
      · rw [if_pos hc22] at hf
        refine E_iload_n (v := y19) dX11_across_118 rfl ?_
        refine E_goto 123 dX11_across_119 (by decide) ?_
        obtain ⟨rfl, rfl⟩ := ret2 hf
        exact E.done (by rw [eQ]; exact ⟨rfl, Or.inl ⟨_, _, rfl, rfl, dX11_across_123, rfl, rfl⟩⟩)
      · rw [if_neg hc22] at hf
        refine E_iload_n (v := y20) dX11_across_122 rfl ?_
        obtain ⟨rfl, rfl⟩ := ret2 hf
        exact E.done (by rw [eQ]; exact ⟨rfl, Or.inl ⟨_, _, rfl, rfl, dX11_across_123, rfl, rfl⟩⟩)
set_option maxRecDepth 10000 in
set_option maxHeartbeats 2000000 in
theorem MX4_copy {N : Nat} {o : Nat} {o0 : Nat} {w : AW} {wZ : AW} (ho : isJ o) (ho0 : isJ o0) (hf : fX4_copy N o o0 w = some wZ) : CallOK (PC S) yX4_copy cX4_copy 3 none 1 [.ref o, .ref o0] w none wZ := by
  refine CallOK.of (ls := [some (.ref o), some (.ref o0), none]) (by decide) (by simp) rfl rfl ?_
  obtain ⟨Q, eQ⟩ : ∃ Q, Q = Qret cX4_copy none none wZ := ⟨_, rfl⟩
  rw [← eQ]
  unfold fX4_copy at hf
  refine E_aload_n (v := o) dX4_copy_0 rfl ?_
  refine E_aload_n (v := o0) dX4_copy_1 rfl ?_
  refine E_getI fg_RX4_9 dX4_copy_2 (J_s0 ho0) rfl ?_
  obtain ⟨w1, ew1, hf⟩ := lw_some hf
  try dsimp only at hf
  refine E_putI fp_RX4_9 dX4_copy_5 (J_s0 ho) rfl rfl rfl ?_
  rw [← ew1]
  refine E_iconst 0 dX4_copy_8 ic_0 ?_
  refine E_istore_n (ls' := [some (.ref o), some (.ref o0), some (.int 0)]) dX4_copy_9 rfl rfl rfl ?_
  obtain ⟨q, hw9, hf⟩ := bd_some hf
  try dsimp only at hf
  show (fun (s : Int32 × AW) => E (PC S) RX4 cX4_copy 3 1 10 [some (.ref o), some (.ref o0), some (.int s.1)] [] s.2 Q) (0, w1)
  refine wh_E (K := (fun (s : Int32 × AW) => E (PC S) RX4 cX4_copy 3 1 10 [some (.ref o), some (.ref o0), some (.int s.1)] [] s.2 Q)) (X := (fun (s : AW) => E (PC S) RX4 cX4_copy 3 1 84 [none, none, none] [] s Q)) ?_ hw9 ?_
  · intro s9 z9 hf k9
    obtain ⟨x2_10_1, w_10_1⟩ := s9
    dsimp only [lbX4_copy_10_1] at hf
    show E (PC S) RX4 cX4_copy 3 1 10 [some (.ref o), some (.ref o0), some (.int x2_10_1)] [] w_10_1 Q
    refine E_iload_n (v := x2_10_1) dX4_copy_10 rfl ?_
    refine E_aload_n (v := o0) dX4_copy_11 rfl ?_
    refine E_getI fg_RX4_9 dX4_copy_12 (J_s0 ho0) rfl ?_
    refine E_icmp_ge 84 dX4_copy_15 (by decide) (fun hc2 => ?_) (fun hc2 => ?_)
    · rw [if_pos hc2] at hf
      obtain rfl := Option.some.inj hf
      refine E.fewer (ls' := [none, none, none]) ⟨Or.inl rfl, ⟨Or.inl rfl, ⟨Or.inl rfl, trivial⟩⟩⟩ ?_
      exact k9
    · rw [if_neg hc2] at hf
      refine E_aload_n (v := o) dX4_copy_18 rfl ?_
      refine E_getR fg_RX4_15 dX4_copy_19 (J_s0 ho) rfl (J_r0_1 ho) (Nat.succ_ne_zero _) ?_
      refine E_iload_n (v := x2_10_1) dX4_copy_22 rfl ?_
      refine E_aload_n (v := o0) dX4_copy_23 rfl ?_
      refine E_getR fg_RX4_15 dX4_copy_24 (J_s0 ho0) rfl (J_r0_1 ho0) (Nat.succ_ne_zero _) ?_
      refine E_iload_n (v := x2_10_1) dX4_copy_27 rfl ?_
      obtain ⟨hi3, hf⟩ := gd_some hf
      refine E_iald (n := 6) dX4_copy_28 (J_s1 ho0) (by decide) (inb_in hi3) ?_
      obtain ⟨w4, ew4, hf⟩ := lw_some hf
      try dsimp only at hf
      refine E_iast (n := 6) dX4_copy_29 (J_s1 ho) (by decide) (inb_in hi3) ?_
      rw [← ew4]
      refine E_aload_n (v := o) dX4_copy_30 rfl ?_
      refine E_getR fg_RX4_19 dX4_copy_31 (J_s0 ho) rfl (J_r0_2 ho) (Nat.succ_ne_zero _) ?_
      refine E_iload_n (v := x2_10_1) dX4_copy_34 rfl ?_
      refine E_aload_n (v := o0) dX4_copy_35 rfl ?_
      refine E_getR fg_RX4_19 dX4_copy_36 (J_s0 ho0) rfl (J_r0_2 ho0) (Nat.succ_ne_zero _) ?_
      refine E_iload_n (v := x2_10_1) dX4_copy_39 rfl ?_
      refine E_iald (n := 6) dX4_copy_40 (J_s2 ho0) (by decide) (inb_in hi3) ?_
      obtain ⟨w5, ew5, hf⟩ := lw_some hf
      try dsimp only at hf
      refine E_iast (n := 6) dX4_copy_41 (J_s2 ho) (by decide) (inb_in hi3) ?_
      rw [← ew5]
      refine E_aload_n (v := o) dX4_copy_42 rfl ?_
      refine E_getR fg_RX4_22 dX4_copy_43 (J_s0 ho) rfl (J_r0_3 ho) (Nat.succ_ne_zero _) ?_
      refine E_iload_n (v := x2_10_1) dX4_copy_46 rfl ?_
      refine E_aload_n (v := o0) dX4_copy_47 rfl ?_
      refine E_getR fg_RX4_22 dX4_copy_48 (J_s0 ho0) rfl (J_r0_3 ho0) (Nat.succ_ne_zero _) ?_
      refine E_iload_n (v := x2_10_1) dX4_copy_51 rfl ?_
      refine E_iald (n := 6) dX4_copy_52 (J_s3 ho0) (by decide) (inb_in hi3) ?_
      obtain ⟨w6, ew6, hf⟩ := lw_some hf
      try dsimp only at hf
      refine E_iast (n := 6) dX4_copy_53 (J_s3 ho) (by decide) (inb_in hi3) ?_
      rw [← ew6]
      refine E_aload_n (v := o) dX4_copy_54 rfl ?_
      refine E_getR fg_RX4_25 dX4_copy_55 (J_s0 ho) rfl (J_r0_4 ho) (Nat.succ_ne_zero _) ?_
      refine E_iload_n (v := x2_10_1) dX4_copy_58 rfl ?_
      refine E_aload_n (v := o0) dX4_copy_59 rfl ?_
      refine E_getR fg_RX4_25 dX4_copy_60 (J_s0 ho0) rfl (J_r0_4 ho0) (Nat.succ_ne_zero _) ?_
      refine E_iload_n (v := x2_10_1) dX4_copy_63 rfl ?_
      refine E_iald (n := 6) dX4_copy_64 (J_s4 ho0) (by decide) (inb_in hi3) ?_
      obtain ⟨w7, ew7, hf⟩ := lw_some hf
      try dsimp only at hf
      refine E_iast (n := 6) dX4_copy_65 (J_s4 ho) (by decide) (inb_in hi3) ?_
      rw [← ew7]
      refine E_aload_n (v := o) dX4_copy_66 rfl ?_
      refine E_getR fg_RX4_28 dX4_copy_67 (J_s0 ho) rfl (J_r0_5 ho) (Nat.succ_ne_zero _) ?_
      refine E_iload_n (v := x2_10_1) dX4_copy_70 rfl ?_
      refine E_aload_n (v := o0) dX4_copy_71 rfl ?_
      refine E_getR fg_RX4_28 dX4_copy_72 (J_s0 ho0) rfl (J_r0_5 ho0) (Nat.succ_ne_zero _) ?_
      refine E_iload_n (v := x2_10_1) dX4_copy_75 rfl ?_
      refine E_iald (n := 6) dX4_copy_76 (J_s5 ho0) (by decide) (inb_in hi3) ?_
      obtain ⟨w8, ew8, hf⟩ := lw_some hf
      try dsimp only at hf
      refine E_iast (n := 6) dX4_copy_77 (J_s5 ho) (by decide) (inb_in hi3) ?_
      rw [← ew8]
      refine E_iinc (ls' := [some (.ref o), some (.ref o0), some (.int (x2_10_1 + 1))]) 1 dX4_copy_78 rfl ic_1 rfl rfl rfl ?_
      refine E_goto 10 dX4_copy_81 (by decide) ?_
      obtain rfl := Option.some.inj hf
      exact k9
  · skip
    obtain ⟨w10, hq9⟩ : ∃ a, a = q := ⟨_, rfl⟩
    subst hq9
    try dsimp only at hf
    show E (PC S) RX4 cX4_copy 3 1 84 [none, none, none] [] w10 Q
    obtain rfl := Option.some.inj hf
    exact E.done (by rw [eQ]; exact ⟨rfl, Or.inr ⟨rfl, rfl, dX4_copy_84, rfl⟩⟩)
set_option maxRecDepth 10000 in
set_option maxHeartbeats 2000000 in
theorem MX1_copy {N : Nat} {b : Nat} {o0 : Nat} {w : AW} {wZ : AW} (hb : isB b) (ho0 : isB o0) (hf : fX1_copy N b o0 w = some wZ) : CallOK (PC S) yX1_copy cX1_copy 2 none 2 [.ref b, .ref o0] w none wZ := by
  refine CallOK.of (ls := [some (.ref b), some (.ref o0)]) (by decide) (by simp) rfl rfl ?_
  obtain ⟨Q, eQ⟩ : ∃ Q, Q = Qret cX1_copy none none wZ := ⟨_, rfl⟩
  rw [← eQ]
  unfold fX1_copy at hf
  refine E_aload_n (v := b) dX1_copy_0 rfl ?_
  refine E_getR fg_RX1_12 dX1_copy_1 (B_s0 hb) rfl (B_r0_0 hb) (Nat.succ_ne_zero _) ?_
  refine E_aload_n (v := o0) dX1_copy_4 rfl ?_
  refine E_getR fg_RX1_12 dX1_copy_5 (B_s0 ho0) rfl (B_r0_0 ho0) (Nat.succ_ne_zero _) ?_
  obtain ⟨w2, hc1, hf⟩ := bd_some hf
  try dsimp only at hf
  refine E_callVv (rest := []) (ci := 4) cv_RX1_50 dX1_copy_8 (MX4_copy (B_j1 hb) (B_j1 ho0) hc1) rfl (B_s1 hb) rfl (by decide) rfl rfl (fun _ => Nat.le_of_ble_eq_true rfl) ?_
  refine E_aload_n (v := o0) dX1_copy_11 rfl ?_
  refine E_getR fg_RX1_18 dX1_copy_12 (B_s0 ho0) rfl (B_r0_1 ho0) (Nat.succ_ne_zero _) ?_
  refine E_iconst 0 dX1_copy_15 ic_0 ?_
  refine E_aload_n (v := b) dX1_copy_16 rfl ?_
  refine E_getR fg_RX1_18 dX1_copy_17 (B_s0 hb) rfl (B_r0_1 hb) (Nat.succ_ne_zero _) ?_
  refine E_iconst 0 dX1_copy_20 ic_0 ?_
  refine E_iconst 4 dX1_copy_21 ic_4 ?_
  obtain ⟨w3, ew3, hf⟩ := lw_some hf
  try dsimp only at hf
  refine E_copyI (n0 := 4) (n1 := 4) wl_RX1_88 wna_copy wst_copy win_sys dX1_copy_22 (by omega) rfl (B_s7 ho0) (by decide) (B_s7 hb) (by decide) (by decide) (by decide) (by decide) (by decide) (by decide) ?_
  rw [← ew3]
  refine E_aload_n (v := o0) dX1_copy_25 rfl ?_
  refine E_getR fg_RX1_22 dX1_copy_26 (B_s0 ho0) rfl (B_r0_2 ho0) (Nat.succ_ne_zero _) ?_
  refine E_iconst 0 dX1_copy_29 ic_0 ?_
  refine E_aload_n (v := b) dX1_copy_30 rfl ?_
  refine E_getR fg_RX1_22 dX1_copy_31 (B_s0 hb) rfl (B_r0_2 hb) (Nat.succ_ne_zero _) ?_
  refine E_iconst 0 dX1_copy_34 ic_0 ?_
  refine E_bipush 61 dX1_copy_35 bp_61 ?_
  obtain ⟨w4, ew4, hf⟩ := lw_some hf
  try dsimp only at hf
  refine E_copyI (n0 := 61) (n1 := 61) wl_RX1_88 wna_copy wst_copy win_sys dX1_copy_37 (by omega) rfl (B_s8 ho0) (by decide) (B_s8 hb) (by decide) (by decide) (by decide) (by decide) (by decide) (by decide) ?_
  rw [← ew4]
  refine E_aload_n (v := o0) dX1_copy_40 rfl ?_
  refine E_getR fg_RX1_25 dX1_copy_41 (B_s0 ho0) rfl (B_r0_3 ho0) (Nat.succ_ne_zero _) ?_
  refine E_iconst 0 dX1_copy_44 ic_0 ?_
  refine E_aload_n (v := b) dX1_copy_45 rfl ?_
  refine E_getR fg_RX1_25 dX1_copy_46 (B_s0 hb) rfl (B_r0_3 hb) (Nat.succ_ne_zero _) ?_
  refine E_iconst 0 dX1_copy_49 ic_0 ?_
  refine E_bipush 61 dX1_copy_50 bp_61 ?_
  obtain ⟨w5, ew5, hf⟩ := lw_some hf
  try dsimp only at hf
  refine E_copyI (n0 := 61) (n1 := 61) wl_RX1_88 wna_copy wst_copy win_sys dX1_copy_52 (by omega) rfl (B_s9 ho0) (by decide) (B_s9 hb) (by decide) (by decide) (by decide) (by decide) (by decide) (by decide) ?_
  rw [← ew5]
  refine E_aload_n (v := o0) dX1_copy_55 rfl ?_
  refine E_getR fg_RX1_28 dX1_copy_56 (B_s0 ho0) rfl (B_r0_4 ho0) (Nat.succ_ne_zero _) ?_
  refine E_iconst 0 dX1_copy_59 ic_0 ?_
  refine E_aload_n (v := b) dX1_copy_60 rfl ?_
  refine E_getR fg_RX1_28 dX1_copy_61 (B_s0 hb) rfl (B_r0_4 hb) (Nat.succ_ne_zero _) ?_
  refine E_iconst 0 dX1_copy_64 ic_0 ?_
  refine E_bipush 6 dX1_copy_65 bp_6 ?_
  obtain ⟨w6, ew6, hf⟩ := lw_some hf
  try dsimp only at hf
  refine E_copyI (n0 := 6) (n1 := 6) wl_RX1_88 wna_copy wst_copy win_sys dX1_copy_67 (by omega) rfl (B_s10 ho0) (by decide) (B_s10 hb) (by decide) (by decide) (by decide) (by decide) (by decide) (by decide) ?_
  rw [← ew6]
  refine E_aload_n (v := b) dX1_copy_70 rfl ?_
  refine E_aload_n (v := o0) dX1_copy_71 rfl ?_
  refine E_getI fg_RX1_31 dX1_copy_72 (B_s0 ho0) rfl ?_
  obtain ⟨w7, ew7, hf⟩ := lw_some hf
  try dsimp only at hf
  refine E_putI fp_RX1_31 dX1_copy_75 (B_s0 hb) rfl rfl rfl ?_
  rw [← ew7]
  refine E_aload_n (v := b) dX1_copy_78 rfl ?_
  refine E_aload_n (v := o0) dX1_copy_79 rfl ?_
  refine E_getI fg_RX1_35 dX1_copy_80 (B_s0 ho0) rfl ?_
  obtain ⟨w8, ew8, hf⟩ := lw_some hf
  try dsimp only at hf
  refine E_putI fp_RX1_35 dX1_copy_83 (B_s0 hb) rfl rfl rfl ?_
  rw [← ew8]
  refine E_aload_n (v := b) dX1_copy_86 rfl ?_
  refine E_aload_n (v := o0) dX1_copy_87 rfl ?_
  refine E_getI fg_RX1_38 dX1_copy_88 (B_s0 ho0) rfl ?_
  obtain ⟨w9, ew9, hf⟩ := lw_some hf
  try dsimp only at hf
  refine E_putI fp_RX1_38 dX1_copy_91 (B_s0 hb) rfl rfl rfl ?_
  rw [← ew9]
  refine E_aload_n (v := b) dX1_copy_94 rfl ?_
  refine E_aload_n (v := o0) dX1_copy_95 rfl ?_
  refine E_getI fg_RX1_41 dX1_copy_96 (B_s0 ho0) rfl ?_
  obtain ⟨w10, ew10, hf⟩ := lw_some hf
  try dsimp only at hf
  refine E_putI fp_RX1_41 dX1_copy_99 (B_s0 hb) rfl rfl rfl ?_
  rw [← ew10]
  obtain rfl := Option.some.inj hf
  exact E.done (by rw [eQ]; exact ⟨rfl, Or.inr ⟨rfl, rfl, dX1_copy_102, rfl⟩⟩)
set_option maxRecDepth 10000 in
set_option maxHeartbeats 2000000 in
theorem MX10_copy {N : Nat} {t : Nat} {o0 : Nat} {w : AW} {wZ : AW} (ht : isT t) (ho0 : isT o0) (hf : fX10_copy N t o0 w = some wZ) : CallOK (PC S) yX10_copy cX10_copy 3 none 1 [.ref t, .ref o0] w none wZ := by
  refine CallOK.of (ls := [some (.ref t), some (.ref o0), none]) (by decide) (by simp) rfl rfl ?_
  obtain ⟨Q, eQ⟩ : ∃ Q, Q = Qret cX10_copy none none wZ := ⟨_, rfl⟩
  rw [← eQ]
  unfold fX10_copy at hf
  refine E_aload_n (v := t) dX10_copy_0 rfl ?_
  refine E_aload_n (v := o0) dX10_copy_1 rfl ?_
  refine E_getI fg_RX10_9 dX10_copy_2 (T_s0 ho0) rfl ?_
  obtain ⟨w1, ew1, hf⟩ := lw_some hf
  try dsimp only at hf
  refine E_putI fp_RX10_9 dX10_copy_5 (T_s0 ht) rfl rfl rfl ?_
  rw [← ew1]
  refine E_aload_n (v := t) dX10_copy_8 rfl ?_
  refine E_aload_n (v := o0) dX10_copy_9 rfl ?_
  refine E_getI fg_RX10_15 dX10_copy_10 (T_s0 ho0) rfl ?_
  obtain ⟨w2, ew2, hf⟩ := lw_some hf
  try dsimp only at hf
  refine E_putI fp_RX10_15 dX10_copy_13 (T_s0 ht) rfl rfl rfl ?_
  rw [← ew2]
  refine E_iconst 0 dX10_copy_16 ic_0 ?_
  refine E_istore_n (ls' := [some (.ref t), some (.ref o0), some (.int 0)]) dX10_copy_17 rfl rfl rfl ?_
  obtain ⟨q, hw11, hf⟩ := bd_some hf
  try dsimp only at hf
  show (fun (s : Int32 × AW) => E (PC S) RX10 cX10_copy 3 1 18 [some (.ref t), some (.ref o0), some (.int s.1)] [] s.2 Q) (0, w2)
  refine wh_E (K := (fun (s : Int32 × AW) => E (PC S) RX10 cX10_copy 3 1 18 [some (.ref t), some (.ref o0), some (.int s.1)] [] s.2 Q)) (X := (fun (s : AW) => E (PC S) RX10 cX10_copy 3 1 104 [none, none, none] [] s Q)) ?_ hw11 ?_
  · intro s9 z9 hf k9
    obtain ⟨x2_18_1, w_18_1⟩ := s9
    dsimp only [lbX10_copy_18_1] at hf
    show E (PC S) RX10 cX10_copy 3 1 18 [some (.ref t), some (.ref o0), some (.int x2_18_1)] [] w_18_1 Q
    refine E_iload_n (v := x2_18_1) dX10_copy_18 rfl ?_
    refine E_aload_n (v := o0) dX10_copy_19 rfl ?_
    refine E_getI fg_RX10_9 dX10_copy_20 (T_s0 ho0) rfl ?_
    refine E_icmp_ge 104 dX10_copy_23 (by decide) (fun hc3 => ?_) (fun hc3 => ?_)
    · rw [if_pos hc3] at hf
      obtain rfl := Option.some.inj hf
      refine E.fewer (ls' := [none, none, none]) ⟨Or.inl rfl, ⟨Or.inl rfl, ⟨Or.inl rfl, trivial⟩⟩⟩ ?_
      exact k9
    · rw [if_neg hc3] at hf
      refine E_aload_n (v := t) dX10_copy_26 rfl ?_
      refine E_getR fg_RX10_18 dX10_copy_27 (T_s0 ht) rfl (T_r0_2 ht) (Nat.succ_ne_zero _) ?_
      refine E_iload_n (v := x2_18_1) dX10_copy_30 rfl ?_
      refine E_aload_n (v := o0) dX10_copy_31 rfl ?_
      refine E_getR fg_RX10_18 dX10_copy_32 (T_s0 ho0) rfl (T_r0_2 ho0) (Nat.succ_ne_zero _) ?_
      refine E_iload_n (v := x2_18_1) dX10_copy_35 rfl ?_
      obtain ⟨hi4, hf⟩ := gd_some hf
      refine E_iald (n := 3) dX10_copy_36 (T_s1 ho0) (by decide) (inb_in hi4) ?_
      obtain ⟨w5, ew5, hf⟩ := lw_some hf
      try dsimp only at hf
      refine E_iast (n := 3) dX10_copy_37 (T_s1 ht) (by decide) (inb_in hi4) ?_
      rw [← ew5]
      refine E_aload_n (v := t) dX10_copy_38 rfl ?_
      refine E_getR fg_RX10_22 dX10_copy_39 (T_s0 ht) rfl (T_r0_3 ht) (Nat.succ_ne_zero _) ?_
      refine E_iload_n (v := x2_18_1) dX10_copy_42 rfl ?_
      refine E_aload_n (v := o0) dX10_copy_43 rfl ?_
      refine E_getR fg_RX10_22 dX10_copy_44 (T_s0 ho0) rfl (T_r0_3 ho0) (Nat.succ_ne_zero _) ?_
      refine E_iload_n (v := x2_18_1) dX10_copy_47 rfl ?_
      refine E_iald (n := 3) dX10_copy_48 (T_s2 ho0) (by decide) (inb_in hi4) ?_
      obtain ⟨w6, ew6, hf⟩ := lw_some hf
      try dsimp only at hf
      refine E_iast (n := 3) dX10_copy_49 (T_s2 ht) (by decide) (inb_in hi4) ?_
      rw [← ew6]
      refine E_aload_n (v := t) dX10_copy_50 rfl ?_
      refine E_getR fg_RX10_25 dX10_copy_51 (T_s0 ht) rfl (T_r0_4 ht) (Nat.succ_ne_zero _) ?_
      refine E_iload_n (v := x2_18_1) dX10_copy_54 rfl ?_
      refine E_aload_n (v := o0) dX10_copy_55 rfl ?_
      refine E_getR fg_RX10_25 dX10_copy_56 (T_s0 ho0) rfl (T_r0_4 ho0) (Nat.succ_ne_zero _) ?_
      refine E_iload_n (v := x2_18_1) dX10_copy_59 rfl ?_
      refine E_iald (n := 3) dX10_copy_60 (T_s3 ho0) (by decide) (inb_in hi4) ?_
      obtain ⟨w7, ew7, hf⟩ := lw_some hf
      try dsimp only at hf
      refine E_iast (n := 3) dX10_copy_61 (T_s3 ht) (by decide) (inb_in hi4) ?_
      rw [← ew7]
      refine E_aload_n (v := t) dX10_copy_62 rfl ?_
      refine E_getR fg_RX10_28 dX10_copy_63 (T_s0 ht) rfl (T_r0_5 ht) (Nat.succ_ne_zero _) ?_
      refine E_iload_n (v := x2_18_1) dX10_copy_66 rfl ?_
      refine E_aload_n (v := o0) dX10_copy_67 rfl ?_
      refine E_getR fg_RX10_28 dX10_copy_68 (T_s0 ho0) rfl (T_r0_5 ho0) (Nat.succ_ne_zero _) ?_
      refine E_iload_n (v := x2_18_1) dX10_copy_71 rfl ?_
      refine E_iald (n := 3) dX10_copy_72 (T_s4 ho0) (by decide) (inb_in hi4) ?_
      obtain ⟨w8, ew8, hf⟩ := lw_some hf
      try dsimp only at hf
      refine E_iast (n := 3) dX10_copy_73 (T_s4 ht) (by decide) (inb_in hi4) ?_
      rw [← ew8]
      refine E_aload_n (v := t) dX10_copy_74 rfl ?_
      refine E_getR fg_RX10_31 dX10_copy_75 (T_s0 ht) rfl (T_r0_6 ht) (Nat.succ_ne_zero _) ?_
      refine E_iload_n (v := x2_18_1) dX10_copy_78 rfl ?_
      refine E_aload_n (v := o0) dX10_copy_79 rfl ?_
      refine E_getR fg_RX10_31 dX10_copy_80 (T_s0 ho0) rfl (T_r0_6 ho0) (Nat.succ_ne_zero _) ?_
      refine E_iload_n (v := x2_18_1) dX10_copy_83 rfl ?_
      refine E_iald (n := 3) dX10_copy_84 (T_s5 ho0) (by decide) (inb_in hi4) ?_
      obtain ⟨w9, ew9, hf⟩ := lw_some hf
      try dsimp only at hf
      refine E_iast (n := 3) dX10_copy_85 (T_s5 ht) (by decide) (inb_in hi4) ?_
      rw [← ew9]
      refine E_aload_n (v := t) dX10_copy_86 rfl ?_
      refine E_getR fg_RX10_34 dX10_copy_87 (T_s0 ht) rfl (T_r0_7 ht) (Nat.succ_ne_zero _) ?_
      refine E_iload_n (v := x2_18_1) dX10_copy_90 rfl ?_
      refine E_aload_n (v := o0) dX10_copy_91 rfl ?_
      refine E_getR fg_RX10_34 dX10_copy_92 (T_s0 ho0) rfl (T_r0_7 ho0) (Nat.succ_ne_zero _) ?_
      refine E_iload_n (v := x2_18_1) dX10_copy_95 rfl ?_
      refine E_iald (n := 3) dX10_copy_96 (T_s6 ho0) (by decide) (inb_in hi4) ?_
      obtain ⟨w10, ew10, hf⟩ := lw_some hf
      try dsimp only at hf
      refine E_iast (n := 3) dX10_copy_97 (T_s6 ht) (by decide) (inb_in hi4) ?_
      rw [← ew10]
      refine E_iinc (ls' := [some (.ref t), some (.ref o0), some (.int (x2_18_1 + 1))]) 1 dX10_copy_98 rfl ic_1 rfl rfl rfl ?_
      refine E_goto 18 dX10_copy_101 (by decide) ?_
      obtain rfl := Option.some.inj hf
      exact k9
  · skip
    obtain ⟨w12, hq9⟩ : ∃ a, a = q := ⟨_, rfl⟩
    subst hq9
    try dsimp only at hf
    show E (PC S) RX10 cX10_copy 3 1 104 [none, none, none] [] w12 Q
    obtain rfl := Option.some.inj hf
    exact E.done (by rw [eQ]; exact ⟨rfl, Or.inr ⟨rfl, rfl, dX10_copy_104, rfl⟩⟩)
set_option maxRecDepth 10000 in
set_option maxHeartbeats 2000000 in
theorem MX11_again {N : Nat} {w : AW} {rZ : Int32} {wZ : AW} (hf : fX11_again N w = some (rZ, wZ)) : CallOK (PC S) yX11_again cX11_again 1 (some .int) 3 [.ref 0] w (some (.int rZ)) wZ := by
  refine CallOK.of (ls := [some (.ref 0)]) (by decide) (by simp) rfl rfl ?_
  obtain ⟨Q, eQ⟩ : ∃ Q, Q = Qret cX11_again (some .int) (some (.int rZ)) wZ := ⟨_, rfl⟩
  rw [← eQ]
  unfold fX11_again at hf
  refine E_aload_n (v := 0) dX11_again_0 rfl ?_
  refine E_getI fg_RX11_29 dX11_again_1 sC_0 rfl ?_
  refine E_if_ne 10 dX11_again_4 (by decide) (fun hc1 => ?_) (fun hc1 => ?_)
  · rw [if_pos hc1] at hf
    refine E_bipush (-3) dX11_again_7 bp_m3 ?_
    obtain ⟨rfl, rfl⟩ := ret2 hf
    exact E.done (by rw [eQ]; exact ⟨rfl, Or.inl ⟨_, _, rfl, rfl, dX11_again_9, rfl, rfl⟩⟩)
  · rw [if_neg hc1] at hf
    refine E_aload_n (v := 0) dX11_again_10 rfl ?_
    refine E_getR fg_RX11_10 dX11_again_11 sC_0 rfl rC_0_0 (Nat.succ_ne_zero _) ?_
    refine E_aload_n (v := 0) dX11_again_14 rfl ?_
    refine E_getR fg_RX11_16 dX11_again_15 sC_0 rfl rC_0_1 (Nat.succ_ne_zero _) ?_
    obtain ⟨w3, hc2, hf⟩ := bd_some hf
    try dsimp only at hf
    refine E_callVv (rest := []) (ci := 1) cv_RX11_360 dX11_again_18 (MX1_copy B_is1 B_is12 hc2) rfl sC_1 rfl (by decide) rfl rfl (fun _ => Nat.le_of_ble_eq_true rfl) ?_
    refine E_aload_n (v := 0) dX11_again_21 rfl ?_
    refine E_getR fg_RX11_22 dX11_again_22 sC_0 rfl rC_0_2 (Nat.succ_ne_zero _) ?_
    refine E_aload_n (v := 0) dX11_again_25 rfl ?_
    refine E_getR fg_RX11_26 dX11_again_26 sC_0 rfl rC_0_3 (Nat.succ_ne_zero _) ?_
    obtain ⟨w5, hc4, hf⟩ := bd_some hf
    try dsimp only at hf
    refine E_callVv (rest := []) (ci := 10) cv_RX11_363 dX11_again_29 (MX10_copy T_is23 T_is30 hc4) rfl sC_23 rfl (by decide) rfl rfl (fun _ => Nat.le_of_ble_eq_true rfl) ?_
    refine E_aload_n (v := 0) dX11_again_32 rfl ?_
    refine E_getR fg_RX11_10 dX11_again_33 sC_0 rfl rC_0_0 (Nat.succ_ne_zero _) ?_
    refine E_getR fg_RX11_130 dX11_again_36 sC_1 rfl rC_1_0 (Nat.succ_ne_zero _) ?_
    refine E_getI fg_RX11_131 dX11_again_39 sC_2 rfl ?_
    obtain ⟨rfl, rfl⟩ := ret2 hf
    exact E.done (by rw [eQ]; exact ⟨rfl, Or.inl ⟨_, _, rfl, rfl, dX11_again_42, rfl, rfl⟩⟩)
set_option maxRecDepth 10000 in
set_option maxHeartbeats 2000000 in
theorem MX11_digitsOf {N : Nat} {r0 : Nat} {a1 : Int32} {w : AW} {rZ : Int32} (hr0 : (PC S).1[r0]? = some 106) (hf : fX11_digitsOf N r0 a1 w = some rZ) : CallOK (PC S) yX11_digitsOf cX11_digitsOf 4 (some .int) 1 [.ref r0, .int a1] w (some (.int rZ)) w := by
  refine CallOK.of (ls := [some (.ref r0), some (.int a1), none, none]) (by decide) (by simp) rfl rfl ?_
  obtain ⟨Q, eQ⟩ : ∃ Q, Q = Qret cX11_digitsOf (some .int) (some (.int rZ)) w := ⟨_, rfl⟩
  rw [← eQ]
  unfold fX11_digitsOf at hf
  refine E_iconst 0 dX11_digitsOf_0 ic_0 ?_
  refine E_istore_n (ls' := [some (.ref r0), some (.int a1), some (.int 0), none]) dX11_digitsOf_1 rfl rfl rfl ?_
  refine E_iconst 0 dX11_digitsOf_2 ic_0 ?_
  refine E_istore_n (ls' := [some (.ref r0), some (.int a1), some (.int 0), some (.int 0)]) dX11_digitsOf_3 rfl rfl rfl ?_
  obtain ⟨q, hw5, hf⟩ := bd_some hf
  try dsimp only at hf
  show (fun (s : Int32 × Int32) => E (PC S) RX11 cX11_digitsOf 4 1 4 [some (.ref r0), some (.int a1), some (.int s.1), some (.int s.2)] [] w Q) (0, 0)
  refine wh_E (K := (fun (s : Int32 × Int32) => E (PC S) RX11 cX11_digitsOf 4 1 4 [some (.ref r0), some (.int a1), some (.int s.1), some (.int s.2)] [] w Q)) (X := (fun (s : Int32) => E (PC S) RX11 cX11_digitsOf 4 1 31 [none, none, some (.int s), none] [] w Q)) ?_ hw5 ?_
  · intro s9 z9 hf k9
    obtain ⟨x2_4_1, x3_4_1⟩ := s9
    dsimp only [lbX11_digitsOf_4_1] at hf
    show E (PC S) RX11 cX11_digitsOf 4 1 4 [some (.ref r0), some (.int a1), some (.int x2_4_1), some (.int x3_4_1)] [] w Q
    refine E_iload_n (v := x3_4_1) dX11_digitsOf_4 rfl ?_
    refine E_iload_n (v := a1) dX11_digitsOf_5 rfl ?_
    refine E_icmp_ge 31 dX11_digitsOf_6 (by decide) (fun hc1 => ?_) (fun hc1 => ?_)
    · rw [if_pos hc1] at hf
      obtain rfl := Option.some.inj hf
      refine E.fewer (ls' := [none, none, some (.int x2_4_1), none]) ⟨Or.inl rfl, ⟨Or.inl rfl, ⟨Or.inr rfl, ⟨Or.inl rfl, trivial⟩⟩⟩⟩ ?_
      exact k9
    · rw [if_neg hc1] at hf
      refine E_iload_n (v := x3_4_1) dX11_digitsOf_9 rfl ?_
      refine E_aload_n (v := r0) dX11_digitsOf_10 rfl ?_
      refine E_alenI (n := 6) 6 dX11_digitsOf_11 hr0 (by decide) rfl ?_
      refine E_icmp_ge 31 dX11_digitsOf_12 (by decide) (fun hc2 => ?_) (fun hc2 => ?_)
      · rw [if_pos hc2] at hf
        obtain rfl := Option.some.inj hf
        refine E.fewer (ls' := [none, none, some (.int x2_4_1), none]) ⟨Or.inl rfl, ⟨Or.inl rfl, ⟨Or.inr rfl, ⟨Or.inl rfl, trivial⟩⟩⟩⟩ ?_
        exact k9
      · rw [if_neg hc2] at hf
        refine E_iload_n (v := x2_4_1) dX11_digitsOf_15 rfl ?_
        refine E_aload_n (v := r0) dX11_digitsOf_16 rfl ?_
        refine E_iload_n (v := x3_4_1) dX11_digitsOf_17 rfl ?_
        obtain ⟨hi3, hf⟩ := gd_some hf
        refine E_iald (n := 6) dX11_digitsOf_18 hr0 (by decide) (inb_in hi3) ?_
        refine E_iconst 3 dX11_digitsOf_19 ic_3 ?_
        refine E_iload_n (v := x3_4_1) dX11_digitsOf_20 rfl ?_
        refine E_imul dX11_digitsOf_21 ?_
        refine E_ishl dX11_digitsOf_22 ?_
        refine E_ior dX11_digitsOf_23 ?_
        obtain ⟨v4, ev4, hf⟩ := lw_some hf
        try dsimp only at hf
        rw [← ev4]
        refine E_istore_n (ls' := [some (.ref r0), some (.int a1), some (.int v4), some (.int x3_4_1)]) dX11_digitsOf_24 rfl rfl rfl ?_
        refine E_iinc (ls' := [some (.ref r0), some (.int a1), some (.int v4), some (.int (x3_4_1 + 1))]) 1 dX11_digitsOf_25 rfl ic_1 rfl rfl rfl ?_
        refine E_goto 4 dX11_digitsOf_28 (by decide) ?_
        obtain rfl := Option.some.inj hf
        exact k9
  · skip
    obtain ⟨y6, hq9⟩ : ∃ a, a = q := ⟨_, rfl⟩
    subst hq9
    try dsimp only at hf
    show E (PC S) RX11 cX11_digitsOf 4 1 31 [none, none, some (.int y6), none] [] w Q
    refine E_iload_n (v := y6) dX11_digitsOf_31 rfl ?_
    obtain rfl := Option.some.inj hf
    exact E.done (by rw [eQ]; exact ⟨rfl, Or.inl ⟨_, _, rfl, rfl, dX11_digitsOf_32, rfl, rfl⟩⟩)
set_option maxRecDepth 10000 in
set_option maxHeartbeats 2000000 in
theorem MX11_best {N : Nat} {a0 : Int32} {w : AW} {rZ : Int32} {wZ : AW} (hf : fX11_best N a0 w = some (rZ, wZ)) : CallOK (PC S) yX11_best cX11_best 3 (some .int) 14 [.ref 0, .int a0] w (some (.int rZ)) wZ := by
  refine CallOK.of (ls := [some (.ref 0), some (.int a0), none]) (by decide) (by simp) rfl rfl ?_
  obtain ⟨Q, eQ⟩ : ∃ Q, Q = Qret cX11_best (some .int) (some (.int rZ)) wZ := ⟨_, rfl⟩
  rw [← eQ]
  unfold fX11_best at hf
  refine E_iload_n (v := a0) dX11_best_0 rfl ?_
  refine E_iconst 0 dX11_best_1 ic_0 ?_
  refine E_iconst 1 dX11_best_2 ic_1 ?_
  obtain ⟨r2, hc1, hf⟩ := bd_some hf
  try dsimp only at hf
  refine E_callSi (rest := []) cs_RX11_100 dX11_best_3 (MX11_within hc1) rfl rfl rfl (fun _ => Nat.le_of_ble_eq_true rfl) ?_
  refine E_if_ne 12 dX11_best_6 (by decide) (fun hc3 => ?_) (fun hc3 => ?_)
  · rw [if_pos hc3] at hf
    refine E_ldc (-2147483648) dX11_best_9 wk_RX11_207 ?_
    obtain ⟨rfl, rfl⟩ := ret2 hf
    exact E.done (by rw [eQ]; exact ⟨rfl, Or.inl ⟨_, _, rfl, rfl, dX11_best_11, rfl, rfl⟩⟩)
  · rw [if_neg hc3] at hf
    refine E_aload_n (v := 0) dX11_best_12 rfl ?_
    refine E_getR fg_RX11_43 dX11_best_13 sC_0 rfl rC_0_6 (Nat.succ_ne_zero _) ?_
    refine E_aload_n (v := 0) dX11_best_16 rfl ?_
    refine E_getR fg_RX11_10 dX11_best_17 sC_0 rfl rC_0_0 (Nat.succ_ne_zero _) ?_
    refine E_iconst 0 dX11_best_20 ic_0 ?_
    obtain ⟨w5, hc4, hf⟩ := bd_some hf
    try dsimp only at hf
    refine E_callVv (rest := []) (ci := 3) cv_RX11_208 dX11_best_21 (MX3_measure B_is1 hc4) rfl sC_46 rfl (by decide) rfl rfl (fun _ => Nat.le_of_ble_eq_true rfl) ?_
    refine E_aload_n (v := 0) dX11_best_24 rfl ?_
    refine E_getR fg_RX11_52 dX11_best_25 sC_0 rfl rC_0_7 (Nat.succ_ne_zero _) ?_
    refine E_aload_n (v := 0) dX11_best_28 rfl ?_
    refine E_getR fg_RX11_10 dX11_best_29 sC_0 rfl rC_0_0 (Nat.succ_ne_zero _) ?_
    refine E_getR fg_RX11_130 dX11_best_32 sC_1 rfl rC_1_0 (Nat.succ_ne_zero _) ?_
    refine E_bipush (-9) dX11_best_35 bp_m9 ?_
    obtain ⟨r7, w8, hc6, hf⟩ := bd2_some hf
    try dsimp only at hf
    refine E_callVi (rest := []) (ci := 5) cv_RX11_212 dX11_best_37 (MX5_mostWorth J_is2 hc6) rfl sC_49 rfl (by decide) rfl rfl (fun _ => Nat.le_of_ble_eq_true rfl) ?_
    refine E_istore_n (ls' := [some (.ref 0), some (.int a0), some (.int r7)]) dX11_best_40 rfl rfl rfl ?_
    refine E_iload_n (v := a0) dX11_best_41 rfl ?_
    refine E_if_ne 49 dX11_best_42 (by decide) (fun hc10 => ?_) (fun hc10 => ?_)
    · rw [if_pos hc10] at hf
      refine E_iload_n (v := r7) dX11_best_45 rfl ?_
      refine E_goto 69 dX11_best_46 (by decide) ?_
      obtain ⟨rfl, rfl⟩ := ret2 hf
      exact E.done (by rw [eQ]; exact ⟨rfl, Or.inl ⟨_, _, rfl, rfl, dX11_best_69, rfl, rfl⟩⟩)
    · rw [if_neg hc10] at hf
      refine E_aload_n (v := 0) dX11_best_49 rfl ?_
      refine E_getR fg_RX11_52 dX11_best_50 sC_0 rfl rC_0_7 (Nat.succ_ne_zero _) ?_
      refine E_getR fg_RX11_216 dX11_best_53 sC_49 rfl rC_49_2 (Nat.succ_ne_zero _) ?_
      refine E_aload_n (v := 0) dX11_best_56 rfl ?_
      refine E_getR fg_RX11_10 dX11_best_57 sC_0 rfl rC_0_0 (Nat.succ_ne_zero _) ?_
      refine E_getR fg_RX11_130 dX11_best_60 sC_1 rfl rC_1_0 (Nat.succ_ne_zero _) ?_
      refine E_getI fg_RX11_131 dX11_best_63 sC_2 rfl ?_
      obtain ⟨r12, hc11, hf⟩ := bd_some hf
      try dsimp only at hf
      refine E_callSi (rest := []) cs_RX11_219 dX11_best_66 (MX11_digitsOf sC_51 hc11) rfl rfl rfl (fun _ => Nat.le_of_ble_eq_true rfl) ?_
      obtain ⟨rfl, rfl⟩ := ret2 hf
      exact E.done (by rw [eQ]; exact ⟨rfl, Or.inl ⟨_, _, rfl, rfl, dX11_best_69, rfl, rfl⟩⟩)
set_option maxRecDepth 10000 in
set_option maxHeartbeats 2000000 in
theorem MX4_remove {N : Nat} {o : Nat} {a0 : Int32} {w : AW} {wZ : AW} (ho : isJ o) (hf : fX4_remove N o a0 w = some wZ) : CallOK (PC S) yX4_remove cX4_remove 3 none 2 [.ref o, .int a0] w none wZ := by
  refine CallOK.of (ls := [some (.ref o), some (.int a0), none]) (by decide) (by simp) rfl rfl ?_
  obtain ⟨Q, eQ⟩ : ∃ Q, Q = Qret cX4_remove none none wZ := ⟨_, rfl⟩
  rw [← eQ]
  unfold fX4_remove at hf
  refine E_aload_n (v := o) dX4_remove_0 rfl ?_
  refine E_iload_n (v := a0) dX4_remove_1 rfl ?_
  obtain ⟨r2, hc1, hf⟩ := bd_some hf
  try dsimp only at hf
  refine E_callVi (rest := []) (ci := 4) cv_RX4_31 dX4_remove_2 (MX4_has ho hc1) rfl (J_s0 ho) rfl (by decide) rfl rfl (fun _ => Nat.le_of_ble_eq_true rfl) ?_
  refine E_if_ne 9 dX4_remove_5 (by decide) (fun hc3 => ?_) (fun hc3 => ?_)
  · rw [if_pos hc3] at hf
    obtain rfl := Option.some.inj hf
    exact E.done (by rw [eQ]; exact ⟨rfl, Or.inr ⟨rfl, rfl, dX4_remove_8, rfl⟩⟩)
  · rw [if_neg hc3] at hf
    refine E_iload_n (v := a0) dX4_remove_9 rfl ?_
    refine E_istore_n (ls' := [some (.ref o), some (.int a0), some (.int a0)]) dX4_remove_10 rfl rfl rfl ?_
    obtain ⟨q, hw12, hf⟩ := bd_some hf
    try dsimp only at hf
    refine E.fewer (ls' := [some (.ref o), none, some (.int a0)]) ⟨Or.inr rfl, ⟨Or.inl rfl, ⟨Or.inr rfl, trivial⟩⟩⟩ ?_
    show (fun (s : Int32 × AW) => E (PC S) RX4 cX4_remove 3 2 11 [some (.ref o), none, some (.int s.1)] [] s.2 Q) (a0, w)
    refine wh_E (K := (fun (s : Int32 × AW) => E (PC S) RX4 cX4_remove 3 2 11 [some (.ref o), none, some (.int s.1)] [] s.2 Q)) (X := (fun (s : AW) => E (PC S) RX4 cX4_remove 3 2 97 [some (.ref o), none, none] [] s Q)) ?_ hw12 ?_
    · intro s9 z9 hf k9
      obtain ⟨x2_11_1, w_11_1⟩ := s9
      dsimp only [lbX4_remove_11_1] at hf
      show E (PC S) RX4 cX4_remove 3 2 11 [some (.ref o), none, some (.int x2_11_1)] [] w_11_1 Q
      refine E_iload_n (v := x2_11_1) dX4_remove_11 rfl ?_
      refine E_iconst 1 dX4_remove_12 ic_1 ?_
      refine E_iadd dX4_remove_13 ?_
      refine E_aload_n (v := o) dX4_remove_14 rfl ?_
      refine E_getI fg_RX4_9 dX4_remove_15 (J_s0 ho) rfl ?_
      refine E_icmp_ge 97 dX4_remove_18 (by decide) (fun hc4 => ?_) (fun hc4 => ?_)
      · rw [if_pos hc4] at hf
        obtain rfl := Option.some.inj hf
        refine E.fewer (ls' := [some (.ref o), none, none]) ⟨Or.inr rfl, ⟨Or.inl rfl, ⟨Or.inl rfl, trivial⟩⟩⟩ ?_
        exact k9
      · rw [if_neg hc4] at hf
        refine E_aload_n (v := o) dX4_remove_21 rfl ?_
        refine E_getR fg_RX4_15 dX4_remove_22 (J_s0 ho) rfl (J_r0_1 ho) (Nat.succ_ne_zero _) ?_
        refine E_iload_n (v := x2_11_1) dX4_remove_25 rfl ?_
        refine E_aload_n (v := o) dX4_remove_26 rfl ?_
        refine E_getR fg_RX4_15 dX4_remove_27 (J_s0 ho) rfl (J_r0_1 ho) (Nat.succ_ne_zero _) ?_
        refine E_iload_n (v := x2_11_1) dX4_remove_30 rfl ?_
        refine E_iconst 1 dX4_remove_31 ic_1 ?_
        refine E_iadd dX4_remove_32 ?_
        obtain ⟨hi5, hf⟩ := gd_some hf
        refine E_iald (n := 6) dX4_remove_33 (J_s1 ho) (by decide) (inb_in hi5) ?_
        obtain ⟨hi6, hf⟩ := gd_some hf
        obtain ⟨w7, ew7, hf⟩ := lw_some hf
        try dsimp only at hf
        refine E_iast (n := 6) dX4_remove_34 (J_s1 ho) (by decide) (inb_in hi6) ?_
        rw [← ew7]
        refine E_aload_n (v := o) dX4_remove_35 rfl ?_
        refine E_getR fg_RX4_19 dX4_remove_36 (J_s0 ho) rfl (J_r0_2 ho) (Nat.succ_ne_zero _) ?_
        refine E_iload_n (v := x2_11_1) dX4_remove_39 rfl ?_
        refine E_aload_n (v := o) dX4_remove_40 rfl ?_
        refine E_getR fg_RX4_19 dX4_remove_41 (J_s0 ho) rfl (J_r0_2 ho) (Nat.succ_ne_zero _) ?_
        refine E_iload_n (v := x2_11_1) dX4_remove_44 rfl ?_
        refine E_iconst 1 dX4_remove_45 ic_1 ?_
        refine E_iadd dX4_remove_46 ?_
        refine E_iald (n := 6) dX4_remove_47 (J_s2 ho) (by decide) (inb_in hi5) ?_
        obtain ⟨w8, ew8, hf⟩ := lw_some hf
        try dsimp only at hf
        refine E_iast (n := 6) dX4_remove_48 (J_s2 ho) (by decide) (inb_in hi6) ?_
        rw [← ew8]
        refine E_aload_n (v := o) dX4_remove_49 rfl ?_
        refine E_getR fg_RX4_22 dX4_remove_50 (J_s0 ho) rfl (J_r0_3 ho) (Nat.succ_ne_zero _) ?_
        refine E_iload_n (v := x2_11_1) dX4_remove_53 rfl ?_
        refine E_aload_n (v := o) dX4_remove_54 rfl ?_
        refine E_getR fg_RX4_22 dX4_remove_55 (J_s0 ho) rfl (J_r0_3 ho) (Nat.succ_ne_zero _) ?_
        refine E_iload_n (v := x2_11_1) dX4_remove_58 rfl ?_
        refine E_iconst 1 dX4_remove_59 ic_1 ?_
        refine E_iadd dX4_remove_60 ?_
        refine E_iald (n := 6) dX4_remove_61 (J_s3 ho) (by decide) (inb_in hi5) ?_
        obtain ⟨w9, ew9, hf⟩ := lw_some hf
        try dsimp only at hf
        refine E_iast (n := 6) dX4_remove_62 (J_s3 ho) (by decide) (inb_in hi6) ?_
        rw [← ew9]
        refine E_aload_n (v := o) dX4_remove_63 rfl ?_
        refine E_getR fg_RX4_25 dX4_remove_64 (J_s0 ho) rfl (J_r0_4 ho) (Nat.succ_ne_zero _) ?_
        refine E_iload_n (v := x2_11_1) dX4_remove_67 rfl ?_
        refine E_aload_n (v := o) dX4_remove_68 rfl ?_
        refine E_getR fg_RX4_25 dX4_remove_69 (J_s0 ho) rfl (J_r0_4 ho) (Nat.succ_ne_zero _) ?_
        refine E_iload_n (v := x2_11_1) dX4_remove_72 rfl ?_
        refine E_iconst 1 dX4_remove_73 ic_1 ?_
        refine E_iadd dX4_remove_74 ?_
        refine E_iald (n := 6) dX4_remove_75 (J_s4 ho) (by decide) (inb_in hi5) ?_
        obtain ⟨w10, ew10, hf⟩ := lw_some hf
        try dsimp only at hf
        refine E_iast (n := 6) dX4_remove_76 (J_s4 ho) (by decide) (inb_in hi6) ?_
        rw [← ew10]
        refine E_aload_n (v := o) dX4_remove_77 rfl ?_
        refine E_getR fg_RX4_28 dX4_remove_78 (J_s0 ho) rfl (J_r0_5 ho) (Nat.succ_ne_zero _) ?_
        refine E_iload_n (v := x2_11_1) dX4_remove_81 rfl ?_
        refine E_aload_n (v := o) dX4_remove_82 rfl ?_
        refine E_getR fg_RX4_28 dX4_remove_83 (J_s0 ho) rfl (J_r0_5 ho) (Nat.succ_ne_zero _) ?_
        refine E_iload_n (v := x2_11_1) dX4_remove_86 rfl ?_
        refine E_iconst 1 dX4_remove_87 ic_1 ?_
        refine E_iadd dX4_remove_88 ?_
        refine E_iald (n := 6) dX4_remove_89 (J_s5 ho) (by decide) (inb_in hi5) ?_
        obtain ⟨w11, ew11, hf⟩ := lw_some hf
        try dsimp only at hf
        refine E_iast (n := 6) dX4_remove_90 (J_s5 ho) (by decide) (inb_in hi6) ?_
        rw [← ew11]
        refine E_iinc (ls' := [some (.ref o), none, some (.int (x2_11_1 + 1))]) 1 dX4_remove_91 rfl ic_1 rfl rfl rfl ?_
        refine E_goto 11 dX4_remove_94 (by decide) ?_
        obtain rfl := Option.some.inj hf
        exact k9
    · skip
      obtain ⟨w13, hq9⟩ : ∃ a, a = q := ⟨_, rfl⟩
      subst hq9
      try dsimp only at hf
      show E (PC S) RX4 cX4_remove 3 2 97 [some (.ref o), none, none] [] w13 Q
      refine E_aload_n (v := o) dX4_remove_97 rfl ?_
      refine E_dup_r dX4_remove_98 ?_
      refine E_getI fg_RX4_9 dX4_remove_99 (J_s0 ho) rfl ?_
      refine E_iconst 1 dX4_remove_102 ic_1 ?_
      refine E_isub dX4_remove_103 ?_
      obtain ⟨w14, ew14, hf⟩ := lw_some hf
      try dsimp only at hf
      refine E_putI fp_RX4_9 dX4_remove_104 (J_s0 ho) rfl rfl rfl ?_
      rw [← ew14]
      obtain rfl := Option.some.inj hf
      exact E.done (by rw [eQ]; exact ⟨rfl, Or.inr ⟨rfl, rfl, dX4_remove_107, rfl⟩⟩)
