set_option maxRecDepth 10000 in
set_option maxHeartbeats 2000000 in
theorem BL_law1_813 (N : Nat) (S : SC) (k : Int32 → Int32 → AW → Option (Int32 × AW)) (p6_813 : Int32) (p22_813 : Int32) (p23_813 : Int32) (q0_813 : Int32) (q1_813 : Int32) (w : AW) (rZ : Int32) (wZ : AW) {Q : Nat → List (Option Value) → List Value → AW → Prop} (eQ : Q = QL k rZ wZ) (hf : bL_law1_813 N S k p6_813 p22_813 p23_813 q0_813 q1_813 w = some (rZ, wZ)) : E (PC S) RL cL_law 33 2000 813 [some (.retAddr 3), some (.ref 0), some (.ref 76), none, none, some (.ref 79), some (.int p6_813), none, none, none, none, none, none, none, none, none, none, none, none, none, none, none, some (.int p22_813), some (.int p23_813), none, none, none, none, none, none, none, none, none] [.int q0_813, .int q1_813] w Q := by
  unfold bL_law1_813 at hf
  refine E_icmp_ne 864 dL_law_813 (by decide) (fun hc193 => ?_) (fun hc193 => ?_)
  · rw [if_pos hc193] at hf
    refine E_iload (v := p22_813) dL_law_816 rfl ?_
    refine E_if_lt 866 dL_law_818 (by decide) (fun hc194 => ?_) (fun hc194 => ?_)
    · rw [if_pos hc194] at hf
      refine E_aload_n (v := 0) dL_law_866 rfl ?_
      obtain ⟨r196, w197, hc195, hf⟩ := bd2_some hf
      try dsimp only at hf
      refine E_callVi (rest := []) (ci := 11) cv_RL_71 dL_law_867 (MX11_late hc195) rfl sC_0 rfl (by decide) rfl rfl (fun _ => Nat.le_of_ble_eq_true rfl) ?_
      refine E_istore (ls' := [some (.retAddr 3), some (.ref 0), some (.ref 76), none, none, some (.ref 79), some (.int p6_813), none, none, none, none, none, none, none, none, none, none, none, none, none, none, none, some (.int p22_813), some (.int p23_813), some (.int r196), none, none, none, none, none, none, none, none]) dL_law_870 rfl rfl rfl ?_
      refine E.fewer (ls' := [some (.retAddr 3), some (.ref 0), none, none, none, some (.ref 79), some (.int p6_813), none, none, none, none, none, none, none, none, none, none, none, none, none, none, none, none, none, some (.int r196), none, none, none, none, none, none, none, none]) ⟨Or.inr rfl, ⟨Or.inr rfl, ⟨Or.inl rfl, ⟨Or.inl rfl, ⟨Or.inl rfl, ⟨Or.inr rfl, ⟨Or.inr rfl, ⟨Or.inl rfl, ⟨Or.inl rfl, ⟨Or.inl rfl, ⟨Or.inl rfl, ⟨Or.inl rfl, ⟨Or.inl rfl, ⟨Or.inl rfl, ⟨Or.inl rfl, ⟨Or.inl rfl, ⟨Or.inl rfl, ⟨Or.inl rfl, ⟨Or.inl rfl, ⟨Or.inl rfl, ⟨Or.inl rfl, ⟨Or.inl rfl, ⟨Or.inl rfl, ⟨Or.inl rfl, ⟨Or.inr rfl, ⟨Or.inl rfl, ⟨Or.inl rfl, ⟨Or.inl rfl, ⟨Or.inl rfl, ⟨Or.inl rfl, ⟨Or.inl rfl, ⟨Or.inl rfl, ⟨Or.inl rfl, trivial⟩⟩⟩⟩⟩⟩⟩⟩⟩⟩⟩⟩⟩⟩⟩⟩⟩⟩⟩⟩⟩⟩⟩⟩⟩⟩⟩⟩⟩⟩⟩⟩⟩ ?_
      exact E.done (by rw [eQ]; exact Or.inr ⟨rfl, rfl, p6_813, r196, rfl, hf⟩)
    · rw [if_neg hc194] at hf
      refine E_aload_n (v := 0) dL_law_821 rfl ?_
      refine E_iload (v := p22_813) dL_law_822 rfl ?_
      obtain ⟨r200, w201, hc199, hf⟩ := bd2_some hf
      try dsimp only at hf
      refine E_callVi (rest := []) (ci := 11) cv_RL_99 dL_law_824 (MX11_drop hc199) rfl sC_0 rfl (by decide) rfl rfl (fun _ => Nat.le_of_ble_eq_true rfl) ?_
      refine E_iload (v := p6_813) dL_law_827 rfl ?_
      refine E_iconst 1 dL_law_829 ic_1 ?_
      refine E_isub dL_law_830 ?_
      refine E_icmp_ne 864 dL_law_831 (by decide) (fun hc203 => ?_) (fun hc203 => ?_)
      · rw [if_pos hc203] at hf
        refine E_aload_n (v := 0) dL_law_834 rfl ?_
        refine E_iconst 0 dL_law_835 ic_0 ?_
        obtain ⟨r205, w206, hc204, hf⟩ := bd2_some hf
        try dsimp only at hf
        refine E_callVi (rest := []) (ci := 11) cv_RL_48 dL_law_836 (MX11_best hc204) rfl sC_0 rfl (by decide) rfl rfl (fun _ => Nat.le_of_ble_eq_true rfl) ?_
        refine E_aload_n (v := 76) dL_law_839 rfl ?_
        refine E_iconst 5 dL_law_840 ic_5 ?_
        refine E_iload (v := p22_813) dL_law_841 rfl ?_
        refine E_imul dL_law_843 ?_
        refine E_iconst 4 dL_law_844 ic_4 ?_
        refine E_iadd dL_law_845 ?_
        obtain ⟨hi208, hf⟩ := gd_some hf
        refine E_iald (n := 30) dL_law_846 sC_76 (by decide) (inb_in hi208) ?_
        refine E_iconst 2 dL_law_847 ic_2 ?_
        refine E_idiv dL_law_848 (by decide) ?_
        refine E_iadd dL_law_849 ?_
        refine E_iload (v := p23_813) dL_law_850 rfl ?_
        refine E_icmp_ne 864 dL_law_852 (by decide) (fun hc209 => ?_) (fun hc209 => ?_)
        · rw [if_pos hc209] at hf
          refine E_aload_n (v := 0) dL_law_855 rfl ?_
          obtain ⟨r211, w212, hc210, hf⟩ := bd2_some hf
          try dsimp only at hf
          refine E_callVi (rest := []) (ci := 11) cv_RL_102 dL_law_856 (MX11_again hc210) rfl sC_0 rfl (by decide) rfl rfl (fun _ => Nat.le_of_ble_eq_true rfl) ?_
          refine E_iload (v := p6_813) dL_law_859 rfl ?_
          refine E_icmp_eq 866 dL_law_861 (by decide) (fun hc214 => ?_) (fun hc214 => ?_)
          · rw [if_pos hc214] at hf
            refine E_aload_n (v := 0) dL_law_866 rfl ?_
            obtain ⟨r216, w217, hc215, hf⟩ := bd2_some hf
            try dsimp only at hf
            refine E_callVi (rest := []) (ci := 11) cv_RL_71 dL_law_867 (MX11_late hc215) rfl sC_0 rfl (by decide) rfl rfl (fun _ => Nat.le_of_ble_eq_true rfl) ?_
            refine E_istore (ls' := [some (.retAddr 3), some (.ref 0), some (.ref 76), none, none, some (.ref 79), some (.int p6_813), none, none, none, none, none, none, none, none, none, none, none, none, none, none, none, some (.int p22_813), some (.int p23_813), some (.int r216), none, none, none, none, none, none, none, none]) dL_law_870 rfl rfl rfl ?_
            refine E.fewer (ls' := [some (.retAddr 3), some (.ref 0), none, none, none, some (.ref 79), some (.int p6_813), none, none, none, none, none, none, none, none, none, none, none, none, none, none, none, none, none, some (.int r216), none, none, none, none, none, none, none, none]) ⟨Or.inr rfl, ⟨Or.inr rfl, ⟨Or.inl rfl, ⟨Or.inl rfl, ⟨Or.inl rfl, ⟨Or.inr rfl, ⟨Or.inr rfl, ⟨Or.inl rfl, ⟨Or.inl rfl, ⟨Or.inl rfl, ⟨Or.inl rfl, ⟨Or.inl rfl, ⟨Or.inl rfl, ⟨Or.inl rfl, ⟨Or.inl rfl, ⟨Or.inl rfl, ⟨Or.inl rfl, ⟨Or.inl rfl, ⟨Or.inl rfl, ⟨Or.inl rfl, ⟨Or.inl rfl, ⟨Or.inl rfl, ⟨Or.inl rfl, ⟨Or.inl rfl, ⟨Or.inr rfl, ⟨Or.inl rfl, ⟨Or.inl rfl, ⟨Or.inl rfl, ⟨Or.inl rfl, ⟨Or.inl rfl, ⟨Or.inl rfl, ⟨Or.inl rfl, ⟨Or.inl rfl, trivial⟩⟩⟩⟩⟩⟩⟩⟩⟩⟩⟩⟩⟩⟩⟩⟩⟩⟩⟩⟩⟩⟩⟩⟩⟩⟩⟩⟩⟩⟩⟩⟩⟩ ?_
            exact E.done (by rw [eQ]; exact Or.inr ⟨rfl, rfl, p6_813, r216, rfl, hf⟩)
          · rw [if_neg hc214] at hf
            refine E_iconst 0 dL_law_864 ic_0 ?_
            obtain ⟨rfl, rfl⟩ := ret2 hf
            exact E.done (by rw [eQ]; exact (Or.inl (⟨rfl, Or.inl ⟨_, _, rfl, rfl, dL_law_865, rfl, rfl⟩⟩)))
        · rw [if_neg hc209] at hf
          refine E_iconst 0 dL_law_864 ic_0 ?_
          obtain ⟨rfl, rfl⟩ := ret2 hf
          exact E.done (by rw [eQ]; exact (Or.inl (⟨rfl, Or.inl ⟨_, _, rfl, rfl, dL_law_865, rfl, rfl⟩⟩)))
      · rw [if_neg hc203] at hf
        refine E_iconst 0 dL_law_864 ic_0 ?_
        obtain ⟨rfl, rfl⟩ := ret2 hf
        exact E.done (by rw [eQ]; exact (Or.inl (⟨rfl, Or.inl ⟨_, _, rfl, rfl, dL_law_865, rfl, rfl⟩⟩)))
  · rw [if_neg hc193] at hf
    refine E_iconst 0 dL_law_864 ic_0 ?_
    obtain ⟨rfl, rfl⟩ := ret2 hf
    exact E.done (by rw [eQ]; exact (Or.inl (⟨rfl, Or.inl ⟨_, _, rfl, rfl, dL_law_865, rfl, rfl⟩⟩)))
set_option maxRecDepth 10000 in
set_option maxHeartbeats 2000000 in
theorem BL_law1_801 (N : Nat) (S : SC) (k : Int32 → Int32 → AW → Option (Int32 × AW)) (p6_801 : Int32) (p8_801 : Int32) (p22_801 : Int32) (p23_801 : Int32) (q0_801 : Int32) (w : AW) (rZ : Int32) (wZ : AW) {Q : Nat → List (Option Value) → List Value → AW → Prop} (eQ : Q = QL k rZ wZ) (hf : bL_law1_801 N S k p6_801 p8_801 p22_801 p23_801 q0_801 w = some (rZ, wZ)) : E (PC S) RL cL_law 33 2000 801 [some (.retAddr 3), some (.ref 0), some (.ref 76), none, none, some (.ref 79), some (.int p6_801), none, some (.int p8_801), none, none, none, none, none, none, none, none, none, none, none, none, none, some (.int p22_801), some (.int p23_801), none, none, none, none, none, none, none, none, none] [.int q0_801] w Q := by
  unfold bL_law1_801 at hf
  refine E_iload (v := p23_801) dL_law_801 rfl ?_
  refine E_iload (v := p8_801) dL_law_803 rfl ?_
  refine E_icmp_ne 812 dL_law_805 (by decide) (fun hc192 => ?_) (fun hc192 => ?_)
  · rw [if_pos hc192] at hf
    refine E_iconst 1 dL_law_808 ic_1 ?_
    refine E_goto 813 dL_law_809 (by decide) ?_
    refine E.fewer (ls' := [some (.retAddr 3), some (.ref 0), some (.ref 76), none, none, some (.ref 79), some (.int p6_801), none, none, none, none, none, none, none, none, none, none, none, none, none, none, none, some (.int p22_801), some (.int p23_801), none, none, none, none, none, none, none, none, none]) ⟨Or.inr rfl, ⟨Or.inr rfl, ⟨Or.inr rfl, ⟨Or.inl rfl, ⟨Or.inl rfl, ⟨Or.inr rfl, ⟨Or.inr rfl, ⟨Or.inl rfl, ⟨Or.inl rfl, ⟨Or.inl rfl, ⟨Or.inl rfl, ⟨Or.inl rfl, ⟨Or.inl rfl, ⟨Or.inl rfl, ⟨Or.inl rfl, ⟨Or.inl rfl, ⟨Or.inl rfl, ⟨Or.inl rfl, ⟨Or.inl rfl, ⟨Or.inl rfl, ⟨Or.inl rfl, ⟨Or.inl rfl, ⟨Or.inr rfl, ⟨Or.inr rfl, ⟨Or.inl rfl, ⟨Or.inl rfl, ⟨Or.inl rfl, ⟨Or.inl rfl, ⟨Or.inl rfl, ⟨Or.inl rfl, ⟨Or.inl rfl, ⟨Or.inl rfl, ⟨Or.inl rfl, trivial⟩⟩⟩⟩⟩⟩⟩⟩⟩⟩⟩⟩⟩⟩⟩⟩⟩⟩⟩⟩⟩⟩⟩⟩⟩⟩⟩⟩⟩⟩⟩⟩⟩ ?_
    exact BL_law1_813 N S k p6_801 p22_801 p23_801 1 q0_801 w  rZ wZ eQ hf
  · rw [if_neg hc192] at hf
    refine E_iconst 0 dL_law_812 ic_0 ?_
    refine E.fewer (ls' := [some (.retAddr 3), some (.ref 0), some (.ref 76), none, none, some (.ref 79), some (.int p6_801), none, none, none, none, none, none, none, none, none, none, none, none, none, none, none, some (.int p22_801), some (.int p23_801), none, none, none, none, none, none, none, none, none]) ⟨Or.inr rfl, ⟨Or.inr rfl, ⟨Or.inr rfl, ⟨Or.inl rfl, ⟨Or.inl rfl, ⟨Or.inr rfl, ⟨Or.inr rfl, ⟨Or.inl rfl, ⟨Or.inl rfl, ⟨Or.inl rfl, ⟨Or.inl rfl, ⟨Or.inl rfl, ⟨Or.inl rfl, ⟨Or.inl rfl, ⟨Or.inl rfl, ⟨Or.inl rfl, ⟨Or.inl rfl, ⟨Or.inl rfl, ⟨Or.inl rfl, ⟨Or.inl rfl, ⟨Or.inl rfl, ⟨Or.inl rfl, ⟨Or.inr rfl, ⟨Or.inr rfl, ⟨Or.inl rfl, ⟨Or.inl rfl, ⟨Or.inl rfl, ⟨Or.inl rfl, ⟨Or.inl rfl, ⟨Or.inl rfl, ⟨Or.inl rfl, ⟨Or.inl rfl, ⟨Or.inl rfl, trivial⟩⟩⟩⟩⟩⟩⟩⟩⟩⟩⟩⟩⟩⟩⟩⟩⟩⟩⟩⟩⟩⟩⟩⟩⟩⟩⟩⟩⟩⟩⟩⟩⟩ ?_
    exact BL_law1_813 N S k p6_801 p22_801 p23_801 0 q0_801 w  rZ wZ eQ hf
set_option maxRecDepth 10000 in
set_option maxHeartbeats 2000000 in
theorem BL_law1_711 (N : Nat) (S : SC) (k : Int32 → Int32 → AW → Option (Int32 × AW)) (p6_711 : Int32) (p8_711 : Int32) (p17_711 : Int32) (p18_711 : Int32) (p19_711 : Int32) (p21_711 : Int32) (w : AW) (rZ : Int32) (wZ : AW) {Q : Nat → List (Option Value) → List Value → AW → Prop} (eQ : Q = QL k rZ wZ) (hf : bL_law1_711 N S k p6_711 p8_711 p17_711 p18_711 p19_711 p21_711 w = some (rZ, wZ)) : E (PC S) RL cL_law 33 2000 711 [some (.retAddr 3), some (.ref 0), some (.ref 76), none, none, some (.ref 79), some (.int p6_711), none, some (.int p8_711), none, none, none, none, none, none, none, none, some (.int p17_711), some (.int p18_711), some (.int p19_711), none, some (.int p21_711), none, none, none, none, none, none, none, none, none, none, none] [] w Q := by
  unfold bL_law1_711 at hf
  refine E_aload_n (v := 0) dL_law_711 rfl ?_
  refine E_iconst 0 dL_law_712 ic_0 ?_
  refine E_iload (v := p18_711) dL_law_713 rfl ?_
  refine E_iload (v := p17_711) dL_law_715 rfl ?_
  refine E_bipush 11 dL_law_717 bp_11 ?_
  refine E_ishr dL_law_719 ?_
  refine E_iconst 1 dL_law_720 ic_1 ?_
  refine E_iand dL_law_721 ?_
  refine E_bipush 60 dL_law_722 bp_60 ?_
  refine E_iload (v := p19_711) dL_law_724 rfl ?_
  obtain ⟨r163, w164, hc162, hf⟩ := bd2_some hf
  try dsimp only at hf
  refine E_callVi (rest := []) (ci := 11) cv_RL_36 dL_law_726 (MX11_job hc162) rfl sC_0 rfl (by decide) rfl rfl (fun _ => Nat.le_of_ble_eq_true rfl) ?_
  refine E_iload (v := p6_711) dL_law_729 rfl ?_
  refine E_icmp_ne 766 dL_law_731 (by decide) (fun hc166 => ?_) (fun hc166 => ?_)
  · rw [if_pos hc166] at hf
    refine E_aload_n (v := 0) dL_law_734 rfl ?_
    refine E_iconst 0 dL_law_735 ic_0 ?_
    obtain ⟨r168, w169, hc167, hf⟩ := bd2_some hf
    try dsimp only at hf
    refine E_callVi (rest := []) (ci := 11) cv_RL_48 dL_law_736 (MX11_best hc167) rfl sC_0 rfl (by decide) rfl rfl (fun _ => Nat.le_of_ble_eq_true rfl) ?_
    refine E_iload (v := p8_711) dL_law_739 rfl ?_
    refine E_iload (v := p21_711) dL_law_741 rfl ?_
    refine E_iadd dL_law_743 ?_
    refine E_icmp_ne 766 dL_law_744 (by decide) (fun hc171 => ?_) (fun hc171 => ?_)
    · rw [if_pos hc171] at hf
      refine E_aload_n (v := 0) dL_law_747 rfl ?_
      obtain ⟨r173, w174, hc172, hf⟩ := bd2_some hf
      try dsimp only at hf
      refine E_callVi (rest := []) (ci := 11) cv_RL_102 dL_law_748 (MX11_again hc172) rfl sC_0 rfl (by decide) rfl rfl (fun _ => Nat.le_of_ble_eq_true rfl) ?_
      refine E_iload (v := p6_711) dL_law_751 rfl ?_
      refine E_icmp_ne 766 dL_law_753 (by decide) (fun hc176 => ?_) (fun hc176 => ?_)
      · rw [if_pos hc176] at hf
        refine E_aload_n (v := 0) dL_law_756 rfl ?_
        refine E_iconst 0 dL_law_757 ic_0 ?_
        obtain ⟨r178, w179, hc177, hf⟩ := bd2_some hf
        try dsimp only at hf
        refine E_callVi (rest := []) (ci := 11) cv_RL_48 dL_law_758 (MX11_best hc177) rfl sC_0 rfl (by decide) rfl rfl (fun _ => Nat.le_of_ble_eq_true rfl) ?_
        refine E_iload (v := p8_711) dL_law_761 rfl ?_
        refine E_icmp_eq 768 dL_law_763 (by decide) (fun hc181 => ?_) (fun hc181 => ?_)
        · rw [if_pos hc181] at hf
          refine E_aload_n (v := 0) dL_law_768 rfl ?_
          refine E_iconst 0 dL_law_769 ic_0 ?_
          obtain ⟨r183, w184, hc182, hf⟩ := bd2_some hf
          try dsimp only at hf
          refine E_callVi (rest := []) (ci := 11) cv_RL_105 dL_law_770 (MX11_across hc182) rfl sC_0 rfl (by decide) rfl rfl (fun _ => Nat.le_of_ble_eq_true rfl) ?_
          refine E_istore (ls' := [some (.retAddr 3), some (.ref 0), some (.ref 76), none, none, some (.ref 79), some (.int p6_711), none, some (.int p8_711), none, none, none, none, none, none, none, none, some (.int p17_711), some (.int p18_711), some (.int p19_711), none, some (.int p21_711), some (.int r183), none, none, none, none, none, none, none, none, none, none]) dL_law_773 rfl rfl rfl ?_
          refine E_aload_n (v := 0) dL_law_775 rfl ?_
          refine E_iconst 1 dL_law_776 ic_1 ?_
          obtain ⟨r187, w188, hc186, hf⟩ := bd2_some hf
          try dsimp only at hf
          refine E_callVi (rest := []) (ci := 11) cv_RL_105 dL_law_777 (MX11_across hc186) rfl sC_0 rfl (by decide) rfl rfl (fun _ => Nat.le_of_ble_eq_true rfl) ?_
          refine E_istore (ls' := [some (.retAddr 3), some (.ref 0), some (.ref 76), none, none, some (.ref 79), some (.int p6_711), none, some (.int p8_711), none, none, none, none, none, none, none, none, some (.int p17_711), some (.int p18_711), some (.int p19_711), none, some (.int p21_711), some (.int r183), some (.int r187), none, none, none, none, none, none, none, none, none]) dL_law_780 rfl rfl rfl ?_
          refine E_iload (v := r187) dL_law_782 rfl ?_
          refine E_iload (v := p8_711) dL_law_784 rfl ?_
          refine E_icmp_lt 864 dL_law_786 (by decide) (fun hc190 => ?_) (fun hc190 => ?_)
          · rw [if_pos hc190] at hf
            refine E_iconst 0 dL_law_864 ic_0 ?_
            obtain ⟨rfl, rfl⟩ := ret2 hf
            exact E.done (by rw [eQ]; exact (Or.inl (⟨rfl, Or.inl ⟨_, _, rfl, rfl, dL_law_865, rfl, rfl⟩⟩)))
          · rw [if_neg hc190] at hf
            refine E_iload (v := r183) dL_law_789 rfl ?_
            refine E_bipush (-9) dL_law_791 bp_m9 ?_
            refine E_icmp_ne 800 dL_law_793 (by decide) (fun hc191 => ?_) (fun hc191 => ?_)
            · rw [if_pos hc191] at hf
              refine E_iconst 1 dL_law_796 ic_1 ?_
              refine E_goto 801 dL_law_797 (by decide) ?_
              refine E.fewer (ls' := [some (.retAddr 3), some (.ref 0), some (.ref 76), none, none, some (.ref 79), some (.int p6_711), none, some (.int p8_711), none, none, none, none, none, none, none, none, none, none, none, none, none, some (.int r183), some (.int r187), none, none, none, none, none, none, none, none, none]) ⟨Or.inr rfl, ⟨Or.inr rfl, ⟨Or.inr rfl, ⟨Or.inl rfl, ⟨Or.inl rfl, ⟨Or.inr rfl, ⟨Or.inr rfl, ⟨Or.inl rfl, ⟨Or.inr rfl, ⟨Or.inl rfl, ⟨Or.inl rfl, ⟨Or.inl rfl, ⟨Or.inl rfl, ⟨Or.inl rfl, ⟨Or.inl rfl, ⟨Or.inl rfl, ⟨Or.inl rfl, ⟨Or.inl rfl, ⟨Or.inl rfl, ⟨Or.inl rfl, ⟨Or.inl rfl, ⟨Or.inl rfl, ⟨Or.inr rfl, ⟨Or.inr rfl, ⟨Or.inl rfl, ⟨Or.inl rfl, ⟨Or.inl rfl, ⟨Or.inl rfl, ⟨Or.inl rfl, ⟨Or.inl rfl, ⟨Or.inl rfl, ⟨Or.inl rfl, ⟨Or.inl rfl, trivial⟩⟩⟩⟩⟩⟩⟩⟩⟩⟩⟩⟩⟩⟩⟩⟩⟩⟩⟩⟩⟩⟩⟩⟩⟩⟩⟩⟩⟩⟩⟩⟩⟩ ?_
              exact BL_law1_801 N S k p6_711 p8_711 r183 r187 1 w188  rZ wZ eQ hf
            · rw [if_neg hc191] at hf
              refine E_iconst 0 dL_law_800 ic_0 ?_
              refine E.fewer (ls' := [some (.retAddr 3), some (.ref 0), some (.ref 76), none, none, some (.ref 79), some (.int p6_711), none, some (.int p8_711), none, none, none, none, none, none, none, none, none, none, none, none, none, some (.int r183), some (.int r187), none, none, none, none, none, none, none, none, none]) ⟨Or.inr rfl, ⟨Or.inr rfl, ⟨Or.inr rfl, ⟨Or.inl rfl, ⟨Or.inl rfl, ⟨Or.inr rfl, ⟨Or.inr rfl, ⟨Or.inl rfl, ⟨Or.inr rfl, ⟨Or.inl rfl, ⟨Or.inl rfl, ⟨Or.inl rfl, ⟨Or.inl rfl, ⟨Or.inl rfl, ⟨Or.inl rfl, ⟨Or.inl rfl, ⟨Or.inl rfl, ⟨Or.inl rfl, ⟨Or.inl rfl, ⟨Or.inl rfl, ⟨Or.inl rfl, ⟨Or.inl rfl, ⟨Or.inr rfl, ⟨Or.inr rfl, ⟨Or.inl rfl, ⟨Or.inl rfl, ⟨Or.inl rfl, ⟨Or.inl rfl, ⟨Or.inl rfl, ⟨Or.inl rfl, ⟨Or.inl rfl, ⟨Or.inl rfl, ⟨Or.inl rfl, trivial⟩⟩⟩⟩⟩⟩⟩⟩⟩⟩⟩⟩⟩⟩⟩⟩⟩⟩⟩⟩⟩⟩⟩⟩⟩⟩⟩⟩⟩⟩⟩⟩⟩ ?_
              exact BL_law1_801 N S k p6_711 p8_711 r183 r187 0 w188  rZ wZ eQ hf
        · rw [if_neg hc181] at hf
          refine E_iconst 0 dL_law_766 ic_0 ?_
          obtain ⟨rfl, rfl⟩ := ret2 hf
          exact E.done (by rw [eQ]; exact (Or.inl (⟨rfl, Or.inl ⟨_, _, rfl, rfl, dL_law_767, rfl, rfl⟩⟩)))
      · rw [if_neg hc176] at hf
        refine E_iconst 0 dL_law_766 ic_0 ?_
        obtain ⟨rfl, rfl⟩ := ret2 hf
        exact E.done (by rw [eQ]; exact (Or.inl (⟨rfl, Or.inl ⟨_, _, rfl, rfl, dL_law_767, rfl, rfl⟩⟩)))
    · rw [if_neg hc171] at hf
      refine E_iconst 0 dL_law_766 ic_0 ?_
      obtain ⟨rfl, rfl⟩ := ret2 hf
      exact E.done (by rw [eQ]; exact (Or.inl (⟨rfl, Or.inl ⟨_, _, rfl, rfl, dL_law_767, rfl, rfl⟩⟩)))
  · rw [if_neg hc166] at hf
    refine E_iconst 0 dL_law_766 ic_0 ?_
    obtain ⟨rfl, rfl⟩ := ret2 hf
    exact E.done (by rw [eQ]; exact (Or.inl (⟨rfl, Or.inl ⟨_, _, rfl, rfl, dL_law_767, rfl, rfl⟩⟩)))
set_option maxRecDepth 10000 in
set_option maxHeartbeats 2000000 in
theorem BL_law1_600 (N : Nat) (S : SC) (k : Int32 → Int32 → AW → Option (Int32 × AW)) (p6_600 : Int32) (p8_600 : Int32) (p13_600 : Int32) (p17_600 : Int32) (p18_600 : Int32) (p19_600 : Int32) (p20_600 : Int32) (p21_600 : Int32) (w : AW) (rZ : Int32) (wZ : AW) {Q : Nat → List (Option Value) → List Value → AW → Prop} (eQ : Q = QL k rZ wZ) (hf : bL_law1_600 N S k p6_600 p8_600 p13_600 p17_600 p18_600 p19_600 p20_600 p21_600 w = some (rZ, wZ)) : E (PC S) RL cL_law 33 2000 600 [some (.retAddr 3), some (.ref 0), some (.ref 76), none, none, some (.ref 79), some (.int p6_600), none, some (.int p8_600), none, none, none, none, some (.int p13_600), none, none, none, some (.int p17_600), some (.int p18_600), some (.int p19_600), some (.int p20_600), some (.int p21_600), none, none, none, none, none, none, none, none, none, none, none] [] w Q := by
  unfold bL_law1_600 at hf
  refine E_iload (v := p20_600) dL_law_600 rfl ?_
  refine E_if_lt 711 dL_law_602 (by decide) (fun hc161 => ?_) (fun hc161 => ?_)
  · rw [if_pos hc161] at hf
    refine E.fewer (ls' := [some (.retAddr 3), some (.ref 0), some (.ref 76), none, none, some (.ref 79), some (.int p6_600), none, some (.int p8_600), none, none, none, none, none, none, none, none, some (.int p17_600), some (.int p18_600), some (.int p19_600), none, some (.int p21_600), none, none, none, none, none, none, none, none, none, none, none]) ⟨Or.inr rfl, ⟨Or.inr rfl, ⟨Or.inr rfl, ⟨Or.inl rfl, ⟨Or.inl rfl, ⟨Or.inr rfl, ⟨Or.inr rfl, ⟨Or.inl rfl, ⟨Or.inr rfl, ⟨Or.inl rfl, ⟨Or.inl rfl, ⟨Or.inl rfl, ⟨Or.inl rfl, ⟨Or.inl rfl, ⟨Or.inl rfl, ⟨Or.inl rfl, ⟨Or.inl rfl, ⟨Or.inr rfl, ⟨Or.inr rfl, ⟨Or.inr rfl, ⟨Or.inl rfl, ⟨Or.inr rfl, ⟨Or.inl rfl, ⟨Or.inl rfl, ⟨Or.inl rfl, ⟨Or.inl rfl, ⟨Or.inl rfl, ⟨Or.inl rfl, ⟨Or.inl rfl, ⟨Or.inl rfl, ⟨Or.inl rfl, ⟨Or.inl rfl, ⟨Or.inl rfl, trivial⟩⟩⟩⟩⟩⟩⟩⟩⟩⟩⟩⟩⟩⟩⟩⟩⟩⟩⟩⟩⟩⟩⟩⟩⟩⟩⟩⟩⟩⟩⟩⟩⟩ ?_
    exact BL_law1_711 N S k p6_600 p8_600 p17_600 p18_600 p19_600 p21_600 w  rZ wZ eQ hf
  · rw [if_neg hc161] at hf
    refine E_aload_n (v := 0) dL_law_605 rfl ?_
    refine E_iconst 0 dL_law_606 ic_0 ?_
    refine E_iload (v := p18_600) dL_law_607 rfl ?_
    refine E_iload (v := p17_600) dL_law_609 rfl ?_
    refine E_bipush 11 dL_law_611 bp_11 ?_
    refine E_ishr dL_law_613 ?_
    refine E_iconst 1 dL_law_614 ic_1 ?_
    refine E_iand dL_law_615 ?_
    refine E_iload (v := p20_600) dL_law_616 rfl ?_
    refine E_iload (v := p19_600) dL_law_618 rfl ?_
    obtain ⟨r220, w221, hc219, hf⟩ := bd2_some hf
    try dsimp only at hf
    refine E_callVi (rest := []) (ci := 11) cv_RL_36 dL_law_620 (MX11_job hc219) rfl sC_0 rfl (by decide) rfl rfl (fun _ => Nat.le_of_ble_eq_true rfl) ?_
    refine E_iload (v := p6_600) dL_law_623 rfl ?_
    refine E_icmp_ne 659 dL_law_625 (by decide) (fun hc223 => ?_) (fun hc223 => ?_)
    · rw [if_pos hc223] at hf
      refine E_aload_n (v := 0) dL_law_628 rfl ?_
      obtain ⟨r225, w226, hc224, hf⟩ := bd2_some hf
      try dsimp only at hf
      refine E_callVi (rest := []) (ci := 11) cv_RL_74 dL_law_629 (MX11_fewest hc224) rfl sC_0 rfl (by decide) rfl rfl (fun _ => Nat.le_of_ble_eq_true rfl) ?_
      refine E_if_ne 659 dL_law_632 (by decide) (fun hc228 => ?_) (fun hc228 => ?_)
      · rw [if_pos hc228] at hf
        refine E_aload_n (v := 0) dL_law_635 rfl ?_
        refine E_iconst 0 dL_law_636 ic_0 ?_
        obtain ⟨r230, w231, hc229, hf⟩ := bd2_some hf
        try dsimp only at hf
        refine E_callVi (rest := []) (ci := 11) cv_RL_48 dL_law_637 (MX11_best hc229) rfl sC_0 rfl (by decide) rfl rfl (fun _ => Nat.le_of_ble_eq_true rfl) ?_
        refine E_iload (v := p13_600) dL_law_640 rfl ?_
        refine E_iload (v := p19_600) dL_law_642 rfl ?_
        refine E_iadd dL_law_644 ?_
        refine E_icmp_ne 659 dL_law_645 (by decide) (fun hc233 => ?_) (fun hc233 => ?_)
        · rw [if_pos hc233] at hf
          refine E_aload_n (v := 0) dL_law_648 rfl ?_
          refine E_iload (v := p6_600) dL_law_649 rfl ?_
          obtain ⟨r235, w236, hc234, hf⟩ := bd2_some hf
          try dsimp only at hf
          refine E_callVi (rest := []) (ci := 11) cv_RL_99 dL_law_651 (MX11_drop hc234) rfl sC_0 rfl (by decide) rfl rfl (fun _ => Nat.le_of_ble_eq_true rfl) ?_
          refine E_iload (v := p6_600) dL_law_654 rfl ?_
          refine E_icmp_eq 661 dL_law_656 (by decide) (fun hc238 => ?_) (fun hc238 => ?_)
          · rw [if_pos hc238] at hf
            refine E_iload (v := p20_600) dL_law_661 rfl ?_
            refine E_if_le 711 dL_law_663 (by decide) (fun hc239 => ?_) (fun hc239 => ?_)
            · rw [if_pos hc239] at hf
              refine E.fewer (ls' := [some (.retAddr 3), some (.ref 0), some (.ref 76), none, none, some (.ref 79), some (.int p6_600), none, some (.int p8_600), none, none, none, none, none, none, none, none, some (.int p17_600), some (.int p18_600), some (.int p19_600), none, some (.int p21_600), none, none, none, none, none, none, none, none, none, none, none]) ⟨Or.inr rfl, ⟨Or.inr rfl, ⟨Or.inr rfl, ⟨Or.inl rfl, ⟨Or.inl rfl, ⟨Or.inr rfl, ⟨Or.inr rfl, ⟨Or.inl rfl, ⟨Or.inr rfl, ⟨Or.inl rfl, ⟨Or.inl rfl, ⟨Or.inl rfl, ⟨Or.inl rfl, ⟨Or.inl rfl, ⟨Or.inl rfl, ⟨Or.inl rfl, ⟨Or.inl rfl, ⟨Or.inr rfl, ⟨Or.inr rfl, ⟨Or.inr rfl, ⟨Or.inl rfl, ⟨Or.inr rfl, ⟨Or.inl rfl, ⟨Or.inl rfl, ⟨Or.inl rfl, ⟨Or.inl rfl, ⟨Or.inl rfl, ⟨Or.inl rfl, ⟨Or.inl rfl, ⟨Or.inl rfl, ⟨Or.inl rfl, ⟨Or.inl rfl, ⟨Or.inl rfl, trivial⟩⟩⟩⟩⟩⟩⟩⟩⟩⟩⟩⟩⟩⟩⟩⟩⟩⟩⟩⟩⟩⟩⟩⟩⟩⟩⟩⟩⟩⟩⟩⟩⟩ ?_
              exact BL_law1_711 N S k p6_600 p8_600 p17_600 p18_600 p19_600 p21_600 w236  rZ wZ eQ hf
            · rw [if_neg hc239] at hf
              refine E_aload_n (v := 0) dL_law_666 rfl ?_
              refine E_iconst 0 dL_law_667 ic_0 ?_
              refine E_iload (v := p18_600) dL_law_668 rfl ?_
              refine E_iload (v := p17_600) dL_law_670 rfl ?_
              refine E_bipush 11 dL_law_672 bp_11 ?_
              refine E_ishr dL_law_674 ?_
              refine E_iconst 1 dL_law_675 ic_1 ?_
              refine E_iand dL_law_676 ?_
              refine E_iload (v := p20_600) dL_law_677 rfl ?_
              refine E_iconst 1 dL_law_679 ic_1 ?_
              refine E_isub dL_law_680 ?_
              refine E_iload (v := p19_600) dL_law_681 rfl ?_
              obtain ⟨r241, w242, hc240, hf⟩ := bd2_some hf
              try dsimp only at hf
              refine E_callVi (rest := []) (ci := 11) cv_RL_36 dL_law_683 (MX11_job hc240) rfl sC_0 rfl (by decide) rfl rfl (fun _ => Nat.le_of_ble_eq_true rfl) ?_
              refine E_iload (v := p6_600) dL_law_686 rfl ?_
              refine E_icmp_ne 709 dL_law_688 (by decide) (fun hc244 => ?_) (fun hc244 => ?_)
              · rw [if_pos hc244] at hf
                refine E_aload_n (v := 0) dL_law_691 rfl ?_
                obtain ⟨r246, w247, hc245, hf⟩ := bd2_some hf
                try dsimp only at hf
                refine E_callVi (rest := []) (ci := 11) cv_RL_74 dL_law_692 (MX11_fewest hc245) rfl sC_0 rfl (by decide) rfl rfl (fun _ => Nat.le_of_ble_eq_true rfl) ?_
                refine E_if_eq 709 dL_law_695 (by decide) (fun hc249 => ?_) (fun hc249 => ?_)
                · rw [if_pos hc249] at hf
                  refine E_iconst 0 dL_law_709 ic_0 ?_
                  obtain ⟨rfl, rfl⟩ := ret2 hf
                  exact E.done (by rw [eQ]; exact (Or.inl (⟨rfl, Or.inl ⟨_, _, rfl, rfl, dL_law_710, rfl, rfl⟩⟩)))
                · rw [if_neg hc249] at hf
                  refine E_aload_n (v := 0) dL_law_698 rfl ?_
                  refine E_iload (v := p6_600) dL_law_699 rfl ?_
                  obtain ⟨r251, w252, hc250, hf⟩ := bd2_some hf
                  try dsimp only at hf
                  refine E_callVi (rest := []) (ci := 11) cv_RL_99 dL_law_701 (MX11_drop hc250) rfl sC_0 rfl (by decide) rfl rfl (fun _ => Nat.le_of_ble_eq_true rfl) ?_
                  refine E_iload (v := p6_600) dL_law_704 rfl ?_
                  refine E_icmp_eq 711 dL_law_706 (by decide) (fun hc254 => ?_) (fun hc254 => ?_)
                  · rw [if_pos hc254] at hf
                    refine E.fewer (ls' := [some (.retAddr 3), some (.ref 0), some (.ref 76), none, none, some (.ref 79), some (.int p6_600), none, some (.int p8_600), none, none, none, none, none, none, none, none, some (.int p17_600), some (.int p18_600), some (.int p19_600), none, some (.int p21_600), none, none, none, none, none, none, none, none, none, none, none]) ⟨Or.inr rfl, ⟨Or.inr rfl, ⟨Or.inr rfl, ⟨Or.inl rfl, ⟨Or.inl rfl, ⟨Or.inr rfl, ⟨Or.inr rfl, ⟨Or.inl rfl, ⟨Or.inr rfl, ⟨Or.inl rfl, ⟨Or.inl rfl, ⟨Or.inl rfl, ⟨Or.inl rfl, ⟨Or.inl rfl, ⟨Or.inl rfl, ⟨Or.inl rfl, ⟨Or.inl rfl, ⟨Or.inr rfl, ⟨Or.inr rfl, ⟨Or.inr rfl, ⟨Or.inl rfl, ⟨Or.inr rfl, ⟨Or.inl rfl, ⟨Or.inl rfl, ⟨Or.inl rfl, ⟨Or.inl rfl, ⟨Or.inl rfl, ⟨Or.inl rfl, ⟨Or.inl rfl, ⟨Or.inl rfl, ⟨Or.inl rfl, ⟨Or.inl rfl, ⟨Or.inl rfl, trivial⟩⟩⟩⟩⟩⟩⟩⟩⟩⟩⟩⟩⟩⟩⟩⟩⟩⟩⟩⟩⟩⟩⟩⟩⟩⟩⟩⟩⟩⟩⟩⟩⟩ ?_
                    exact BL_law1_711 N S k p6_600 p8_600 p17_600 p18_600 p19_600 p21_600 w252  rZ wZ eQ hf
                  · rw [if_neg hc254] at hf
                    refine E_iconst 0 dL_law_709 ic_0 ?_
                    obtain ⟨rfl, rfl⟩ := ret2 hf
                    exact E.done (by rw [eQ]; exact (Or.inl (⟨rfl, Or.inl ⟨_, _, rfl, rfl, dL_law_710, rfl, rfl⟩⟩)))
              · rw [if_neg hc244] at hf
                refine E_iconst 0 dL_law_709 ic_0 ?_
                obtain ⟨rfl, rfl⟩ := ret2 hf
                exact E.done (by rw [eQ]; exact (Or.inl (⟨rfl, Or.inl ⟨_, _, rfl, rfl, dL_law_710, rfl, rfl⟩⟩)))
          · rw [if_neg hc238] at hf
            refine E_iconst 0 dL_law_659 ic_0 ?_
            obtain ⟨rfl, rfl⟩ := ret2 hf
            exact E.done (by rw [eQ]; exact (Or.inl (⟨rfl, Or.inl ⟨_, _, rfl, rfl, dL_law_660, rfl, rfl⟩⟩)))
        · rw [if_neg hc233] at hf
          refine E_iconst 0 dL_law_659 ic_0 ?_
          obtain ⟨rfl, rfl⟩ := ret2 hf
          exact E.done (by rw [eQ]; exact (Or.inl (⟨rfl, Or.inl ⟨_, _, rfl, rfl, dL_law_660, rfl, rfl⟩⟩)))
      · rw [if_neg hc228] at hf
        refine E_iconst 0 dL_law_659 ic_0 ?_
        obtain ⟨rfl, rfl⟩ := ret2 hf
        exact E.done (by rw [eQ]; exact (Or.inl (⟨rfl, Or.inl ⟨_, _, rfl, rfl, dL_law_660, rfl, rfl⟩⟩)))
    · rw [if_neg hc223] at hf
      refine E_iconst 0 dL_law_659 ic_0 ?_
      obtain ⟨rfl, rfl⟩ := ret2 hf
      exact E.done (by rw [eQ]; exact (Or.inl (⟨rfl, Or.inl ⟨_, _, rfl, rfl, dL_law_660, rfl, rfl⟩⟩)))
set_option maxRecDepth 10000 in
set_option maxHeartbeats 2000000 in
theorem BL_law1_595 (N : Nat) (S : SC) (k : Int32 → Int32 → AW → Option (Int32 × AW)) (p6_595 : Int32) (p8_595 : Int32) (p13_595 : Int32) (p17_595 : Int32) (p18_595 : Int32) (p19_595 : Int32) (p20_595 : Int32) (p21_595 : Int32) (q0_595 : Int32) (q1_595 : Int32) (w : AW) (rZ : Int32) (wZ : AW) {Q : Nat → List (Option Value) → List Value → AW → Prop} (eQ : Q = QL k rZ wZ) (hf : bL_law1_595 N S k p6_595 p8_595 p13_595 p17_595 p18_595 p19_595 p20_595 p21_595 q0_595 q1_595 w = some (rZ, wZ)) : E (PC S) RL cL_law 33 2000 595 [some (.retAddr 3), some (.ref 0), some (.ref 76), none, none, some (.ref 79), some (.int p6_595), none, some (.int p8_595), none, none, none, none, some (.int p13_595), none, none, none, some (.int p17_595), some (.int p18_595), some (.int p19_595), some (.int p20_595), some (.int p21_595), none, none, none, none, none, none, none, none, none, none, none] [.int q0_595, .int q1_595] w Q := by
  unfold bL_law1_595 at hf
  refine E_icmp_eq 600 dL_law_595 (by decide) (fun hc257 => ?_) (fun hc257 => ?_)
  · rw [if_pos hc257] at hf
    exact BL_law1_600 N S k p6_595 p8_595 p13_595 p17_595 p18_595 p19_595 p20_595 p21_595 w  rZ wZ eQ hf
  · rw [if_neg hc257] at hf
    refine E_iconst 0 dL_law_598 ic_0 ?_
    obtain ⟨rfl, rfl⟩ := ret2 hf
    exact E.done (by rw [eQ]; exact (Or.inl (⟨rfl, Or.inl ⟨_, _, rfl, rfl, dL_law_599, rfl, rfl⟩⟩)))
set_option maxRecDepth 10000 in
set_option maxHeartbeats 2000000 in
theorem BL_law1_590 (N : Nat) (S : SC) (k : Int32 → Int32 → AW → Option (Int32 × AW)) (p6_590 : Int32) (p8_590 : Int32) (p13_590 : Int32) (p17_590 : Int32) (p18_590 : Int32) (p19_590 : Int32) (p20_590 : Int32) (p21_590 : Int32) (q0_590 : Int32) (w : AW) (rZ : Int32) (wZ : AW) {Q : Nat → List (Option Value) → List Value → AW → Prop} (eQ : Q = QL k rZ wZ) (hf : bL_law1_590 N S k p6_590 p8_590 p13_590 p17_590 p18_590 p19_590 p20_590 p21_590 q0_590 w = some (rZ, wZ)) : E (PC S) RL cL_law 33 2000 590 [some (.retAddr 3), some (.ref 0), some (.ref 76), none, none, some (.ref 79), some (.int p6_590), none, some (.int p8_590), none, none, none, none, some (.int p13_590), none, none, none, some (.int p17_590), some (.int p18_590), some (.int p19_590), some (.int p20_590), some (.int p21_590), none, none, none, none, none, none, none, none, none, none, none] [.int q0_590] w Q := by
  unfold bL_law1_590 at hf
  refine E_iconst 1 dL_law_590 ic_1 ?_
  refine E_goto 595 dL_law_591 (by decide) ?_
  exact BL_law1_595 N S k p6_590 p8_590 p13_590 p17_590 p18_590 p19_590 p20_590 p21_590 1 q0_590 w  rZ wZ eQ hf
set_option maxRecDepth 10000 in
set_option maxHeartbeats 2000000 in
theorem BL_law1_578 (N : Nat) (S : SC) (k : Int32 → Int32 → AW → Option (Int32 × AW)) (p6_578 : Int32) (p8_578 : Int32) (p13_578 : Int32) (p14_578 : Int32) (p17_578 : Int32) (p18_578 : Int32) (p19_578 : Int32) (p20_578 : Int32) (p21_578 : Int32) (q0_578 : Int32) (w : AW) (rZ : Int32) (wZ : AW) {Q : Nat → List (Option Value) → List Value → AW → Prop} (eQ : Q = QL k rZ wZ) (hf : bL_law1_578 N S k p6_578 p8_578 p13_578 p14_578 p17_578 p18_578 p19_578 p20_578 p21_578 q0_578 w = some (rZ, wZ)) : E (PC S) RL cL_law 33 2000 578 [some (.retAddr 3), some (.ref 0), some (.ref 76), none, none, some (.ref 79), some (.int p6_578), none, some (.int p8_578), none, none, none, none, some (.int p13_578), some (.int p14_578), none, none, some (.int p17_578), some (.int p18_578), some (.int p19_578), some (.int p20_578), some (.int p21_578), none, none, none, none, none, none, none, none, none, none, none] [.int q0_578] w Q := by
  unfold bL_law1_578 at hf
  refine E_iload (v := p14_578) dL_law_578 rfl ?_
  refine E_if_gt 590 dL_law_580 (by decide) (fun hc256 => ?_) (fun hc256 => ?_)
  · rw [if_pos hc256] at hf
    refine E.fewer (ls' := [some (.retAddr 3), some (.ref 0), some (.ref 76), none, none, some (.ref 79), some (.int p6_578), none, some (.int p8_578), none, none, none, none, some (.int p13_578), none, none, none, some (.int p17_578), some (.int p18_578), some (.int p19_578), some (.int p20_578), some (.int p21_578), none, none, none, none, none, none, none, none, none, none, none]) ⟨Or.inr rfl, ⟨Or.inr rfl, ⟨Or.inr rfl, ⟨Or.inl rfl, ⟨Or.inl rfl, ⟨Or.inr rfl, ⟨Or.inr rfl, ⟨Or.inl rfl, ⟨Or.inr rfl, ⟨Or.inl rfl, ⟨Or.inl rfl, ⟨Or.inl rfl, ⟨Or.inl rfl, ⟨Or.inr rfl, ⟨Or.inl rfl, ⟨Or.inl rfl, ⟨Or.inl rfl, ⟨Or.inr rfl, ⟨Or.inr rfl, ⟨Or.inr rfl, ⟨Or.inr rfl, ⟨Or.inr rfl, ⟨Or.inl rfl, ⟨Or.inl rfl, ⟨Or.inl rfl, ⟨Or.inl rfl, ⟨Or.inl rfl, ⟨Or.inl rfl, ⟨Or.inl rfl, ⟨Or.inl rfl, ⟨Or.inl rfl, ⟨Or.inl rfl, ⟨Or.inl rfl, trivial⟩⟩⟩⟩⟩⟩⟩⟩⟩⟩⟩⟩⟩⟩⟩⟩⟩⟩⟩⟩⟩⟩⟩⟩⟩⟩⟩⟩⟩⟩⟩⟩⟩ ?_
    exact BL_law1_590 N S k p6_578 p8_578 p13_578 p17_578 p18_578 p19_578 p20_578 p21_578 q0_578 w  rZ wZ eQ hf
  · rw [if_neg hc256] at hf
    refine E_iload (v := p20_578) dL_law_583 rfl ?_
    refine E_bipush (-3) dL_law_585 bp_m3 ?_
    refine E_icmp_ne 594 dL_law_587 (by decide) (fun hc258 => ?_) (fun hc258 => ?_)
    · rw [if_pos hc258] at hf
      refine E.fewer (ls' := [some (.retAddr 3), some (.ref 0), some (.ref 76), none, none, some (.ref 79), some (.int p6_578), none, some (.int p8_578), none, none, none, none, some (.int p13_578), none, none, none, some (.int p17_578), some (.int p18_578), some (.int p19_578), some (.int p20_578), some (.int p21_578), none, none, none, none, none, none, none, none, none, none, none]) ⟨Or.inr rfl, ⟨Or.inr rfl, ⟨Or.inr rfl, ⟨Or.inl rfl, ⟨Or.inl rfl, ⟨Or.inr rfl, ⟨Or.inr rfl, ⟨Or.inl rfl, ⟨Or.inr rfl, ⟨Or.inl rfl, ⟨Or.inl rfl, ⟨Or.inl rfl, ⟨Or.inl rfl, ⟨Or.inr rfl, ⟨Or.inl rfl, ⟨Or.inl rfl, ⟨Or.inl rfl, ⟨Or.inr rfl, ⟨Or.inr rfl, ⟨Or.inr rfl, ⟨Or.inr rfl, ⟨Or.inr rfl, ⟨Or.inl rfl, ⟨Or.inl rfl, ⟨Or.inl rfl, ⟨Or.inl rfl, ⟨Or.inl rfl, ⟨Or.inl rfl, ⟨Or.inl rfl, ⟨Or.inl rfl, ⟨Or.inl rfl, ⟨Or.inl rfl, ⟨Or.inl rfl, trivial⟩⟩⟩⟩⟩⟩⟩⟩⟩⟩⟩⟩⟩⟩⟩⟩⟩⟩⟩⟩⟩⟩⟩⟩⟩⟩⟩⟩⟩⟩⟩⟩⟩ ?_
      exact BL_law1_590 N S k p6_578 p8_578 p13_578 p17_578 p18_578 p19_578 p20_578 p21_578 q0_578 w  rZ wZ eQ hf
    · rw [if_neg hc258] at hf
      refine E_iconst 0 dL_law_594 ic_0 ?_
      refine E.fewer (ls' := [some (.retAddr 3), some (.ref 0), some (.ref 76), none, none, some (.ref 79), some (.int p6_578), none, some (.int p8_578), none, none, none, none, some (.int p13_578), none, none, none, some (.int p17_578), some (.int p18_578), some (.int p19_578), some (.int p20_578), some (.int p21_578), none, none, none, none, none, none, none, none, none, none, none]) ⟨Or.inr rfl, ⟨Or.inr rfl, ⟨Or.inr rfl, ⟨Or.inl rfl, ⟨Or.inl rfl, ⟨Or.inr rfl, ⟨Or.inr rfl, ⟨Or.inl rfl, ⟨Or.inr rfl, ⟨Or.inl rfl, ⟨Or.inl rfl, ⟨Or.inl rfl, ⟨Or.inl rfl, ⟨Or.inr rfl, ⟨Or.inl rfl, ⟨Or.inl rfl, ⟨Or.inl rfl, ⟨Or.inr rfl, ⟨Or.inr rfl, ⟨Or.inr rfl, ⟨Or.inr rfl, ⟨Or.inr rfl, ⟨Or.inl rfl, ⟨Or.inl rfl, ⟨Or.inl rfl, ⟨Or.inl rfl, ⟨Or.inl rfl, ⟨Or.inl rfl, ⟨Or.inl rfl, ⟨Or.inl rfl, ⟨Or.inl rfl, ⟨Or.inl rfl, ⟨Or.inl rfl, trivial⟩⟩⟩⟩⟩⟩⟩⟩⟩⟩⟩⟩⟩⟩⟩⟩⟩⟩⟩⟩⟩⟩⟩⟩⟩⟩⟩⟩⟩⟩⟩⟩⟩ ?_
      exact BL_law1_595 N S k p6_578 p8_578 p13_578 p17_578 p18_578 p19_578 p20_578 p21_578 0 q0_578 w  rZ wZ eQ hf
set_option maxRecDepth 10000 in
set_option maxHeartbeats 2000000 in
theorem BL_law1_470 (N : Nat) (S : SC) (k : Int32 → Int32 → AW → Option (Int32 × AW)) (p6_470 : Int32) (p8_470 : Int32) (p13_470 : Int32) (p14_470 : Int32) (w : AW) (rZ : Int32) (wZ : AW) {Q : Nat → List (Option Value) → List Value → AW → Prop} (eQ : Q = QL k rZ wZ) (hf : bL_law1_470 N S k p6_470 p8_470 p13_470 p14_470 w = some (rZ, wZ)) : E (PC S) RL cL_law 33 2000 470 [some (.retAddr 3), some (.ref 0), some (.ref 76), none, none, some (.ref 79), some (.int p6_470), none, some (.int p8_470), none, none, none, none, some (.int p13_470), some (.int p14_470), none, none, none, none, none, none, none, none, none, none, none, none, none, none, none, none, none, none] [] w Q := by
  unfold bL_law1_470 at hf
  refine E_aload_n (v := 0) dL_law_470 rfl ?_
  refine E_iconst 1 dL_law_471 ic_1 ?_
  obtain ⟨r136, w137, hc135, hf⟩ := bd2_some hf
  try dsimp only at hf
  refine E_callVi (rest := []) (ci := 11) cv_RL_86 dL_law_472 (MX11_mean hc135) rfl sC_0 rfl (by decide) rfl rfl (fun _ => Nat.le_of_ble_eq_true rfl) ?_
  refine E_iconst 1 dL_law_475 ic_1 ?_
  refine E_icmp_ge 481 dL_law_476 (by decide) (fun hc139 => ?_) (fun hc139 => ?_)
  · rw [if_pos hc139] at hf
    refine E_aloadx_n dL_law_481 rfl ?_
    refine E_bipush 9 dL_law_482 bp_9 ?_
    obtain ⟨r141, hc140, hf⟩ := bd_some hf
    try dsimp only at hf
    refine E_callSi (rest := []) cs_RL_17 dL_law_484 (ML_at hc140) rfl rfl rfl (fun _ => Nat.le_of_ble_eq_true rfl) ?_
    refine E_istore (ls' := [some (.retAddr 3), some (.ref 0), some (.ref 76), none, none, some (.ref 79), some (.int p6_470), none, some (.int p8_470), none, none, none, none, some (.int p13_470), some (.int p14_470), none, none, some (.int r141), none, none, none, none, none, none, none, none, none, none, none, none, none, none, none]) dL_law_487 rfl rfl rfl ?_
    refine E_iconst 1 dL_law_489 ic_1 ?_
    refine E_iload (v := r141) dL_law_490 rfl ?_
    refine E_bipush 9 dL_law_492 bp_9 ?_
    obtain ⟨r143, hc142, hf⟩ := bd_some hf
    try dsimp only at hf
    refine E_callSi (rest := [.int 1]) cs_RL_21 dL_law_494 (ML_mod hc142) rfl rfl rfl (fun _ => Nat.le_of_ble_eq_true rfl) ?_
    refine E_iadd dL_law_497 ?_
    refine E_istore (ls' := [some (.retAddr 3), some (.ref 0), some (.ref 76), none, none, some (.ref 79), some (.int p6_470), none, some (.int p8_470), none, none, none, none, some (.int p13_470), some (.int p14_470), none, none, some (.int r141), some (.int (1 + r143)), none, none, none, none, none, none, none, none, none, none, none, none, none, none]) dL_law_498 rfl rfl rfl ?_
    refine E_iload (v := r141) dL_law_500 rfl ?_
    refine E_iconst 4 dL_law_502 ic_4 ?_
    refine E_ishr dL_law_503 ?_
    refine E_bipush 100 dL_law_504 bp_100 ?_
    obtain ⟨r145, hc144, hf⟩ := bd_some hf
    try dsimp only at hf
    refine E_callSi (rest := []) cs_RL_21 dL_law_506 (ML_mod hc144) rfl rfl rfl (fun _ => Nat.le_of_ble_eq_true rfl) ?_
    refine E_istore (ls' := [some (.retAddr 3), some (.ref 0), some (.ref 76), none, none, some (.ref 79), some (.int p6_470), none, some (.int p8_470), none, none, none, none, some (.int p13_470), some (.int p14_470), none, none, some (.int r141), some (.int (1 + r143)), some (.int r145), none, none, none, none, none, none, none, none, none, none, none, none, none]) dL_law_509 rfl rfl rfl ?_
    refine E_aload_n (v := 0) dL_law_511 rfl ?_
    refine E_iconst 0 dL_law_512 ic_0 ?_
    refine E_iload (v := (1 + r143)) dL_law_513 rfl ?_
    refine E_iload (v := r141) dL_law_515 rfl ?_
    refine E_bipush 11 dL_law_517 bp_11 ?_
    refine E_ishr dL_law_519 ?_
    refine E_iconst 1 dL_law_520 ic_1 ?_
    refine E_iand dL_law_521 ?_
    obtain ⟨r147, w148, hc146, hf⟩ := bd2_some hf
    try dsimp only at hf
    refine E_callVi (rest := []) (ci := 11) cv_RL_89 dL_law_522 (MX11_soonest hc146) rfl sC_0 rfl (by decide) rfl rfl (fun _ => Nat.le_of_ble_eq_true rfl) ?_
    refine E_istore (ls' := [some (.retAddr 3), some (.ref 0), some (.ref 76), none, none, some (.ref 79), some (.int p6_470), none, some (.int p8_470), none, none, none, none, some (.int p13_470), some (.int p14_470), none, none, some (.int r141), some (.int (1 + r143)), some (.int r145), some (.int r147), none, none, none, none, none, none, none, none, none, none, none, none]) dL_law_525 rfl rfl rfl ?_
    refine E_aload_n (v := 0) dL_law_527 rfl ?_
    refine E_iconst 0 dL_law_528 ic_0 ?_
    refine E_iload (v := (1 + r143)) dL_law_529 rfl ?_
    refine E_iload (v := r141) dL_law_531 rfl ?_
    refine E_bipush 11 dL_law_533 bp_11 ?_
    refine E_ishr dL_law_535 ?_
    refine E_iconst 1 dL_law_536 ic_1 ?_
    refine E_iand dL_law_537 ?_
    refine E_bipush 60 dL_law_538 bp_60 ?_
    refine E_iload (v := r145) dL_law_540 rfl ?_
    obtain ⟨r151, w152, hc150, hf⟩ := bd2_some hf
    try dsimp only at hf
    refine E_callVi (rest := []) (ci := 11) cv_RL_93 dL_law_542 (MX11_gain hc150) rfl sC_0 rfl (by decide) rfl rfl (fun _ => Nat.le_of_ble_eq_true rfl) ?_
    refine E_istore (ls' := [some (.retAddr 3), some (.ref 0), some (.ref 76), none, none, some (.ref 79), some (.int p6_470), none, some (.int p8_470), none, none, none, none, some (.int p13_470), some (.int p14_470), none, none, some (.int r141), some (.int (1 + r143)), some (.int r145), some (.int r147), some (.int r151), none, none, none, none, none, none, none, none, none, none, none]) dL_law_545 rfl rfl rfl ?_
    refine E_aload_n (v := 0) dL_law_547 rfl ?_
    obtain ⟨r155, w156, hc154, hf⟩ := bd2_some hf
    try dsimp only at hf
    refine E_callVi (rest := []) (ci := 11) cv_RL_96 dL_law_548 (MX11_keep hc154) rfl sC_0 rfl (by decide) rfl rfl (fun _ => Nat.le_of_ble_eq_true rfl) ?_
    refine E_iconst 1 dL_law_551 ic_1 ?_
    refine E_icmp_ne 598 dL_law_552 (by decide) (fun hc158 => ?_) (fun hc158 => ?_)
    · rw [if_pos hc158] at hf
      refine E_iload (v := r151) dL_law_555 rfl ?_
      refine E_iload (v := r145) dL_law_557 rfl ?_
      refine E_icmp_gt 598 dL_law_559 (by decide) (fun hc159 => ?_) (fun hc159 => ?_)
      · rw [if_pos hc159] at hf
        refine E_iconst 0 dL_law_598 ic_0 ?_
        obtain ⟨rfl, rfl⟩ := ret2 hf
        exact E.done (by rw [eQ]; exact (Or.inl (⟨rfl, Or.inl ⟨_, _, rfl, rfl, dL_law_599, rfl, rfl⟩⟩)))
      · rw [if_neg hc159] at hf
        refine E_iload (v := p6_470) dL_law_562 rfl ?_
        refine E_iconst 5 dL_law_564 ic_5 ?_
        refine E_icmp_ge 600 dL_law_565 (by decide) (fun hc160 => ?_) (fun hc160 => ?_)
        · rw [if_pos hc160] at hf
          refine E.fewer (ls' := [some (.retAddr 3), some (.ref 0), some (.ref 76), none, none, some (.ref 79), some (.int p6_470), none, some (.int p8_470), none, none, none, none, some (.int p13_470), none, none, none, some (.int r141), some (.int (1 + r143)), some (.int r145), some (.int r147), some (.int r151), none, none, none, none, none, none, none, none, none, none, none]) ⟨Or.inr rfl, ⟨Or.inr rfl, ⟨Or.inr rfl, ⟨Or.inl rfl, ⟨Or.inl rfl, ⟨Or.inr rfl, ⟨Or.inr rfl, ⟨Or.inl rfl, ⟨Or.inr rfl, ⟨Or.inl rfl, ⟨Or.inl rfl, ⟨Or.inl rfl, ⟨Or.inl rfl, ⟨Or.inr rfl, ⟨Or.inl rfl, ⟨Or.inl rfl, ⟨Or.inl rfl, ⟨Or.inr rfl, ⟨Or.inr rfl, ⟨Or.inr rfl, ⟨Or.inr rfl, ⟨Or.inr rfl, ⟨Or.inl rfl, ⟨Or.inl rfl, ⟨Or.inl rfl, ⟨Or.inl rfl, ⟨Or.inl rfl, ⟨Or.inl rfl, ⟨Or.inl rfl, ⟨Or.inl rfl, ⟨Or.inl rfl, ⟨Or.inl rfl, ⟨Or.inl rfl, trivial⟩⟩⟩⟩⟩⟩⟩⟩⟩⟩⟩⟩⟩⟩⟩⟩⟩⟩⟩⟩⟩⟩⟩⟩⟩⟩⟩⟩⟩⟩⟩⟩⟩ ?_
          exact BL_law1_600 N S k p6_470 p8_470 p13_470 r141 (1 + r143) r145 r147 r151 w156  rZ wZ eQ hf
        · rw [if_neg hc160] at hf
          refine E_iload (v := r147) dL_law_568 rfl ?_
          refine E_if_ge 577 dL_law_570 (by decide) (fun hc255 => ?_) (fun hc255 => ?_)
          · rw [if_pos hc255] at hf
            refine E_iconst 0 dL_law_577 ic_0 ?_
            exact BL_law1_578 N S k p6_470 p8_470 p13_470 p14_470 r141 (1 + r143) r145 r147 r151 0 w156  rZ wZ eQ hf
          · rw [if_neg hc255] at hf
            refine E_iconst 1 dL_law_573 ic_1 ?_
            refine E_goto 578 dL_law_574 (by decide) ?_
            exact BL_law1_578 N S k p6_470 p8_470 p13_470 p14_470 r141 (1 + r143) r145 r147 r151 1 w156  rZ wZ eQ hf
    · rw [if_neg hc158] at hf
      refine E_iconst 0 dL_law_598 ic_0 ?_
      obtain ⟨rfl, rfl⟩ := ret2 hf
      exact E.done (by rw [eQ]; exact (Or.inl (⟨rfl, Or.inl ⟨_, _, rfl, rfl, dL_law_599, rfl, rfl⟩⟩)))
  · rw [if_neg hc139] at hf
    refine E_iconst 0 dL_law_479 ic_0 ?_
    obtain ⟨rfl, rfl⟩ := ret2 hf
    exact E.done (by rw [eQ]; exact (Or.inl (⟨rfl, Or.inl ⟨_, _, rfl, rfl, dL_law_480, rfl, rfl⟩⟩)))
set_option maxRecDepth 10000 in
set_option maxHeartbeats 2000000 in
theorem BL_law1_452 (N : Nat) (S : SC) (k : Int32 → Int32 → AW → Option (Int32 × AW)) (p6_452 : Int32) (p8_452 : Int32) (p13_452 : Int32) (p14_452 : Int32) (w : AW) (rZ : Int32) (wZ : AW) {Q : Nat → List (Option Value) → List Value → AW → Prop} (eQ : Q = QL k rZ wZ) (hf : bL_law1_452 N S k p6_452 p8_452 p13_452 p14_452 w = some (rZ, wZ)) : E (PC S) RL cL_law 33 2000 452 [some (.retAddr 3), some (.ref 0), some (.ref 76), some (.ref 77), none, some (.ref 79), some (.int p6_452), none, some (.int p8_452), none, none, none, none, some (.int p13_452), some (.int p14_452), none, none, none, none, none, none, none, none, none, none, none, none, none, none, none, none, none, none] [] w Q := by
  unfold bL_law1_452 at hf
  refine E_aload_n (v := 77) dL_law_452 rfl ?_
  refine E_iconst 3 dL_law_453 ic_3 ?_
  refine E_iald (n := 4) dL_law_454 sC_77 (by decide) (inb_in (by decide)) ?_
  refine E_if_ne 470 dL_law_455 (by decide) (fun hc125 => ?_) (fun hc125 => ?_)
  · rw [if_pos hc125] at hf
    refine E_aload_n (v := 0) dL_law_458 rfl ?_
    refine E_iconst 0 dL_law_459 ic_0 ?_
    obtain ⟨r127, w128, hc126, hf⟩ := bd2_some hf
    try dsimp only at hf
    refine E_callVi (rest := []) (ci := 11) cv_RL_86 dL_law_460 (MX11_mean hc126) rfl sC_0 rfl (by decide) rfl rfl (fun _ => Nat.le_of_ble_eq_true rfl) ?_
    refine E_aload_n (v := 0) dL_law_463 rfl ?_
    obtain ⟨r131, w132, hc130, hf⟩ := bd2_some hf
    try dsimp only at hf
    refine E_callVi (rest := [.int r127]) (ci := 11) cv_RL_45 dL_law_464 (MX11_worth hc130) rfl sC_0 rfl (by decide) rfl rfl (fun _ => Nat.le_of_ble_eq_true rfl) ?_
    refine E_icmp_ne 479 dL_law_467 (by decide) (fun hc134 => ?_) (fun hc134 => ?_)
    · rw [if_pos hc134] at hf
      refine E.fewer (ls' := [some (.retAddr 3), some (.ref 0), some (.ref 76), none, none, some (.ref 79), some (.int p6_452), none, some (.int p8_452), none, none, none, none, some (.int p13_452), some (.int p14_452), none, none, none, none, none, none, none, none, none, none, none, none, none, none, none, none, none, none]) ⟨Or.inr rfl, ⟨Or.inr rfl, ⟨Or.inr rfl, ⟨Or.inl rfl, ⟨Or.inl rfl, ⟨Or.inr rfl, ⟨Or.inr rfl, ⟨Or.inl rfl, ⟨Or.inr rfl, ⟨Or.inl rfl, ⟨Or.inl rfl, ⟨Or.inl rfl, ⟨Or.inl rfl, ⟨Or.inr rfl, ⟨Or.inr rfl, ⟨Or.inl rfl, ⟨Or.inl rfl, ⟨Or.inl rfl, ⟨Or.inl rfl, ⟨Or.inl rfl, ⟨Or.inl rfl, ⟨Or.inl rfl, ⟨Or.inl rfl, ⟨Or.inl rfl, ⟨Or.inl rfl, ⟨Or.inl rfl, ⟨Or.inl rfl, ⟨Or.inl rfl, ⟨Or.inl rfl, ⟨Or.inl rfl, ⟨Or.inl rfl, ⟨Or.inl rfl, ⟨Or.inl rfl, trivial⟩⟩⟩⟩⟩⟩⟩⟩⟩⟩⟩⟩⟩⟩⟩⟩⟩⟩⟩⟩⟩⟩⟩⟩⟩⟩⟩⟩⟩⟩⟩⟩⟩ ?_
      exact BL_law1_470 N S k p6_452 p8_452 p13_452 p14_452 w132  rZ wZ eQ hf
    · rw [if_neg hc134] at hf
      refine E_iconst 0 dL_law_479 ic_0 ?_
      obtain ⟨rfl, rfl⟩ := ret2 hf
      exact E.done (by rw [eQ]; exact (Or.inl (⟨rfl, Or.inl ⟨_, _, rfl, rfl, dL_law_480, rfl, rfl⟩⟩)))
  · rw [if_neg hc125] at hf
    refine E.fewer (ls' := [some (.retAddr 3), some (.ref 0), some (.ref 76), none, none, some (.ref 79), some (.int p6_452), none, some (.int p8_452), none, none, none, none, some (.int p13_452), some (.int p14_452), none, none, none, none, none, none, none, none, none, none, none, none, none, none, none, none, none, none]) ⟨Or.inr rfl, ⟨Or.inr rfl, ⟨Or.inr rfl, ⟨Or.inl rfl, ⟨Or.inl rfl, ⟨Or.inr rfl, ⟨Or.inr rfl, ⟨Or.inl rfl, ⟨Or.inr rfl, ⟨Or.inl rfl, ⟨Or.inl rfl, ⟨Or.inl rfl, ⟨Or.inl rfl, ⟨Or.inr rfl, ⟨Or.inr rfl, ⟨Or.inl rfl, ⟨Or.inl rfl, ⟨Or.inl rfl, ⟨Or.inl rfl, ⟨Or.inl rfl, ⟨Or.inl rfl, ⟨Or.inl rfl, ⟨Or.inl rfl, ⟨Or.inl rfl, ⟨Or.inl rfl, ⟨Or.inl rfl, ⟨Or.inl rfl, ⟨Or.inl rfl, ⟨Or.inl rfl, ⟨Or.inl rfl, ⟨Or.inl rfl, ⟨Or.inl rfl, ⟨Or.inl rfl, trivial⟩⟩⟩⟩⟩⟩⟩⟩⟩⟩⟩⟩⟩⟩⟩⟩⟩⟩⟩⟩⟩⟩⟩⟩⟩⟩⟩⟩⟩⟩⟩⟩⟩ ?_
    exact BL_law1_470 N S k p6_452 p8_452 p13_452 p14_452 w  rZ wZ eQ hf
set_option maxRecDepth 10000 in
set_option maxHeartbeats 2000000 in
theorem BL_law1_449 (N : Nat) (S : SC) (k : Int32 → Int32 → AW → Option (Int32 × AW)) (p6_449 : Int32) (p8_449 : Int32) (p13_449 : Int32) (p14_449 : Int32) (q0_449 : Int32) (q1_449 : Int32) (w : AW) (rZ : Int32) (wZ : AW) {Q : Nat → List (Option Value) → List Value → AW → Prop} (eQ : Q = QL k rZ wZ) (hf : bL_law1_449 N S k p6_449 p8_449 p13_449 p14_449 q0_449 q1_449 w = some (rZ, wZ)) : E (PC S) RL cL_law 33 2000 449 [some (.retAddr 3), some (.ref 0), some (.ref 76), some (.ref 77), none, some (.ref 79), some (.int p6_449), none, some (.int p8_449), none, none, none, none, some (.int p13_449), some (.int p14_449), none, none, none, none, none, none, none, none, none, none, none, none, none, none, none, none, none, none] [.int q0_449, .int q1_449] w Q := by
  unfold bL_law1_449 at hf
  refine E_icmp_ne 479 dL_law_449 (by decide) (fun hc265 => ?_) (fun hc265 => ?_)
  · rw [if_pos hc265] at hf
    exact BL_law1_452 N S k p6_449 p8_449 p13_449 p14_449 w  rZ wZ eQ hf
  · rw [if_neg hc265] at hf
    refine E_iconst 0 dL_law_479 ic_0 ?_
    obtain ⟨rfl, rfl⟩ := ret2 hf
    exact E.done (by rw [eQ]; exact (Or.inl (⟨rfl, Or.inl ⟨_, _, rfl, rfl, dL_law_480, rfl, rfl⟩⟩)))
set_option maxRecDepth 10000 in
set_option maxHeartbeats 2000000 in
theorem BL_law1_437 (N : Nat) (S : SC) (k : Int32 → Int32 → AW → Option (Int32 × AW)) (p6_437 : Int32) (p8_437 : Int32) (p13_437 : Int32) (p14_437 : Int32) (q0_437 : Int32) (w : AW) (rZ : Int32) (wZ : AW) {Q : Nat → List (Option Value) → List Value → AW → Prop} (eQ : Q = QL k rZ wZ) (hf : bL_law1_437 N S k p6_437 p8_437 p13_437 p14_437 q0_437 w = some (rZ, wZ)) : E (PC S) RL cL_law 33 2000 437 [some (.retAddr 3), some (.ref 0), some (.ref 76), some (.ref 77), none, some (.ref 79), some (.int p6_437), none, some (.int p8_437), none, none, none, none, some (.int p13_437), some (.int p14_437), none, none, none, none, none, none, none, none, none, none, none, none, none, none, none, none, none, none] [.int q0_437] w Q := by
  unfold bL_law1_437 at hf
  refine E_aload_n (v := 0) dL_law_437 rfl ?_
  obtain ⟨r261, w262, hc260, hf⟩ := bd2_some hf
  try dsimp only at hf
  refine E_callVi (rest := [.int q0_437]) (ci := 11) cv_RL_71 dL_law_438 (MX11_late hc260) rfl sC_0 rfl (by decide) rfl rfl (fun _ => Nat.le_of_ble_eq_true rfl) ?_
  refine E_if_ne 448 dL_law_441 (by decide) (fun hc264 => ?_) (fun hc264 => ?_)
  · rw [if_pos hc264] at hf
    refine E_iconst 1 dL_law_444 ic_1 ?_
    refine E_goto 449 dL_law_445 (by decide) ?_
    exact BL_law1_449 N S k p6_437 p8_437 p13_437 p14_437 1 q0_437 w262  rZ wZ eQ hf
  · rw [if_neg hc264] at hf
    refine E_iconst 0 dL_law_448 ic_0 ?_
    exact BL_law1_449 N S k p6_437 p8_437 p13_437 p14_437 0 q0_437 w262  rZ wZ eQ hf
set_option maxRecDepth 10000 in
set_option maxHeartbeats 2000000 in
theorem BL_law1_370 (N : Nat) (S : SC) (k : Int32 → Int32 → AW → Option (Int32 × AW)) (p6_370 : Int32) (p8_370 : Int32) (p13_370 : Int32) (p14_370 : Int32) (q0_370 : Int32) (q1_370 : Int32) (w : AW) (rZ : Int32) (wZ : AW) {Q : Nat → List (Option Value) → List Value → AW → Prop} (eQ : Q = QL k rZ wZ) (hf : bL_law1_370 N S k p6_370 p8_370 p13_370 p14_370 q0_370 q1_370 w = some (rZ, wZ)) : E (PC S) RL cL_law 33 2000 370 [some (.retAddr 3), some (.ref 0), some (.ref 76), some (.ref 77), none, some (.ref 79), some (.int p6_370), none, some (.int p8_370), none, none, none, none, some (.int p13_370), some (.int p14_370), none, none, none, none, none, none, none, none, none, none, none, none, none, none, none, none, none, none] [.int q0_370, .int q1_370] w Q := by
  unfold bL_law1_370 at hf
  refine E_icmp_eq 375 dL_law_370 (by decide) (fun hc104 => ?_) (fun hc104 => ?_)
  · rw [if_pos hc104] at hf
    refine E_aload_n (v := 0) dL_law_375 rfl ?_
    refine E_iconst 0 dL_law_376 ic_0 ?_
    obtain ⟨r106, w107, hc105, hf⟩ := bd2_some hf
    try dsimp only at hf
    refine E_callVi (rest := []) (ci := 11) cv_RL_80 dL_law_377 (MX11_sure hc105) rfl sC_0 rfl (by decide) rfl rfl (fun _ => Nat.le_of_ble_eq_true rfl) ?_
    refine E_istore (ls' := [some (.retAddr 3), some (.ref 0), some (.ref 76), some (.ref 77), none, some (.ref 79), some (.int p6_370), none, some (.int p8_370), none, none, none, none, some (.int p13_370), some (.int p14_370), some (.int r106), none, none, none, none, none, none, none, none, none, none, none, none, none, none, none, none, none]) dL_law_380 rfl rfl rfl ?_
    refine E_aload_n (v := 0) dL_law_382 rfl ?_
    refine E_iconst 1 dL_law_383 ic_1 ?_
    obtain ⟨r110, w111, hc109, hf⟩ := bd2_some hf
    try dsimp only at hf
    refine E_callVi (rest := []) (ci := 11) cv_RL_80 dL_law_384 (MX11_sure hc109) rfl sC_0 rfl (by decide) rfl rfl (fun _ => Nat.le_of_ble_eq_true rfl) ?_
    refine E_istore (ls' := [some (.retAddr 3), some (.ref 0), some (.ref 76), some (.ref 77), none, some (.ref 79), some (.int p6_370), none, some (.int p8_370), none, none, none, none, some (.int p13_370), some (.int p14_370), some (.int r106), some (.int r110), none, none, none, none, none, none, none, none, none, none, none, none, none, none, none, none]) dL_law_387 rfl rfl rfl ?_
    refine E_iload (v := r106) dL_law_389 rfl ?_
    refine E_if_lt 479 dL_law_391 (by decide) (fun hc113 => ?_) (fun hc113 => ?_)
    · rw [if_pos hc113] at hf
      refine E_iconst 0 dL_law_479 ic_0 ?_
      obtain ⟨rfl, rfl⟩ := ret2 hf
      exact E.done (by rw [eQ]; exact (Or.inl (⟨rfl, Or.inl ⟨_, _, rfl, rfl, dL_law_480, rfl, rfl⟩⟩)))
    · rw [if_neg hc113] at hf
      refine E_iload (v := r106) dL_law_394 rfl ?_
      refine E_iload (v := r110) dL_law_396 rfl ?_
      refine E_icmp_gt 479 dL_law_398 (by decide) (fun hc114 => ?_) (fun hc114 => ?_)
      · rw [if_pos hc114] at hf
        refine E_iconst 0 dL_law_479 ic_0 ?_
        obtain ⟨rfl, rfl⟩ := ret2 hf
        exact E.done (by rw [eQ]; exact (Or.inl (⟨rfl, Or.inl ⟨_, _, rfl, rfl, dL_law_480, rfl, rfl⟩⟩)))
      · rw [if_neg hc114] at hf
        refine E_aload_n (v := 0) dL_law_401 rfl ?_
        refine E_iconst 1 dL_law_402 ic_1 ?_
        obtain ⟨r116, w117, hc115, hf⟩ := bd2_some hf
        try dsimp only at hf
        refine E_callVi (rest := []) (ci := 11) cv_RL_83 dL_law_403 (MX11_safest hc115) rfl sC_0 rfl (by decide) rfl rfl (fun _ => Nat.le_of_ble_eq_true rfl) ?_
        refine E_iload (v := r110) dL_law_406 rfl ?_
        refine E_imul dL_law_408 ?_
        refine E_iload (v := r106) dL_law_409 rfl ?_
        refine E_aload_n (v := 0) dL_law_411 rfl ?_
        refine E_iconst 2 dL_law_412 ic_2 ?_
        obtain ⟨r120, w121, hc119, hf⟩ := bd2_some hf
        try dsimp only at hf
        refine E_callVi (rest := [.int r106, .int (r116 * r110)]) (ci := 11) cv_RL_83 dL_law_413 (MX11_safest hc119) rfl sC_0 rfl (by decide) rfl rfl (fun _ => Nat.le_of_ble_eq_true rfl) ?_
        refine E_imul dL_law_416 ?_
        refine E_icmp_lt 479 dL_law_417 (by decide) (fun hc123 => ?_) (fun hc123 => ?_)
        · rw [if_pos hc123] at hf
          refine E_iconst 0 dL_law_479 ic_0 ?_
          obtain ⟨rfl, rfl⟩ := ret2 hf
          exact E.done (by rw [eQ]; exact (Or.inl (⟨rfl, Or.inl ⟨_, _, rfl, rfl, dL_law_480, rfl, rfl⟩⟩)))
        · rw [if_neg hc123] at hf
          refine E_aload_n (v := 77) dL_law_420 rfl ?_
          refine E_iconst 3 dL_law_421 ic_3 ?_
          refine E_iald (n := 4) dL_law_422 sC_77 (by decide) (inb_in (by decide)) ?_
          refine E_iconst 4 dL_law_423 ic_4 ?_
          refine E_icmp_ge 452 dL_law_424 (by decide) (fun hc124 => ?_) (fun hc124 => ?_)
          · rw [if_pos hc124] at hf
            refine E.fewer (ls' := [some (.retAddr 3), some (.ref 0), some (.ref 76), some (.ref 77), none, some (.ref 79), some (.int p6_370), none, some (.int p8_370), none, none, none, none, some (.int p13_370), some (.int p14_370), none, none, none, none, none, none, none, none, none, none, none, none, none, none, none, none, none, none]) ⟨Or.inr rfl, ⟨Or.inr rfl, ⟨Or.inr rfl, ⟨Or.inr rfl, ⟨Or.inl rfl, ⟨Or.inr rfl, ⟨Or.inr rfl, ⟨Or.inl rfl, ⟨Or.inr rfl, ⟨Or.inl rfl, ⟨Or.inl rfl, ⟨Or.inl rfl, ⟨Or.inl rfl, ⟨Or.inr rfl, ⟨Or.inr rfl, ⟨Or.inl rfl, ⟨Or.inl rfl, ⟨Or.inl rfl, ⟨Or.inl rfl, ⟨Or.inl rfl, ⟨Or.inl rfl, ⟨Or.inl rfl, ⟨Or.inl rfl, ⟨Or.inl rfl, ⟨Or.inl rfl, ⟨Or.inl rfl, ⟨Or.inl rfl, ⟨Or.inl rfl, ⟨Or.inl rfl, ⟨Or.inl rfl, ⟨Or.inl rfl, ⟨Or.inl rfl, ⟨Or.inl rfl, trivial⟩⟩⟩⟩⟩⟩⟩⟩⟩⟩⟩⟩⟩⟩⟩⟩⟩⟩⟩⟩⟩⟩⟩⟩⟩⟩⟩⟩⟩⟩⟩⟩⟩ ?_
            exact BL_law1_452 N S k p6_370 p8_370 p13_370 p14_370 w121  rZ wZ eQ hf
          · rw [if_neg hc124] at hf
            refine E_iload (v := r106) dL_law_427 rfl ?_
            refine E_if_le 436 dL_law_429 (by decide) (fun hc259 => ?_) (fun hc259 => ?_)
            · rw [if_pos hc259] at hf
              refine E_iconst 0 dL_law_436 ic_0 ?_
              refine E.fewer (ls' := [some (.retAddr 3), some (.ref 0), some (.ref 76), some (.ref 77), none, some (.ref 79), some (.int p6_370), none, some (.int p8_370), none, none, none, none, some (.int p13_370), some (.int p14_370), none, none, none, none, none, none, none, none, none, none, none, none, none, none, none, none, none, none]) ⟨Or.inr rfl, ⟨Or.inr rfl, ⟨Or.inr rfl, ⟨Or.inr rfl, ⟨Or.inl rfl, ⟨Or.inr rfl, ⟨Or.inr rfl, ⟨Or.inl rfl, ⟨Or.inr rfl, ⟨Or.inl rfl, ⟨Or.inl rfl, ⟨Or.inl rfl, ⟨Or.inl rfl, ⟨Or.inr rfl, ⟨Or.inr rfl, ⟨Or.inl rfl, ⟨Or.inl rfl, ⟨Or.inl rfl, ⟨Or.inl rfl, ⟨Or.inl rfl, ⟨Or.inl rfl, ⟨Or.inl rfl, ⟨Or.inl rfl, ⟨Or.inl rfl, ⟨Or.inl rfl, ⟨Or.inl rfl, ⟨Or.inl rfl, ⟨Or.inl rfl, ⟨Or.inl rfl, ⟨Or.inl rfl, ⟨Or.inl rfl, ⟨Or.inl rfl, ⟨Or.inl rfl, trivial⟩⟩⟩⟩⟩⟩⟩⟩⟩⟩⟩⟩⟩⟩⟩⟩⟩⟩⟩⟩⟩⟩⟩⟩⟩⟩⟩⟩⟩⟩⟩⟩⟩ ?_
              exact BL_law1_437 N S k p6_370 p8_370 p13_370 p14_370 0 w121  rZ wZ eQ hf
            · rw [if_neg hc259] at hf
              refine E_iconst 1 dL_law_432 ic_1 ?_
              refine E_goto 437 dL_law_433 (by decide) ?_
              refine E.fewer (ls' := [some (.retAddr 3), some (.ref 0), some (.ref 76), some (.ref 77), none, some (.ref 79), some (.int p6_370), none, some (.int p8_370), none, none, none, none, some (.int p13_370), some (.int p14_370), none, none, none, none, none, none, none, none, none, none, none, none, none, none, none, none, none, none]) ⟨Or.inr rfl, ⟨Or.inr rfl, ⟨Or.inr rfl, ⟨Or.inr rfl, ⟨Or.inl rfl, ⟨Or.inr rfl, ⟨Or.inr rfl, ⟨Or.inl rfl, ⟨Or.inr rfl, ⟨Or.inl rfl, ⟨Or.inl rfl, ⟨Or.inl rfl, ⟨Or.inl rfl, ⟨Or.inr rfl, ⟨Or.inr rfl, ⟨Or.inl rfl, ⟨Or.inl rfl, ⟨Or.inl rfl, ⟨Or.inl rfl, ⟨Or.inl rfl, ⟨Or.inl rfl, ⟨Or.inl rfl, ⟨Or.inl rfl, ⟨Or.inl rfl, ⟨Or.inl rfl, ⟨Or.inl rfl, ⟨Or.inl rfl, ⟨Or.inl rfl, ⟨Or.inl rfl, ⟨Or.inl rfl, ⟨Or.inl rfl, ⟨Or.inl rfl, ⟨Or.inl rfl, trivial⟩⟩⟩⟩⟩⟩⟩⟩⟩⟩⟩⟩⟩⟩⟩⟩⟩⟩⟩⟩⟩⟩⟩⟩⟩⟩⟩⟩⟩⟩⟩⟩⟩ ?_
              exact BL_law1_437 N S k p6_370 p8_370 p13_370 p14_370 1 w121  rZ wZ eQ hf
  · rw [if_neg hc104] at hf
    refine E_iconst 0 dL_law_373 ic_0 ?_
    obtain ⟨rfl, rfl⟩ := ret2 hf
    exact E.done (by rw [eQ]; exact (Or.inl (⟨rfl, Or.inl ⟨_, _, rfl, rfl, dL_law_374, rfl, rfl⟩⟩)))
set_option maxRecDepth 10000 in
set_option maxHeartbeats 2000000 in
theorem BL_law1_360 (N : Nat) (S : SC) (k : Int32 → Int32 → AW → Option (Int32 × AW)) (p6_360 : Int32) (p8_360 : Int32) (p13_360 : Int32) (p14_360 : Int32) (q0_360 : Int32) (w : AW) (rZ : Int32) (wZ : AW) {Q : Nat → List (Option Value) → List Value → AW → Prop} (eQ : Q = QL k rZ wZ) (hf : bL_law1_360 N S k p6_360 p8_360 p13_360 p14_360 q0_360 w = some (rZ, wZ)) : E (PC S) RL cL_law 33 2000 360 [some (.retAddr 3), some (.ref 0), some (.ref 76), some (.ref 77), none, some (.ref 79), some (.int p6_360), none, some (.int p8_360), none, none, none, none, some (.int p13_360), some (.int p14_360), none, none, none, none, none, none, none, none, none, none, none, none, none, none, none, none, none, none] [.int q0_360] w Q := by
  unfold bL_law1_360 at hf
  refine E_iload (v := p14_360) dL_law_360 rfl ?_
  refine E_if_ne 369 dL_law_362 (by decide) (fun hc103 => ?_) (fun hc103 => ?_)
  · rw [if_pos hc103] at hf
    refine E_iconst 1 dL_law_365 ic_1 ?_
    refine E_goto 370 dL_law_366 (by decide) ?_
    exact BL_law1_370 N S k p6_360 p8_360 p13_360 p14_360 1 q0_360 w  rZ wZ eQ hf
  · rw [if_neg hc103] at hf
    refine E_iconst 0 dL_law_369 ic_0 ?_
    exact BL_law1_370 N S k p6_360 p8_360 p13_360 p14_360 0 q0_360 w  rZ wZ eQ hf
set_option maxRecDepth 10000 in
set_option maxHeartbeats 2000000 in
theorem BL_law1_348 (N : Nat) (S : SC) (k : Int32 → Int32 → AW → Option (Int32 × AW)) (p6_348 : Int32) (p8_348 : Int32) (p13_348 : Int32) (p14_348 : Int32) (w : AW) (rZ : Int32) (wZ : AW) {Q : Nat → List (Option Value) → List Value → AW → Prop} (eQ : Q = QL k rZ wZ) (hf : bL_law1_348 N S k p6_348 p8_348 p13_348 p14_348 w = some (rZ, wZ)) : E (PC S) RL cL_law 33 2000 348 [some (.retAddr 3), some (.ref 0), some (.ref 76), some (.ref 77), none, some (.ref 79), some (.int p6_348), none, some (.int p8_348), none, none, none, none, some (.int p13_348), some (.int p14_348), none, none, none, none, none, none, none, none, none, none, none, none, none, none, none, none, none, none] [] w Q := by
  unfold bL_law1_348 at hf
  refine E_aload_n (v := 0) dL_law_348 rfl ?_
  obtain ⟨r99, w100, hc98, hf⟩ := bd2_some hf
  try dsimp only at hf
  refine E_callVi (rest := []) (ci := 11) cv_RL_77 dL_law_349 (MX11_nights hc98) rfl sC_0 rfl (by decide) rfl rfl (fun _ => Nat.le_of_ble_eq_true rfl) ?_
  refine E_if_ne 359 dL_law_352 (by decide) (fun hc102 => ?_) (fun hc102 => ?_)
  · rw [if_pos hc102] at hf
    refine E_iconst 1 dL_law_355 ic_1 ?_
    refine E_goto 360 dL_law_356 (by decide) ?_
    exact BL_law1_360 N S k p6_348 p8_348 p13_348 p14_348 1 w100  rZ wZ eQ hf
  · rw [if_neg hc102] at hf
    refine E_iconst 0 dL_law_359 ic_0 ?_
    exact BL_law1_360 N S k p6_348 p8_348 p13_348 p14_348 0 w100  rZ wZ eQ hf
set_option maxRecDepth 10000 in
set_option maxHeartbeats 4000000 in
theorem ML_law1 (N : Nat) (S : SC) (k : Int32 → Int32 → AW → Option (Int32 × AW)) (w : AW) (rZ : Int32) (wZ : AW) {Q : Nat → List (Option Value) → List Value → AW → Prop} (eQ : Q = QL k rZ wZ) (hf : fL_law1 N S k w = some (rZ, wZ)) : E (PC S) RL cL_law 33 2000 29 [some (.retAddr 3), some (.ref 0), some (.ref 76), some (.ref 77), some (.ref 78), some (.ref 79), none, none, none, none, none, none, none, none, none, none, none, none, none, none, none, none, none, none, none, none, none, none, none, none, none, none, none] [] w Q := by
  unfold fL_law1 at hf
  refine E_iconst 1 dL_law_29 ic_1 ?_
  refine E_aloadx_n dL_law_30 rfl ?_
  refine E_bipush 8 dL_law_31 bp_8 ?_
  obtain ⟨r2, hc1, hf⟩ := bd_some hf
  try dsimp only at hf
  refine E_callSi (rest := [.int 1]) cs_RL_17 dL_law_33 (ML_at hc1) rfl rfl rfl (fun _ => Nat.le_of_ble_eq_true rfl) ?_
  refine E_iconst 5 dL_law_36 ic_5 ?_
  obtain ⟨r4, hc3, hf⟩ := bd_some hf
  try dsimp only at hf
  refine E_callSi (rest := [.int 1]) cs_RL_21 dL_law_37 (ML_mod hc3) rfl rfl rfl (fun _ => Nat.le_of_ble_eq_true rfl) ?_
  refine E_iadd dL_law_40 ?_
  refine E_istore (ls' := [some (.retAddr 3), some (.ref 0), some (.ref 76), some (.ref 77), some (.ref 78), some (.ref 79), some (.int (1 + r4)), none, none, none, none, none, none, none, none, none, none, none, none, none, none, none, none, none, none, none, none, none, none, none, none, none, none]) dL_law_41 rfl rfl rfl ?_
  refine E_aload_n (v := 0) dL_law_43 rfl ?_
  refine E_aloadx_n dL_law_44 rfl ?_
  refine E_iload (v := (1 + r4)) dL_law_45 rfl ?_
  refine E_aload_n (v := 76) dL_law_47 rfl ?_
  refine E_aload_n (v := 77) dL_law_48 rfl ?_
  refine E_aload (v := 78) dL_law_49 rfl ?_
  refine E_aload (v := 79) dL_law_51 rfl ?_
  obtain ⟨r6, w7, hc5, hf⟩ := bd2_some hf
  try dsimp only at hf
  refine E_callSi (rest := []) cs_RL_41 dL_law_53 (ML_lay hc5) rfl rfl rfl (fun _ => Nat.le_of_ble_eq_true rfl) ?_
  refine E_iload (v := (1 + r4)) dL_law_56 rfl ?_
  refine E_icmp_eq 63 dL_law_58 (by decide) (fun hc9 => ?_) (fun hc9 => ?_)
  · rw [if_pos hc9] at hf
    refine E_aload_n (v := 0) dL_law_63 rfl ?_
    obtain ⟨r11, w12, hc10, hf⟩ := bd2_some hf
    try dsimp only at hf
    refine E_callVi (rest := []) (ci := 11) cv_RL_45 dL_law_64 (MX11_worth hc10) rfl sC_0 rfl (by decide) rfl rfl (fun _ => Nat.le_of_ble_eq_true rfl) ?_
    refine E_istore (ls' := [some (.retAddr 3), some (.ref 0), some (.ref 76), some (.ref 77), some (.ref 78), some (.ref 79), some (.int (1 + r4)), some (.int r11), none, none, none, none, none, none, none, none, none, none, none, none, none, none, none, none, none, none, none, none, none, none, none, none, none]) dL_law_67 rfl rfl rfl ?_
    refine E_aload_n (v := 0) dL_law_69 rfl ?_
    refine E_iconst 0 dL_law_70 ic_0 ?_
    obtain ⟨r15, w16, hc14, hf⟩ := bd2_some hf
    try dsimp only at hf
    refine E_callVi (rest := []) (ci := 11) cv_RL_48 dL_law_71 (MX11_best hc14) rfl sC_0 rfl (by decide) rfl rfl (fun _ => Nat.le_of_ble_eq_true rfl) ?_
    refine E_istore (ls' := [some (.retAddr 3), some (.ref 0), some (.ref 76), some (.ref 77), some (.ref 78), some (.ref 79), some (.int (1 + r4)), some (.int r11), some (.int r15), none, none, none, none, none, none, none, none, none, none, none, none, none, none, none, none, none, none, none, none, none, none, none, none]) dL_law_74 rfl rfl rfl ?_
    refine E_aload_n (v := 0) dL_law_76 rfl ?_
    refine E_iconst 1 dL_law_77 ic_1 ?_
    obtain ⟨r19, w20, hc18, hf⟩ := bd2_some hf
    try dsimp only at hf
    refine E_callVi (rest := []) (ci := 11) cv_RL_48 dL_law_78 (MX11_best hc18) rfl sC_0 rfl (by decide) rfl rfl (fun _ => Nat.le_of_ble_eq_true rfl) ?_
    refine E_istore (ls' := [some (.retAddr 3), some (.ref 0), some (.ref 76), some (.ref 77), some (.ref 78), some (.ref 79), some (.int (1 + r4)), some (.int r11), some (.int r15), some (.int r19), none, none, none, none, none, none, none, none, none, none, none, none, none, none, none, none, none, none, none, none, none, none, none]) dL_law_81 rfl rfl rfl ?_
    refine E_iload (v := r11) dL_law_83 rfl ?_
    refine E_iload (v := r15) dL_law_85 rfl ?_
    refine E_icmp_gt 155 dL_law_87 (by decide) (fun hc22 => ?_) (fun hc22 => ?_)
    · rw [if_pos hc22] at hf
      refine E_iconst 0 dL_law_155 ic_0 ?_
      obtain ⟨rfl, rfl⟩ := ret2 hf
      exact E.done (by rw [eQ]; exact (Or.inl (⟨rfl, Or.inl ⟨_, _, rfl, rfl, dL_law_156, rfl, rfl⟩⟩)))
    · rw [if_neg hc22] at hf
      refine E_iload (v := r19) dL_law_90 rfl ?_
      refine E_iload (v := (1 + r4)) dL_law_92 rfl ?_
      obtain ⟨r24, hc23, hf⟩ := bd_some hf
      try dsimp only at hf
      refine E_callSi (rest := []) cs_RL_52 dL_law_94 (ML_isOrder hc23) rfl rfl rfl (fun _ => Nat.le_of_ble_eq_true rfl) ?_
      refine E_if_eq 155 dL_law_97 (by decide) (fun hc25 => ?_) (fun hc25 => ?_)
      · rw [if_pos hc25] at hf
        refine E_iconst 0 dL_law_155 ic_0 ?_
        obtain ⟨rfl, rfl⟩ := ret2 hf
        exact E.done (by rw [eQ]; exact (Or.inl (⟨rfl, Or.inl ⟨_, _, rfl, rfl, dL_law_156, rfl, rfl⟩⟩)))
      · rw [if_neg hc25] at hf
        refine E_aload_n (v := 0) dL_law_100 rfl ?_
        refine E_iload (v := r19) dL_law_101 rfl ?_
        obtain ⟨r27, w28, hc26, hf⟩ := bd2_some hf
        try dsimp only at hf
        refine E_callVi (rest := []) (ci := 11) cv_RL_56 dL_law_103 (MX11_plan hc26) rfl sC_0 rfl (by decide) rfl rfl (fun _ => Nat.le_of_ble_eq_true rfl) ?_
        refine E_iconst 1 dL_law_106 ic_1 ?_
        refine E_icmp_ne 155 dL_law_107 (by decide) (fun hc30 => ?_) (fun hc30 => ?_)
        · rw [if_pos hc30] at hf
          refine E_aload_n (v := 0) dL_law_110 rfl ?_
          obtain ⟨r32, w33, hc31, hf⟩ := bd2_some hf
          try dsimp only at hf
          refine E_callVi (rest := []) (ci := 11) cv_RL_45 dL_law_111 (MX11_worth hc31) rfl sC_0 rfl (by decide) rfl rfl (fun _ => Nat.le_of_ble_eq_true rfl) ?_
          refine E_iload (v := r15) dL_law_114 rfl ?_
          refine E_icmp_ne 155 dL_law_116 (by decide) (fun hc35 => ?_) (fun hc35 => ?_)
          · rw [if_pos hc35] at hf
            refine E_aload_n (v := 0) dL_law_119 rfl ?_
            refine E_iconst 0 dL_law_120 ic_0 ?_
            obtain ⟨r37, w38, hc36, hf⟩ := bd2_some hf
            try dsimp only at hf
            refine E_callVi (rest := []) (ci := 11) cv_RL_48 dL_law_121 (MX11_best hc36) rfl sC_0 rfl (by decide) rfl rfl (fun _ => Nat.le_of_ble_eq_true rfl) ?_
            refine E_iload (v := r15) dL_law_124 rfl ?_
            refine E_icmp_ne 155 dL_law_126 (by decide) (fun hc40 => ?_) (fun hc40 => ?_)
            · rw [if_pos hc40] at hf
              refine E_aload_n (v := 0) dL_law_129 rfl ?_
              refine E_iconst 1 dL_law_130 ic_1 ?_
              obtain ⟨r42, w43, hc41, hf⟩ := bd2_some hf
              try dsimp only at hf
              refine E_callVi (rest := []) (ci := 11) cv_RL_48 dL_law_131 (MX11_best hc41) rfl sC_0 rfl (by decide) rfl rfl (fun _ => Nat.le_of_ble_eq_true rfl) ?_
              refine E_iload (v := r19) dL_law_134 rfl ?_
              refine E_icmp_ne 155 dL_law_136 (by decide) (fun hc45 => ?_) (fun hc45 => ?_)
              · rw [if_pos hc45] at hf
                refine E_aload_n (v := 0) dL_law_139 rfl ?_
                obtain ⟨r47, w48, hc46, hf⟩ := bd2_some hf
                try dsimp only at hf
                refine E_callVi (rest := []) (ci := 11) cv_RL_59 dL_law_140 (MX11_prove hc46) rfl sC_0 rfl (by decide) rfl rfl (fun _ => Nat.le_of_ble_eq_true rfl) ?_
                refine E_iload (v := (1 + r4)) dL_law_143 rfl ?_
                refine E_icmp_ne 155 dL_law_145 (by decide) (fun hc50 => ?_) (fun hc50 => ?_)
                · rw [if_pos hc50] at hf
                  refine E_aload_n (v := 0) dL_law_148 rfl ?_
                  obtain ⟨r52, w53, hc51, hf⟩ := bd2_some hf
                  try dsimp only at hf
                  refine E_callVi (rest := []) (ci := 11) cv_RL_62 dL_law_149 (MX11_judge hc51) rfl sC_0 rfl (by decide) rfl rfl (fun _ => Nat.le_of_ble_eq_true rfl) ?_
                  refine E_if_eq 157 dL_law_152 (by decide) (fun hc55 => ?_) (fun hc55 => ?_)
                  · rw [if_pos hc55] at hf
                    refine E_iconst 0 dL_law_157 ic_0 ?_
                    refine E_istore (ls' := [some (.retAddr 3), some (.ref 0), some (.ref 76), some (.ref 77), some (.ref 78), some (.ref 79), some (.int (1 + r4)), some (.int r11), some (.int r15), some (.int r19), some (.int 0), none, none, none, none, none, none, none, none, none, none, none, none, none, none, none, none, none, none, none, none, none, none]) dL_law_158 rfl rfl rfl ?_
                    refine E_iconst 0 dL_law_160 ic_0 ?_
                    refine E_istore (ls' := [some (.retAddr 3), some (.ref 0), some (.ref 76), some (.ref 77), some (.ref 78), some (.ref 79), some (.int (1 + r4)), some (.int r11), some (.int r15), some (.int r19), some (.int 0), some (.int 0), none, none, none, none, none, none, none, none, none, none, none, none, none, none, none, none, none, none, none, none, none]) dL_law_161 rfl rfl rfl ?_
                    refine E_iconst 0 dL_law_163 ic_0 ?_
                    refine E_istore (ls' := [some (.retAddr 3), some (.ref 0), some (.ref 76), some (.ref 77), some (.ref 78), some (.ref 79), some (.int (1 + r4)), some (.int r11), some (.int r15), some (.int r19), some (.int 0), some (.int 0), some (.int 0), none, none, none, none, none, none, none, none, none, none, none, none, none, none, none, none, none, none, none, none]) dL_law_164 rfl rfl rfl ?_
                    obtain ⟨q, hw74, hf⟩ := bd_some hf
                    try dsimp only at hf
                    refine E.fewer (ls' := [some (.retAddr 3), some (.ref 0), some (.ref 76), some (.ref 77), none, some (.ref 79), some (.int (1 + r4)), none, some (.int r15), some (.int r19), some (.int 0), some (.int 0), some (.int 0), none, none, none, none, none, none, none, none, none, none, none, none, none, none, none, none, none, none, none, none]) ⟨Or.inr rfl, ⟨Or.inr rfl, ⟨Or.inr rfl, ⟨Or.inr rfl, ⟨Or.inl rfl, ⟨Or.inr rfl, ⟨Or.inr rfl, ⟨Or.inl rfl, ⟨Or.inr rfl, ⟨Or.inr rfl, ⟨Or.inr rfl, ⟨Or.inr rfl, ⟨Or.inr rfl, ⟨Or.inl rfl, ⟨Or.inl rfl, ⟨Or.inl rfl, ⟨Or.inl rfl, ⟨Or.inl rfl, ⟨Or.inl rfl, ⟨Or.inl rfl, ⟨Or.inl rfl, ⟨Or.inl rfl, ⟨Or.inl rfl, ⟨Or.inl rfl, ⟨Or.inl rfl, ⟨Or.inl rfl, ⟨Or.inl rfl, ⟨Or.inl rfl, ⟨Or.inl rfl, ⟨Or.inl rfl, ⟨Or.inl rfl, ⟨Or.inl rfl, ⟨Or.inl rfl, trivial⟩⟩⟩⟩⟩⟩⟩⟩⟩⟩⟩⟩⟩⟩⟩⟩⟩⟩⟩⟩⟩⟩⟩⟩⟩⟩⟩⟩⟩⟩⟩⟩⟩ ?_
                    show (fun (s : Int32 × Int32 × Int32 × AW) => E (PC S) RL cL_law 33 2000 166 [some (.retAddr 3), some (.ref 0), some (.ref 76), some (.ref 77), none, some (.ref 79), some (.int (1 + r4)), none, some (.int r15), some (.int r19), some (.int s.1), some (.int s.2.1), some (.int s.2.2.1), none, none, none, none, none, none, none, none, none, none, none, none, none, none, none, none, none, none, none, none] [] s.2.2.2 Q) (0, 0, 0, w53)
                    refine wh_E (K := (fun (s : Int32 × Int32 × Int32 × AW) => E (PC S) RL cL_law 33 2000 166 [some (.retAddr 3), some (.ref 0), some (.ref 76), some (.ref 77), none, some (.ref 79), some (.int (1 + r4)), none, some (.int r15), some (.int r19), some (.int s.1), some (.int s.2.1), some (.int s.2.2.1), none, none, none, none, none, none, none, none, none, none, none, none, none, none, none, none, none, none, none, none] [] s.2.2.2 Q)) (X := (se (fun (s : Int32 × AW) => E (PC S) RL cL_law 33 2000 258 [some (.retAddr 3), some (.ref 0), some (.ref 76), some (.ref 77), none, some (.ref 79), some (.int (1 + r4)), none, some (.int r15), none, some (.int s.1), none, none, none, none, none, none, none, none, none, none, none, none, none, none, none, none, none, none, none, none, none, none] [] s.2 Q) (fun (s : AW) => E (PC S) RL cL_law 33 2000 229 [none, none, none, none, none, none, none, none, none, none, none, none, none, none, none, none, none, none, none, none, none, none, none, none, none, none, none, none, none, none, none, none, none] [] s Q))) ?_ hw74 ?_
                    · intro s9 z9 hf k9
                      obtain ⟨x10_166_1, x11_166_1, x12_166_1, w_166_1⟩ := s9
                      dsimp only [lbL_law1_166_1] at hf
                      show E (PC S) RL cL_law 33 2000 166 [some (.retAddr 3), some (.ref 0), some (.ref 76), some (.ref 77), none, some (.ref 79), some (.int (1 + r4)), none, some (.int r15), some (.int r19), some (.int x10_166_1), some (.int x11_166_1), some (.int x12_166_1), none, none, none, none, none, none, none, none, none, none, none, none, none, none, none, none, none, none, none, none] [] w_166_1 Q
                      refine E_iload (v := x12_166_1) dL_law_166 rfl ?_
                      refine E_iload (v := (1 + r4)) dL_law_168 rfl ?_
                      refine E_icmp_ge 258 dL_law_170 (by decide) (fun hc56 => ?_) (fun hc56 => ?_)
                      · rw [if_pos hc56] at hf
                        obtain rfl := Option.some.inj hf
                        refine E.fewer (ls' := [some (.retAddr 3), some (.ref 0), some (.ref 76), some (.ref 77), none, some (.ref 79), some (.int (1 + r4)), none, some (.int r15), none, some (.int x10_166_1), none, none, none, none, none, none, none, none, none, none, none, none, none, none, none, none, none, none, none, none, none, none]) ⟨Or.inr rfl, ⟨Or.inr rfl, ⟨Or.inr rfl, ⟨Or.inr rfl, ⟨Or.inl rfl, ⟨Or.inr rfl, ⟨Or.inr rfl, ⟨Or.inl rfl, ⟨Or.inr rfl, ⟨Or.inl rfl, ⟨Or.inr rfl, ⟨Or.inl rfl, ⟨Or.inl rfl, ⟨Or.inl rfl, ⟨Or.inl rfl, ⟨Or.inl rfl, ⟨Or.inl rfl, ⟨Or.inl rfl, ⟨Or.inl rfl, ⟨Or.inl rfl, ⟨Or.inl rfl, ⟨Or.inl rfl, ⟨Or.inl rfl, ⟨Or.inl rfl, ⟨Or.inl rfl, ⟨Or.inl rfl, ⟨Or.inl rfl, ⟨Or.inl rfl, ⟨Or.inl rfl, ⟨Or.inl rfl, ⟨Or.inl rfl, ⟨Or.inl rfl, ⟨Or.inl rfl, trivial⟩⟩⟩⟩⟩⟩⟩⟩⟩⟩⟩⟩⟩⟩⟩⟩⟩⟩⟩⟩⟩⟩⟩⟩⟩⟩⟩⟩⟩⟩⟩⟩⟩ ?_
                        exact k9
                      · rw [if_neg hc56] at hf
                        refine E_aload_n (v := 0) dL_law_173 rfl ?_
                        refine E_iload (v := x12_166_1) dL_law_174 rfl ?_
                        refine E_iconst 0 dL_law_176 ic_0 ?_
                        obtain ⟨r58, hc57, hf⟩ := bd_some hf
                        try dsimp only at hf
                        refine E_callVi (rest := []) (ci := 11) cv_RL_65 dL_law_177 (MX11_row hc57) rfl sC_0 rfl (by decide) rfl rfl (fun _ => Nat.le_of_ble_eq_true rfl) ?_
                        refine E_iload (v := r19) dL_law_180 rfl ?_
                        refine E_iconst 3 dL_law_182 ic_3 ?_
                        refine E_iload (v := x12_166_1) dL_law_183 rfl ?_
                        refine E_imul dL_law_185 ?_
                        refine E_ishr dL_law_186 ?_
                        refine E_bipush 7 dL_law_187 bp_7 ?_
                        refine E_iand dL_law_189 ?_
                        refine E_icmp_ne 229 dL_law_190 (by decide) (fun hc59 => ?_) (fun hc59 => ?_)
                        · rw [if_pos hc59] at hf
                          refine E_aload_n (v := 0) dL_law_193 rfl ?_
                          refine E_iload (v := x12_166_1) dL_law_194 rfl ?_
                          refine E_iconst 1 dL_law_196 ic_1 ?_
                          obtain ⟨r61, hc60, hf⟩ := bd_some hf
                          try dsimp only at hf
                          refine E_callVi (rest := []) (ci := 11) cv_RL_65 dL_law_197 (MX11_row hc60) rfl sC_0 rfl (by decide) rfl rfl (fun _ => Nat.le_of_ble_eq_true rfl) ?_
                          refine E_aload_n (v := 0) dL_law_200 rfl ?_
                          refine E_iload (v := r19) dL_law_201 rfl ?_
                          refine E_iconst 3 dL_law_203 ic_3 ?_
                          refine E_iload (v := x12_166_1) dL_law_204 rfl ?_
                          refine E_imul dL_law_206 ?_
                          refine E_ishr dL_law_207 ?_
                          refine E_bipush 7 dL_law_208 bp_7 ?_
                          refine E_iand dL_law_210 ?_
                          obtain ⟨r63, w64, hc62, hf⟩ := bd2_some hf
                          try dsimp only at hf
                          refine E_callVi (rest := [.int r61]) (ci := 11) cv_RL_68 dL_law_211 (MX11_ends hc62) rfl sC_0 rfl (by decide) rfl rfl (fun _ => Nat.le_of_ble_eq_true rfl) ?_
                          refine E_icmp_ne 229 dL_law_214 (by decide) (fun hc66 => ?_) (fun hc66 => ?_)
                          · rw [if_pos hc66] at hf
                            refine E_aload_n (v := 0) dL_law_217 rfl ?_
                            refine E_iload (v := x12_166_1) dL_law_218 rfl ?_
                            refine E_iconst 1 dL_law_220 ic_1 ?_
                            obtain ⟨r68, hc67, hf⟩ := bd_some hf
                            try dsimp only at hf
                            refine E_callVi (rest := []) (ci := 11) cv_RL_65 dL_law_221 (MX11_row hc67) rfl sC_0 rfl (by decide) rfl rfl (fun _ => Nat.le_of_ble_eq_true rfl) ?_
                            refine E_iload (v := x11_166_1) dL_law_224 rfl ?_
                            refine E_icmp_ge 231 dL_law_226 (by decide) (fun hc69 => ?_) (fun hc69 => ?_)
                            · rw [if_pos hc69] at hf
                              refine E_aload_n (v := 0) dL_law_231 rfl ?_
                              refine E_iload (v := x12_166_1) dL_law_232 rfl ?_
                              refine E_iconst 1 dL_law_234 ic_1 ?_
                              obtain ⟨r71, hc70, hf⟩ := bd_some hf
                              try dsimp only at hf
                              refine E_callVi (rest := []) (ci := 11) cv_RL_65 dL_law_235 (MX11_row hc70) rfl sC_0 rfl (by decide) rfl rfl (fun _ => Nat.le_of_ble_eq_true rfl) ?_
                              refine E_istore (ls' := [some (.retAddr 3), some (.ref 0), some (.ref 76), some (.ref 77), none, some (.ref 79), some (.int (1 + r4)), none, some (.int r15), some (.int r19), some (.int x10_166_1), some (.int r71), some (.int x12_166_1), none, none, none, none, none, none, none, none, none, none, none, none, none, none, none, none, none, none, none, none]) dL_law_238 rfl rfl rfl ?_
                              refine E_iload (v := x10_166_1) dL_law_240 rfl ?_
                              refine E_aload_n (v := 0) dL_law_242 rfl ?_
                              refine E_iload (v := x12_166_1) dL_law_243 rfl ?_
                              refine E_iconst 2 dL_law_245 ic_2 ?_
                              obtain ⟨r73, hc72, hf⟩ := bd_some hf
                              try dsimp only at hf
                              refine E_callVi (rest := [.int x10_166_1]) (ci := 11) cv_RL_65 dL_law_246 (MX11_row hc72) rfl sC_0 rfl (by decide) rfl rfl (fun _ => Nat.le_of_ble_eq_true rfl) ?_
                              refine E_iadd dL_law_249 ?_
                              refine E_istore (ls' := [some (.retAddr 3), some (.ref 0), some (.ref 76), some (.ref 77), none, some (.ref 79), some (.int (1 + r4)), none, some (.int r15), some (.int r19), some (.int (x10_166_1 + r73)), some (.int r71), some (.int x12_166_1), none, none, none, none, none, none, none, none, none, none, none, none, none, none, none, none, none, none, none, none]) dL_law_250 rfl rfl rfl ?_
                              refine E_iinc (ls' := [some (.retAddr 3), some (.ref 0), some (.ref 76), some (.ref 77), none, some (.ref 79), some (.int (1 + r4)), none, some (.int r15), some (.int r19), some (.int (x10_166_1 + r73)), some (.int r71), some (.int (x12_166_1 + 1)), none, none, none, none, none, none, none, none, none, none, none, none, none, none, none, none, none, none, none, none]) 1 dL_law_252 rfl ic_1 rfl rfl rfl ?_
                              refine E_goto 166 dL_law_255 (by decide) ?_
                              obtain rfl := Option.some.inj hf
                              exact k9
                            · rw [if_neg hc69] at hf
                              obtain rfl := Option.some.inj hf
                              refine E.fewer (ls' := [none, none, none, none, none, none, none, none, none, none, none, none, none, none, none, none, none, none, none, none, none, none, none, none, none, none, none, none, none, none, none, none, none]) ⟨Or.inl rfl, ⟨Or.inl rfl, ⟨Or.inl rfl, ⟨Or.inl rfl, ⟨Or.inl rfl, ⟨Or.inl rfl, ⟨Or.inl rfl, ⟨Or.inl rfl, ⟨Or.inl rfl, ⟨Or.inl rfl, ⟨Or.inl rfl, ⟨Or.inl rfl, ⟨Or.inl rfl, ⟨Or.inl rfl, ⟨Or.inl rfl, ⟨Or.inl rfl, ⟨Or.inl rfl, ⟨Or.inl rfl, ⟨Or.inl rfl, ⟨Or.inl rfl, ⟨Or.inl rfl, ⟨Or.inl rfl, ⟨Or.inl rfl, ⟨Or.inl rfl, ⟨Or.inl rfl, ⟨Or.inl rfl, ⟨Or.inl rfl, ⟨Or.inl rfl, ⟨Or.inl rfl, ⟨Or.inl rfl, ⟨Or.inl rfl, ⟨Or.inl rfl, ⟨Or.inl rfl, trivial⟩⟩⟩⟩⟩⟩⟩⟩⟩⟩⟩⟩⟩⟩⟩⟩⟩⟩⟩⟩⟩⟩⟩⟩⟩⟩⟩⟩⟩⟩⟩⟩⟩ ?_
                              exact k9
                          · rw [if_neg hc66] at hf
                            obtain rfl := Option.some.inj hf
                            refine E.fewer (ls' := [none, none, none, none, none, none, none, none, none, none, none, none, none, none, none, none, none, none, none, none, none, none, none, none, none, none, none, none, none, none, none, none, none]) ⟨Or.inl rfl, ⟨Or.inl rfl, ⟨Or.inl rfl, ⟨Or.inl rfl, ⟨Or.inl rfl, ⟨Or.inl rfl, ⟨Or.inl rfl, ⟨Or.inl rfl, ⟨Or.inl rfl, ⟨Or.inl rfl, ⟨Or.inl rfl, ⟨Or.inl rfl, ⟨Or.inl rfl, ⟨Or.inl rfl, ⟨Or.inl rfl, ⟨Or.inl rfl, ⟨Or.inl rfl, ⟨Or.inl rfl, ⟨Or.inl rfl, ⟨Or.inl rfl, ⟨Or.inl rfl, ⟨Or.inl rfl, ⟨Or.inl rfl, ⟨Or.inl rfl, ⟨Or.inl rfl, ⟨Or.inl rfl, ⟨Or.inl rfl, ⟨Or.inl rfl, ⟨Or.inl rfl, ⟨Or.inl rfl, ⟨Or.inl rfl, ⟨Or.inl rfl, ⟨Or.inl rfl, trivial⟩⟩⟩⟩⟩⟩⟩⟩⟩⟩⟩⟩⟩⟩⟩⟩⟩⟩⟩⟩⟩⟩⟩⟩⟩⟩⟩⟩⟩⟩⟩⟩⟩ ?_
                            exact k9
                        · rw [if_neg hc59] at hf
                          obtain rfl := Option.some.inj hf
                          refine E.fewer (ls' := [none, none, none, none, none, none, none, none, none, none, none, none, none, none, none, none, none, none, none, none, none, none, none, none, none, none, none, none, none, none, none, none, none]) ⟨Or.inl rfl, ⟨Or.inl rfl, ⟨Or.inl rfl, ⟨Or.inl rfl, ⟨Or.inl rfl, ⟨Or.inl rfl, ⟨Or.inl rfl, ⟨Or.inl rfl, ⟨Or.inl rfl, ⟨Or.inl rfl, ⟨Or.inl rfl, ⟨Or.inl rfl, ⟨Or.inl rfl, ⟨Or.inl rfl, ⟨Or.inl rfl, ⟨Or.inl rfl, ⟨Or.inl rfl, ⟨Or.inl rfl, ⟨Or.inl rfl, ⟨Or.inl rfl, ⟨Or.inl rfl, ⟨Or.inl rfl, ⟨Or.inl rfl, ⟨Or.inl rfl, ⟨Or.inl rfl, ⟨Or.inl rfl, ⟨Or.inl rfl, ⟨Or.inl rfl, ⟨Or.inl rfl, ⟨Or.inl rfl, ⟨Or.inl rfl, ⟨Or.inl rfl, ⟨Or.inl rfl, trivial⟩⟩⟩⟩⟩⟩⟩⟩⟩⟩⟩⟩⟩⟩⟩⟩⟩⟩⟩⟩⟩⟩⟩⟩⟩⟩⟩⟩⟩⟩⟩⟩⟩ ?_
                          exact k9
                    · skip
                      rcases q with q | q
                      · dsimp only [se] at hf
                        obtain ⟨y75, w76⟩ := q
                        try dsimp only at hf
                        show E (PC S) RL cL_law 33 2000 258 [some (.retAddr 3), some (.ref 0), some (.ref 76), some (.ref 77), none, some (.ref 79), some (.int (1 + r4)), none, some (.int r15), none, some (.int y75), none, none, none, none, none, none, none, none, none, none, none, none, none, none, none, none, none, none, none, none, none, none] [] w76 Q
                        refine E_iload (v := y75) dL_law_258 rfl ?_
                        refine E_iload (v := r15) dL_law_260 rfl ?_
                        refine E_icmp_eq 267 dL_law_262 (by decide) (fun hc77 => ?_) (fun hc77 => ?_)
                        · rw [if_pos hc77] at hf
                          refine E_iconst 0 dL_law_267 ic_0 ?_
                          refine E_istore (ls' := [some (.retAddr 3), some (.ref 0), some (.ref 76), some (.ref 77), none, some (.ref 79), some (.int (1 + r4)), none, some (.int r15), none, some (.int y75), none, some (.int 0), none, none, none, none, none, none, none, none, none, none, none, none, none, none, none, none, none, none, none, none]) dL_law_268 rfl rfl rfl ?_
                          refine E_iconst 0 dL_law_270 ic_0 ?_
                          refine E_istore (ls' := [some (.retAddr 3), some (.ref 0), some (.ref 76), some (.ref 77), none, some (.ref 79), some (.int (1 + r4)), none, some (.int r15), none, some (.int y75), none, some (.int 0), some (.int 0), none, none, none, none, none, none, none, none, none, none, none, none, none, none, none, none, none, none, none]) dL_law_271 rfl rfl rfl ?_
                          refine E_iconst 0 dL_law_273 ic_0 ?_
                          refine E_istore (ls' := [some (.retAddr 3), some (.ref 0), some (.ref 76), some (.ref 77), none, some (.ref 79), some (.int (1 + r4)), none, some (.int r15), none, some (.int y75), none, some (.int 0), some (.int 0), some (.int 0), none, none, none, none, none, none, none, none, none, none, none, none, none, none, none, none, none, none]) dL_law_274 rfl rfl rfl ?_
                          obtain ⟨q, hw86, hf⟩ := bd_some hf
                          try dsimp only at hf
                          refine E.fewer (ls' := [some (.retAddr 3), some (.ref 0), some (.ref 76), some (.ref 77), none, some (.ref 79), some (.int (1 + r4)), none, some (.int r15), none, none, none, some (.int 0), some (.int 0), some (.int 0), none, none, none, none, none, none, none, none, none, none, none, none, none, none, none, none, none, none]) ⟨Or.inr rfl, ⟨Or.inr rfl, ⟨Or.inr rfl, ⟨Or.inr rfl, ⟨Or.inl rfl, ⟨Or.inr rfl, ⟨Or.inr rfl, ⟨Or.inl rfl, ⟨Or.inr rfl, ⟨Or.inl rfl, ⟨Or.inl rfl, ⟨Or.inl rfl, ⟨Or.inr rfl, ⟨Or.inr rfl, ⟨Or.inr rfl, ⟨Or.inl rfl, ⟨Or.inl rfl, ⟨Or.inl rfl, ⟨Or.inl rfl, ⟨Or.inl rfl, ⟨Or.inl rfl, ⟨Or.inl rfl, ⟨Or.inl rfl, ⟨Or.inl rfl, ⟨Or.inl rfl, ⟨Or.inl rfl, ⟨Or.inl rfl, ⟨Or.inl rfl, ⟨Or.inl rfl, ⟨Or.inl rfl, ⟨Or.inl rfl, ⟨Or.inl rfl, ⟨Or.inl rfl, trivial⟩⟩⟩⟩⟩⟩⟩⟩⟩⟩⟩⟩⟩⟩⟩⟩⟩⟩⟩⟩⟩⟩⟩⟩⟩⟩⟩⟩⟩⟩⟩⟩⟩ ?_
                          show (fun (s : Int32 × Int32 × Int32 × AW) => E (PC S) RL cL_law 33 2000 276 [some (.retAddr 3), some (.ref 0), some (.ref 76), some (.ref 77), none, some (.ref 79), some (.int (1 + r4)), none, some (.int r15), none, none, none, some (.int s.1), some (.int s.2.1), some (.int s.2.2.1), none, none, none, none, none, none, none, none, none, none, none, none, none, none, none, none, none, none] [] s.2.2.2 Q) (0, 0, 0, w76)
                          refine wh_E (K := (fun (s : Int32 × Int32 × Int32 × AW) => E (PC S) RL cL_law 33 2000 276 [some (.retAddr 3), some (.ref 0), some (.ref 76), some (.ref 77), none, some (.ref 79), some (.int (1 + r4)), none, some (.int r15), none, none, none, some (.int s.1), some (.int s.2.1), some (.int s.2.2.1), none, none, none, none, none, none, none, none, none, none, none, none, none, none, none, none, none, none] [] s.2.2.2 Q)) (X := (fun (s : Int32 × Int32 × AW) => E (PC S) RL cL_law 33 2000 316 [some (.retAddr 3), some (.ref 0), some (.ref 76), some (.ref 77), none, some (.ref 79), some (.int (1 + r4)), none, some (.int r15), none, none, none, some (.int s.1), some (.int s.2.1), none, none, none, none, none, none, none, none, none, none, none, none, none, none, none, none, none, none, none] [] s.2.2 Q)) ?_ hw86 ?_
                          · intro s9 z9 hf k9
                            obtain ⟨x12_276_2, x13_276_2, x14_276_2, w_276_2⟩ := s9
                            dsimp only [lbL_law1_276_2] at hf
                            show E (PC S) RL cL_law 33 2000 276 [some (.retAddr 3), some (.ref 0), some (.ref 76), some (.ref 77), none, some (.ref 79), some (.int (1 + r4)), none, some (.int r15), none, none, none, some (.int x12_276_2), some (.int x13_276_2), some (.int x14_276_2), none, none, none, none, none, none, none, none, none, none, none, none, none, none, none, none, none, none] [] w_276_2 Q
                            refine E_iload (v := x14_276_2) dL_law_276 rfl ?_
                            refine E_iload (v := (1 + r4)) dL_law_278 rfl ?_
                            refine E_icmp_ge 316 dL_law_280 (by decide) (fun hc78 => ?_) (fun hc78 => ?_)
                            · rw [if_pos hc78] at hf
                              obtain rfl := Option.some.inj hf
                              refine E.fewer (ls' := [some (.retAddr 3), some (.ref 0), some (.ref 76), some (.ref 77), none, some (.ref 79), some (.int (1 + r4)), none, some (.int r15), none, none, none, some (.int x12_276_2), some (.int x13_276_2), none, none, none, none, none, none, none, none, none, none, none, none, none, none, none, none, none, none, none]) ⟨Or.inr rfl, ⟨Or.inr rfl, ⟨Or.inr rfl, ⟨Or.inr rfl, ⟨Or.inl rfl, ⟨Or.inr rfl, ⟨Or.inr rfl, ⟨Or.inl rfl, ⟨Or.inr rfl, ⟨Or.inl rfl, ⟨Or.inl rfl, ⟨Or.inl rfl, ⟨Or.inr rfl, ⟨Or.inr rfl, ⟨Or.inl rfl, ⟨Or.inl rfl, ⟨Or.inl rfl, ⟨Or.inl rfl, ⟨Or.inl rfl, ⟨Or.inl rfl, ⟨Or.inl rfl, ⟨Or.inl rfl, ⟨Or.inl rfl, ⟨Or.inl rfl, ⟨Or.inl rfl, ⟨Or.inl rfl, ⟨Or.inl rfl, ⟨Or.inl rfl, ⟨Or.inl rfl, ⟨Or.inl rfl, ⟨Or.inl rfl, ⟨Or.inl rfl, ⟨Or.inl rfl, trivial⟩⟩⟩⟩⟩⟩⟩⟩⟩⟩⟩⟩⟩⟩⟩⟩⟩⟩⟩⟩⟩⟩⟩⟩⟩⟩⟩⟩⟩⟩⟩⟩⟩ ?_
                              exact k9
                            · rw [if_neg hc78] at hf
                              refine E_iload (v := x12_276_2) dL_law_283 rfl ?_
                              refine E_aload_n (v := 0) dL_law_285 rfl ?_
                              obtain ⟨r80, w81, hc79, hf⟩ := bd2_some hf
                              try dsimp only at hf
                              refine E_callVi (rest := [.int x12_276_2]) (ci := 11) cv_RL_71 dL_law_286 (MX11_late hc79) rfl sC_0 rfl (by decide) rfl rfl (fun _ => Nat.le_of_ble_eq_true rfl) ?_
                              refine E_iload (v := x14_276_2) dL_law_289 rfl ?_
                              refine E_ishr dL_law_291 ?_
                              refine E_iconst 1 dL_law_292 ic_1 ?_
                              refine E_iand dL_law_293 ?_
                              refine E_iadd dL_law_294 ?_
                              obtain ⟨v83, ev83, hf⟩ := lw_some hf
                              try dsimp only at hf
                              rw [← ev83]
                              refine E_istore (ls' := [some (.retAddr 3), some (.ref 0), some (.ref 76), some (.ref 77), none, some (.ref 79), some (.int (1 + r4)), none, some (.int r15), none, none, none, some (.int v83), some (.int x13_276_2), some (.int x14_276_2), none, none, none, none, none, none, none, none, none, none, none, none, none, none, none, none, none, none]) dL_law_295 rfl rfl rfl ?_
                              refine E_iload (v := x13_276_2) dL_law_297 rfl ?_
                              refine E_aload_n (v := 76) dL_law_299 rfl ?_
                              refine E_iconst 5 dL_law_300 ic_5 ?_
                              refine E_iload (v := x14_276_2) dL_law_301 rfl ?_
                              refine E_imul dL_law_303 ?_
                              refine E_iconst 4 dL_law_304 ic_4 ?_
                              refine E_iadd dL_law_305 ?_
                              obtain ⟨hi84, hf⟩ := gd_some hf
                              refine E_iald (n := 30) dL_law_306 sC_76 (by decide) (inb_in hi84) ?_
                              refine E_iadd dL_law_307 ?_
                              obtain ⟨v85, ev85, hf⟩ := lw_some hf
                              try dsimp only at hf
                              rw [← ev85]
                              refine E_istore (ls' := [some (.retAddr 3), some (.ref 0), some (.ref 76), some (.ref 77), none, some (.ref 79), some (.int (1 + r4)), none, some (.int r15), none, none, none, some (.int v83), some (.int v85), some (.int x14_276_2), none, none, none, none, none, none, none, none, none, none, none, none, none, none, none, none, none, none]) dL_law_308 rfl rfl rfl ?_
                              refine E_iinc (ls' := [some (.retAddr 3), some (.ref 0), some (.ref 76), some (.ref 77), none, some (.ref 79), some (.int (1 + r4)), none, some (.int r15), none, none, none, some (.int v83), some (.int v85), some (.int (x14_276_2 + 1)), none, none, none, none, none, none, none, none, none, none, none, none, none, none, none, none, none, none]) 1 dL_law_310 rfl ic_1 rfl rfl rfl ?_
                              refine E_goto 276 dL_law_313 (by decide) ?_
                              obtain rfl := Option.some.inj hf
                              exact k9
                          · skip
                            obtain ⟨y87, y88, w89⟩ := q
                            try dsimp only at hf
                            show E (PC S) RL cL_law 33 2000 316 [some (.retAddr 3), some (.ref 0), some (.ref 76), some (.ref 77), none, some (.ref 79), some (.int (1 + r4)), none, some (.int r15), none, none, none, some (.int y87), some (.int y88), none, none, none, none, none, none, none, none, none, none, none, none, none, none, none, none, none, none, none] [] w89 Q
                            refine E_aload_n (v := 0) dL_law_316 rfl ?_
                            obtain ⟨r91, w92, hc90, hf⟩ := bd2_some hf
                            try dsimp only at hf
                            refine E_callVi (rest := []) (ci := 11) cv_RL_74 dL_law_317 (MX11_fewest hc90) rfl sC_0 rfl (by decide) rfl rfl (fun _ => Nat.le_of_ble_eq_true rfl) ?_
                            refine E_istore (ls' := [some (.retAddr 3), some (.ref 0), some (.ref 76), some (.ref 77), none, some (.ref 79), some (.int (1 + r4)), none, some (.int r15), none, none, none, some (.int y87), some (.int y88), some (.int r91), none, none, none, none, none, none, none, none, none, none, none, none, none, none, none, none, none, none]) dL_law_320 rfl rfl rfl ?_
                            refine E_iload (v := y87) dL_law_322 rfl ?_
                            refine E_iload (v := r91) dL_law_324 rfl ?_
                            refine E_icmp_lt 373 dL_law_326 (by decide) (fun hc94 => ?_) (fun hc94 => ?_)
                            · rw [if_pos hc94] at hf
                              refine E_iconst 0 dL_law_373 ic_0 ?_
                              obtain ⟨rfl, rfl⟩ := ret2 hf
                              exact E.done (by rw [eQ]; exact (Or.inl (⟨rfl, Or.inl ⟨_, _, rfl, rfl, dL_law_374, rfl, rfl⟩⟩)))
                            · rw [if_neg hc94] at hf
                              refine E_iload (v := r15) dL_law_329 rfl ?_
                              refine E_iload (v := y88) dL_law_331 rfl ?_
                              refine E_icmp_gt 373 dL_law_333 (by decide) (fun hc95 => ?_) (fun hc95 => ?_)
                              · rw [if_pos hc95] at hf
                                refine E_iconst 0 dL_law_373 ic_0 ?_
                                obtain ⟨rfl, rfl⟩ := ret2 hf
                                exact E.done (by rw [eQ]; exact (Or.inl (⟨rfl, Or.inl ⟨_, _, rfl, rfl, dL_law_374, rfl, rfl⟩⟩)))
                              · rw [if_neg hc95] at hf
                                refine E_iload (v := r91) dL_law_336 rfl ?_
                                refine E_if_ne 348 dL_law_338 (by decide) (fun hc96 => ?_) (fun hc96 => ?_)
                                · rw [if_pos hc96] at hf
                                  refine E_iload (v := r15) dL_law_341 rfl ?_
                                  refine E_iload (v := y88) dL_law_343 rfl ?_
                                  refine E_icmp_ne 373 dL_law_345 (by decide) (fun hc97 => ?_) (fun hc97 => ?_)
                                  · rw [if_pos hc97] at hf
                                    refine E.fewer (ls' := [some (.retAddr 3), some (.ref 0), some (.ref 76), some (.ref 77), none, some (.ref 79), some (.int (1 + r4)), none, some (.int r15), none, none, none, none, some (.int y88), some (.int r91), none, none, none, none, none, none, none, none, none, none, none, none, none, none, none, none, none, none]) ⟨Or.inr rfl, ⟨Or.inr rfl, ⟨Or.inr rfl, ⟨Or.inr rfl, ⟨Or.inl rfl, ⟨Or.inr rfl, ⟨Or.inr rfl, ⟨Or.inl rfl, ⟨Or.inr rfl, ⟨Or.inl rfl, ⟨Or.inl rfl, ⟨Or.inl rfl, ⟨Or.inl rfl, ⟨Or.inr rfl, ⟨Or.inr rfl, ⟨Or.inl rfl, ⟨Or.inl rfl, ⟨Or.inl rfl, ⟨Or.inl rfl, ⟨Or.inl rfl, ⟨Or.inl rfl, ⟨Or.inl rfl, ⟨Or.inl rfl, ⟨Or.inl rfl, ⟨Or.inl rfl, ⟨Or.inl rfl, ⟨Or.inl rfl, ⟨Or.inl rfl, ⟨Or.inl rfl, ⟨Or.inl rfl, ⟨Or.inl rfl, ⟨Or.inl rfl, ⟨Or.inl rfl, trivial⟩⟩⟩⟩⟩⟩⟩⟩⟩⟩⟩⟩⟩⟩⟩⟩⟩⟩⟩⟩⟩⟩⟩⟩⟩⟩⟩⟩⟩⟩⟩⟩⟩ ?_
                                    exact BL_law1_348 N S k (1 + r4) r15 y88 r91 w92  rZ wZ eQ hf
                                  · rw [if_neg hc97] at hf
                                    refine E_iconst 0 dL_law_373 ic_0 ?_
                                    obtain ⟨rfl, rfl⟩ := ret2 hf
                                    exact E.done (by rw [eQ]; exact (Or.inl (⟨rfl, Or.inl ⟨_, _, rfl, rfl, dL_law_374, rfl, rfl⟩⟩)))
                                · rw [if_neg hc96] at hf
                                  refine E.fewer (ls' := [some (.retAddr 3), some (.ref 0), some (.ref 76), some (.ref 77), none, some (.ref 79), some (.int (1 + r4)), none, some (.int r15), none, none, none, none, some (.int y88), some (.int r91), none, none, none, none, none, none, none, none, none, none, none, none, none, none, none, none, none, none]) ⟨Or.inr rfl, ⟨Or.inr rfl, ⟨Or.inr rfl, ⟨Or.inr rfl, ⟨Or.inl rfl, ⟨Or.inr rfl, ⟨Or.inr rfl, ⟨Or.inl rfl, ⟨Or.inr rfl, ⟨Or.inl rfl, ⟨Or.inl rfl, ⟨Or.inl rfl, ⟨Or.inl rfl, ⟨Or.inr rfl, ⟨Or.inr rfl, ⟨Or.inl rfl, ⟨Or.inl rfl, ⟨Or.inl rfl, ⟨Or.inl rfl, ⟨Or.inl rfl, ⟨Or.inl rfl, ⟨Or.inl rfl, ⟨Or.inl rfl, ⟨Or.inl rfl, ⟨Or.inl rfl, ⟨Or.inl rfl, ⟨Or.inl rfl, ⟨Or.inl rfl, ⟨Or.inl rfl, ⟨Or.inl rfl, ⟨Or.inl rfl, ⟨Or.inl rfl, ⟨Or.inl rfl, trivial⟩⟩⟩⟩⟩⟩⟩⟩⟩⟩⟩⟩⟩⟩⟩⟩⟩⟩⟩⟩⟩⟩⟩⟩⟩⟩⟩⟩⟩⟩⟩⟩⟩ ?_
                                  exact BL_law1_348 N S k (1 + r4) r15 y88 r91 w92  rZ wZ eQ hf
                        · rw [if_neg hc77] at hf
                          refine E_iconst 0 dL_law_265 ic_0 ?_
                          obtain ⟨rfl, rfl⟩ := ret2 hf
                          exact E.done (by rw [eQ]; exact (Or.inl (⟨rfl, Or.inl ⟨_, _, rfl, rfl, dL_law_266, rfl, rfl⟩⟩)))
                      · dsimp only [se] at hf
                        obtain ⟨w266, hq9⟩ : ∃ a, a = q := ⟨_, rfl⟩
                        subst hq9
                        try dsimp only at hf
                        show E (PC S) RL cL_law 33 2000 229 [none, none, none, none, none, none, none, none, none, none, none, none, none, none, none, none, none, none, none, none, none, none, none, none, none, none, none, none, none, none, none, none, none] [] w266 Q
                        refine E_iconst 0 dL_law_229 ic_0 ?_
                        obtain ⟨rfl, rfl⟩ := ret2 hf
                        exact E.done (by rw [eQ]; exact (Or.inl (⟨rfl, Or.inl ⟨_, _, rfl, rfl, dL_law_230, rfl, rfl⟩⟩)))
                  · rw [if_neg hc55] at hf
                    refine E_iconst 0 dL_law_155 ic_0 ?_
                    obtain ⟨rfl, rfl⟩ := ret2 hf
                    exact E.done (by rw [eQ]; exact (Or.inl (⟨rfl, Or.inl ⟨_, _, rfl, rfl, dL_law_156, rfl, rfl⟩⟩)))
                · rw [if_neg hc50] at hf
                  refine E_iconst 0 dL_law_155 ic_0 ?_
                  obtain ⟨rfl, rfl⟩ := ret2 hf
                  exact E.done (by rw [eQ]; exact (Or.inl (⟨rfl, Or.inl ⟨_, _, rfl, rfl, dL_law_156, rfl, rfl⟩⟩)))
              · rw [if_neg hc45] at hf
                refine E_iconst 0 dL_law_155 ic_0 ?_
                obtain ⟨rfl, rfl⟩ := ret2 hf
                exact E.done (by rw [eQ]; exact (Or.inl (⟨rfl, Or.inl ⟨_, _, rfl, rfl, dL_law_156, rfl, rfl⟩⟩)))
            · rw [if_neg hc40] at hf
              refine E_iconst 0 dL_law_155 ic_0 ?_
              obtain ⟨rfl, rfl⟩ := ret2 hf
              exact E.done (by rw [eQ]; exact (Or.inl (⟨rfl, Or.inl ⟨_, _, rfl, rfl, dL_law_156, rfl, rfl⟩⟩)))
          · rw [if_neg hc35] at hf
            refine E_iconst 0 dL_law_155 ic_0 ?_
            obtain ⟨rfl, rfl⟩ := ret2 hf
            exact E.done (by rw [eQ]; exact (Or.inl (⟨rfl, Or.inl ⟨_, _, rfl, rfl, dL_law_156, rfl, rfl⟩⟩)))
        · rw [if_neg hc30] at hf
          refine E_iconst 0 dL_law_155 ic_0 ?_
          obtain ⟨rfl, rfl⟩ := ret2 hf
          exact E.done (by rw [eQ]; exact (Or.inl (⟨rfl, Or.inl ⟨_, _, rfl, rfl, dL_law_156, rfl, rfl⟩⟩)))
  · rw [if_neg hc9] at hf
    refine E_iconst 0 dL_law_61 ic_0 ?_
    obtain ⟨rfl, rfl⟩ := ret2 hf
    exact E.done (by rw [eQ]; exact (Or.inl (⟨rfl, Or.inl ⟨_, _, rfl, rfl, dL_law_62, rfl, rfl⟩⟩)))
