set_option maxRecDepth 10000 in
set_option maxHeartbeats 4000000 in
theorem ML_law2 (N : Nat) (S : SC) (x6 : Int32) (x24 : Int32) (w : AW) (rZ : Int32) (wZ : AW) {Q : Nat → List (Option Value) → List Value → AW → Prop} (eQ : Q = Qret cL_law (some .boolean) (some (.int rZ)) wZ) (hf : fL_law2 N S x6 x24 w = some (rZ, wZ)) : E (PE S) RL cL_law 33 2000 878 [some (.retAddr 3), some (.ref 0), none, none, none, some (.ref 79), some (.int x6), none, none, none, none, none, none, none, none, none, none, none, none, none, none, none, none, none, some (.int x24), some (.ref 80), none, none, none, none, none, none, none] [] w Q := by
  unfold fL_law2 at hf
  refine E_iconst 0 dL_law_878 ic_0 ?_
  refine E_istore (ls' := [some (.retAddr 3), some (.ref 0), none, none, none, some (.ref 79), some (.int x6), none, none, none, none, none, none, none, none, none, none, none, none, none, none, none, none, none, some (.int x24), some (.ref 80), some (.int 0), none, none, none, none, none, none]) dL_law_879 rfl rfl rfl ?_
  obtain ⟨q, hw9, hf⟩ := bd_some hf
  try dsimp only at hf
  show (fun (s : Int32 × AW) => E (PE S) RL cL_law 33 2000 881 [some (.retAddr 3), some (.ref 0), none, none, none, some (.ref 79), some (.int x6), none, none, none, none, none, none, none, none, none, none, none, none, none, none, none, none, none, some (.int x24), some (.ref 80), some (.int s.1), none, none, none, none, none, none] [] s.2 Q) (0, w)
  refine wh_E (K := (fun (s : Int32 × AW) => E (PE S) RL cL_law 33 2000 881 [some (.retAddr 3), some (.ref 0), none, none, none, some (.ref 79), some (.int x6), none, none, none, none, none, none, none, none, none, none, none, none, none, none, none, none, none, some (.int x24), some (.ref 80), some (.int s.1), none, none, none, none, none, none] [] s.2 Q)) (X := (fun (s : AW) => E (PE S) RL cL_law 33 2000 905 [some (.retAddr 3), some (.ref 0), none, none, none, some (.ref 79), some (.int x6), none, none, none, none, none, none, none, none, none, none, none, none, none, none, none, none, none, some (.int x24), some (.ref 80), none, none, none, none, none, none, none] [] s Q)) ?_ hw9 ?_
  · intro s9 z9 hf k9
    obtain ⟨x26_881_1, w_881_1⟩ := s9
    dsimp only [lbL_law2_881_1] at hf
    show E (PE S) RL cL_law 33 2000 881 [some (.retAddr 3), some (.ref 0), none, none, none, some (.ref 79), some (.int x6), none, none, none, none, none, none, none, none, none, none, none, none, none, none, none, none, none, some (.int x24), some (.ref 80), some (.int x26_881_1), none, none, none, none, none, none] [] w_881_1 Q
    refine E_iload (v := x26_881_1) dL_law_881 rfl ?_
    refine E_iload (v := x6) dL_law_883 rfl ?_
    refine E_icmp_ge 905 dL_law_885 (by decide) (fun hc1 => ?_) (fun hc1 => ?_)
    · rw [if_pos hc1] at hf
      obtain rfl := Option.some.inj hf
      refine E.fewer (ls' := [some (.retAddr 3), some (.ref 0), none, none, none, some (.ref 79), some (.int x6), none, none, none, none, none, none, none, none, none, none, none, none, none, none, none, none, none, some (.int x24), some (.ref 80), none, none, none, none, none, none, none]) ⟨Or.inr rfl, ⟨Or.inr rfl, ⟨Or.inl rfl, ⟨Or.inl rfl, ⟨Or.inl rfl, ⟨Or.inr rfl, ⟨Or.inr rfl, ⟨Or.inl rfl, ⟨Or.inl rfl, ⟨Or.inl rfl, ⟨Or.inl rfl, ⟨Or.inl rfl, ⟨Or.inl rfl, ⟨Or.inl rfl, ⟨Or.inl rfl, ⟨Or.inl rfl, ⟨Or.inl rfl, ⟨Or.inl rfl, ⟨Or.inl rfl, ⟨Or.inl rfl, ⟨Or.inl rfl, ⟨Or.inl rfl, ⟨Or.inl rfl, ⟨Or.inl rfl, ⟨Or.inr rfl, ⟨Or.inr rfl, ⟨Or.inl rfl, ⟨Or.inl rfl, ⟨Or.inl rfl, ⟨Or.inl rfl, ⟨Or.inl rfl, ⟨Or.inl rfl, ⟨Or.inl rfl, trivial⟩⟩⟩⟩⟩⟩⟩⟩⟩⟩⟩⟩⟩⟩⟩⟩⟩⟩⟩⟩⟩⟩⟩⟩⟩⟩⟩⟩⟩⟩⟩⟩⟩ ?_
      exact k9
    · rw [if_neg hc1] at hf
      refine E_aload (v := 80) dL_law_888 rfl ?_
      refine E_iload (v := x26_881_1) dL_law_890 rfl ?_
      refine E_aload_n (v := 0) dL_law_892 rfl ?_
      refine E_iload (v := x26_881_1) dL_law_893 rfl ?_
      obtain ⟨r3, w4, hc2, hf⟩ := bd2_some hf
      try dsimp only at hf
      obtain ⟨w6, ew6, hf⟩ := lw_some hf
      try dsimp only at hf
      refine E_lcallVi (w2 := w6) (rest := [.int x26_881_1, .ref 80]) (ci := 11) cv_RL_68 dL_law_895 (MX11_ends hc2) rfl sE_0 rfl (by decide) rfl rfl (fun _ => Nat.le_of_ble_eq_true rfl) (by rw [ew6]; exact kp_80) (by rw [ew6]; exact kp_lt) ?_
      obtain ⟨hi7, hf⟩ := gd_some hf
      obtain ⟨w8, ew8, hf⟩ := lw_some hf
      try dsimp only at hf
      refine E_iast (n := 6) dL_law_898 sE_80 (by decide) (inb_in hi7) ?_
      rw [← ew8]
      refine E_iinc (ls' := [some (.retAddr 3), some (.ref 0), none, none, none, some (.ref 79), some (.int x6), none, none, none, none, none, none, none, none, none, none, none, none, none, none, none, none, none, some (.int x24), some (.ref 80), some (.int (x26_881_1 + 1)), none, none, none, none, none, none]) 1 dL_law_899 rfl ic_1 rfl rfl rfl ?_
      refine E_goto 881 dL_law_902 (by decide) ?_
      obtain rfl := Option.some.inj hf
      exact k9
  · skip
    obtain ⟨w10, hq9⟩ : ∃ a, a = q := ⟨_, rfl⟩
    subst hq9
    try dsimp only at hf
    show E (PE S) RL cL_law 33 2000 905 [some (.retAddr 3), some (.ref 0), none, none, none, some (.ref 79), some (.int x6), none, none, none, none, none, none, none, none, none, none, none, none, none, none, none, none, none, some (.int x24), some (.ref 80), none, none, none, none, none, none, none] [] w10 Q
    refine E_aload_n (v := 0) dL_law_905 rfl ?_
    refine E_iconst 0 dL_law_906 ic_0 ?_
    refine E_aload (v := 79) dL_law_907 rfl ?_
    refine E_iconst 0 dL_law_909 ic_0 ?_
    refine E_iald (n := 10) dL_law_910 sE_79 (by decide) (inb_in (by decide)) ?_
    refine E_iconst 1 dL_law_911 ic_1 ?_
    refine E_iadd dL_law_912 ?_
    obtain ⟨r12, w13, hc11, hf⟩ := bd2_some hf
    try dsimp only at hf
    obtain ⟨w15, ew15, hf⟩ := lw_some hf
    try dsimp only at hf
    refine E_lcallVi (w2 := w15) (rest := []) (ci := 11) cv_RL_33 dL_law_913 (MX11_night hc11) rfl sE_0 rfl (by decide) rfl rfl (fun _ => Nat.le_of_ble_eq_true rfl) (by rw [ew15]; exact kp_80) (by rw [ew15]; exact kp_lt) ?_
    refine E_aload (v := 79) dL_law_916 rfl ?_
    refine E_iconst 0 dL_law_918 ic_0 ?_
    refine E_iald (n := 10) dL_law_919 sE_79 (by decide) (inb_in (by decide)) ?_
    refine E_icmp_eq 925 dL_law_920 (by decide) (fun hc16 => ?_) (fun hc16 => ?_)
    · rw [if_pos hc16] at hf
      refine E_iconst 0 dL_law_925 ic_0 ?_
      refine E_istore (ls' := [some (.retAddr 3), some (.ref 0), none, none, none, some (.ref 79), some (.int x6), none, none, none, none, none, none, none, none, none, none, none, none, none, none, none, none, none, some (.int x24), some (.ref 80), some (.int 0), none, none, none, none, none, none]) dL_law_926 rfl rfl rfl ?_
      obtain ⟨q, hw25, hf⟩ := bd_some hf
      try dsimp only at hf
      show (fun (s : Int32 × AW) => E (PE S) RL cL_law 33 2000 928 [some (.retAddr 3), some (.ref 0), none, none, none, some (.ref 79), some (.int x6), none, none, none, none, none, none, none, none, none, none, none, none, none, none, none, none, none, some (.int x24), some (.ref 80), some (.int s.1), none, none, none, none, none, none] [] s.2 Q) (0, w15)
      refine wh_E (K := (fun (s : Int32 × AW) => E (PE S) RL cL_law 33 2000 928 [some (.retAddr 3), some (.ref 0), none, none, none, some (.ref 79), some (.int x6), none, none, none, none, none, none, none, none, none, none, none, none, none, none, none, none, none, some (.int x24), some (.ref 80), some (.int s.1), none, none, none, none, none, none] [] s.2 Q)) (X := (se (fun (s : AW) => E (PE S) RL cL_law 33 2000 957 [some (.retAddr 3), some (.ref 0), none, none, none, some (.ref 79), some (.int x6), none, none, none, none, none, none, none, none, none, none, none, none, none, none, none, none, none, some (.int x24), none, none, none, none, none, none, none, none] [] s Q) (fun (s : AW) => E (PE S) RL cL_law 33 2000 949 [none, none, none, none, none, none, none, none, none, none, none, none, none, none, none, none, none, none, none, none, none, none, none, none, none, none, none, none, none, none, none, none, none] [] s Q))) ?_ hw25 ?_
      · intro s9 z9 hf k9
        obtain ⟨x26_928_2, w_928_2⟩ := s9
        dsimp only [lbL_law2_928_2] at hf
        show E (PE S) RL cL_law 33 2000 928 [some (.retAddr 3), some (.ref 0), none, none, none, some (.ref 79), some (.int x6), none, none, none, none, none, none, none, none, none, none, none, none, none, none, none, none, none, some (.int x24), some (.ref 80), some (.int x26_928_2), none, none, none, none, none, none] [] w_928_2 Q
        refine E_iload (v := x26_928_2) dL_law_928 rfl ?_
        refine E_iload (v := x6) dL_law_930 rfl ?_
        refine E_icmp_ge 957 dL_law_932 (by decide) (fun hc17 => ?_) (fun hc17 => ?_)
        · rw [if_pos hc17] at hf
          obtain rfl := Option.some.inj hf
          refine E.fewer (ls' := [some (.retAddr 3), some (.ref 0), none, none, none, some (.ref 79), some (.int x6), none, none, none, none, none, none, none, none, none, none, none, none, none, none, none, none, none, some (.int x24), none, none, none, none, none, none, none, none]) ⟨Or.inr rfl, ⟨Or.inr rfl, ⟨Or.inl rfl, ⟨Or.inl rfl, ⟨Or.inl rfl, ⟨Or.inr rfl, ⟨Or.inr rfl, ⟨Or.inl rfl, ⟨Or.inl rfl, ⟨Or.inl rfl, ⟨Or.inl rfl, ⟨Or.inl rfl, ⟨Or.inl rfl, ⟨Or.inl rfl, ⟨Or.inl rfl, ⟨Or.inl rfl, ⟨Or.inl rfl, ⟨Or.inl rfl, ⟨Or.inl rfl, ⟨Or.inl rfl, ⟨Or.inl rfl, ⟨Or.inl rfl, ⟨Or.inl rfl, ⟨Or.inl rfl, ⟨Or.inr rfl, ⟨Or.inl rfl, ⟨Or.inl rfl, ⟨Or.inl rfl, ⟨Or.inl rfl, ⟨Or.inl rfl, ⟨Or.inl rfl, ⟨Or.inl rfl, ⟨Or.inl rfl, trivial⟩⟩⟩⟩⟩⟩⟩⟩⟩⟩⟩⟩⟩⟩⟩⟩⟩⟩⟩⟩⟩⟩⟩⟩⟩⟩⟩⟩⟩⟩⟩⟩⟩ ?_
          exact k9
        · rw [if_neg hc17] at hf
          refine E_aload_n (v := 0) dL_law_935 rfl ?_
          refine E_iload (v := x26_928_2) dL_law_936 rfl ?_
          obtain ⟨r19, w20, hc18, hf⟩ := bd2_some hf
          try dsimp only at hf
          obtain ⟨w22, ew22, hf⟩ := lw_some hf
          try dsimp only at hf
          refine E_lcallVi (w2 := w22) (rest := []) (ci := 11) cv_RL_68 dL_law_938 (MX11_ends hc18) rfl sE_0 rfl (by decide) rfl rfl (fun _ => Nat.le_of_ble_eq_true rfl) (by rw [ew22]; exact kp_80) (by rw [ew22]; exact kp_lt) ?_
          refine E_aload (v := 80) dL_law_941 rfl ?_
          refine E_iload (v := x26_928_2) dL_law_943 rfl ?_
          obtain ⟨hi23, hf⟩ := gd_some hf
          refine E_iald (n := 6) dL_law_945 sE_80 (by decide) (inb_in hi23) ?_
          refine E_icmp_le 951 dL_law_946 (by decide) (fun hc24 => ?_) (fun hc24 => ?_)
          · rw [if_pos hc24] at hf
            refine E_iinc (ls' := [some (.retAddr 3), some (.ref 0), none, none, none, some (.ref 79), some (.int x6), none, none, none, none, none, none, none, none, none, none, none, none, none, none, none, none, none, some (.int x24), some (.ref 80), some (.int (x26_928_2 + 1)), none, none, none, none, none, none]) 1 dL_law_951 rfl ic_1 rfl rfl rfl ?_
            refine E_goto 928 dL_law_954 (by decide) ?_
            obtain rfl := Option.some.inj hf
            exact k9
          · rw [if_neg hc24] at hf
            obtain rfl := Option.some.inj hf
            refine E.fewer (ls' := [none, none, none, none, none, none, none, none, none, none, none, none, none, none, none, none, none, none, none, none, none, none, none, none, none, none, none, none, none, none, none, none, none]) ⟨Or.inl rfl, ⟨Or.inl rfl, ⟨Or.inl rfl, ⟨Or.inl rfl, ⟨Or.inl rfl, ⟨Or.inl rfl, ⟨Or.inl rfl, ⟨Or.inl rfl, ⟨Or.inl rfl, ⟨Or.inl rfl, ⟨Or.inl rfl, ⟨Or.inl rfl, ⟨Or.inl rfl, ⟨Or.inl rfl, ⟨Or.inl rfl, ⟨Or.inl rfl, ⟨Or.inl rfl, ⟨Or.inl rfl, ⟨Or.inl rfl, ⟨Or.inl rfl, ⟨Or.inl rfl, ⟨Or.inl rfl, ⟨Or.inl rfl, ⟨Or.inl rfl, ⟨Or.inl rfl, ⟨Or.inl rfl, ⟨Or.inl rfl, ⟨Or.inl rfl, ⟨Or.inl rfl, ⟨Or.inl rfl, ⟨Or.inl rfl, ⟨Or.inl rfl, ⟨Or.inl rfl, trivial⟩⟩⟩⟩⟩⟩⟩⟩⟩⟩⟩⟩⟩⟩⟩⟩⟩⟩⟩⟩⟩⟩⟩⟩⟩⟩⟩⟩⟩⟩⟩⟩⟩ ?_
            exact k9
      · skip
        rcases q with q | q
        · dsimp only [se] at hf
          obtain ⟨w26, hq9⟩ : ∃ a, a = q := ⟨_, rfl⟩
          subst hq9
          try dsimp only at hf
          show E (PE S) RL cL_law 33 2000 957 [some (.retAddr 3), some (.ref 0), none, none, none, some (.ref 79), some (.int x6), none, none, none, none, none, none, none, none, none, none, none, none, none, none, none, none, none, some (.int x24), none, none, none, none, none, none, none, none] [] w26 Q
          refine E_aload_n (v := 0) dL_law_957 rfl ?_
          obtain ⟨r28, w29, hc27, hf⟩ := bd2_some hf
          try dsimp only at hf
          obtain ⟨w31, ew31, hf⟩ := lw_some hf
          try dsimp only at hf
          refine E_lcallVi (w2 := w31) (rest := []) (ci := 11) cv_RL_71 dL_law_958 (MX11_late hc27) rfl sE_0 rfl (by decide) rfl rfl (fun _ => Nat.le_of_ble_eq_true rfl) (by rw [ew31]; exact kp_80) (by rw [ew31]; exact kp_lt) ?_
          refine E_iload (v := x24) dL_law_961 rfl ?_
          refine E_iconst (-1) dL_law_963 ic_m1 ?_
          refine E_ixor dL_law_964 ?_
          refine E_iand dL_law_965 ?_
          refine E_if_ne 987 dL_law_966 (by decide) (fun hc32 => ?_) (fun hc32 => ?_)
          · rw [if_pos hc32] at hf
            refine E_aload_n (v := 0) dL_law_969 rfl ?_
            refine E_iconst 0 dL_law_970 ic_0 ?_
            refine E_aload (v := 79) dL_law_971 rfl ?_
            refine E_iconst 0 dL_law_973 ic_0 ?_
            refine E_iald (n := 10) dL_law_974 sE_79 (by decide) (inb_in (by decide)) ?_
            obtain ⟨r34, w35, hc33, hf⟩ := bd2_some hf
            try dsimp only at hf
            obtain ⟨w37, ew37, hf⟩ := lw_some hf
            try dsimp only at hf
            refine E_lcallVi (w2 := w37) (rest := []) (ci := 11) cv_RL_33 dL_law_975 (MX11_night hc33) rfl sE_0 rfl (by decide) rfl rfl (fun _ => Nat.le_of_ble_eq_true rfl) (by rw [ew37]; exact kp_80) (by rw [ew37]; exact kp_lt) ?_
            refine E_aload (v := 79) dL_law_978 rfl ?_
            refine E_iconst 0 dL_law_980 ic_0 ?_
            refine E_iald (n := 10) dL_law_981 sE_79 (by decide) (inb_in (by decide)) ?_
            refine E_iconst 1 dL_law_982 ic_1 ?_
            refine E_iadd dL_law_983 ?_
            refine E_icmp_eq 989 dL_law_984 (by decide) (fun hc38 => ?_) (fun hc38 => ?_)
            · rw [if_pos hc38] at hf
              refine E_aloadx_n dL_law_989 rfl ?_
              refine E_bipush 10 dL_law_990 bp_10 ?_
              obtain ⟨r40, hc39, hf⟩ := bd_some hf
              try dsimp only at hf
              refine E_lcallSi (rest := []) cs_RL_17 dL_law_992 (ML_at hc39) rfl rfl rfl (fun _ => Nat.le_of_ble_eq_true rfl) sf_80 sf_lt ?_
              refine E_iconst 5 dL_law_995 ic_5 ?_
              obtain ⟨r42, hc41, hf⟩ := bd_some hf
              try dsimp only at hf
              refine E_lcallSi (rest := []) cs_RL_21 dL_law_996 (ML_mod hc41) rfl rfl rfl (fun _ => Nat.le_of_ble_eq_true rfl) sf_80 sf_lt ?_
              refine E_istore (ls' := [some (.retAddr 3), some (.ref 0), none, none, none, some (.ref 79), some (.int x6), none, none, none, none, none, none, none, none, none, none, none, none, none, none, none, none, none, some (.int x24), none, some (.int r42), none, none, none, none, none, none]) dL_law_999 rfl rfl rfl ?_
              refine E_iconst 0 dL_law_1001 ic_0 ?_
              refine E_istore (ls' := [some (.retAddr 3), some (.ref 0), none, none, none, some (.ref 79), some (.int x6), none, none, none, none, none, none, none, none, none, none, none, none, none, none, none, none, none, some (.int x24), none, some (.int r42), some (.int 0), none, none, none, none, none]) dL_law_1002 rfl rfl rfl ?_
              refine E_iconst 0 dL_law_1004 ic_0 ?_
              refine E_istore (ls' := [some (.retAddr 3), some (.ref 0), none, none, none, some (.ref 79), some (.int x6), none, none, none, none, none, none, none, none, none, none, none, none, none, none, none, none, none, some (.int x24), none, some (.int r42), some (.int 0), some (.int 0), none, none, none, none]) dL_law_1005 rfl rfl rfl ?_
              obtain ⟨q, hw70, hf⟩ := bd_some hf
              try dsimp only at hf
              refine E.fewer (ls' := [none, some (.ref 0), none, none, none, none, some (.int x6), none, none, none, none, none, none, none, none, none, none, none, none, none, none, none, none, none, none, none, some (.int r42), some (.int 0), some (.int 0), none, none, none, none]) ⟨Or.inl rfl, ⟨Or.inr rfl, ⟨Or.inl rfl, ⟨Or.inl rfl, ⟨Or.inl rfl, ⟨Or.inl rfl, ⟨Or.inr rfl, ⟨Or.inl rfl, ⟨Or.inl rfl, ⟨Or.inl rfl, ⟨Or.inl rfl, ⟨Or.inl rfl, ⟨Or.inl rfl, ⟨Or.inl rfl, ⟨Or.inl rfl, ⟨Or.inl rfl, ⟨Or.inl rfl, ⟨Or.inl rfl, ⟨Or.inl rfl, ⟨Or.inl rfl, ⟨Or.inl rfl, ⟨Or.inl rfl, ⟨Or.inl rfl, ⟨Or.inl rfl, ⟨Or.inl rfl, ⟨Or.inl rfl, ⟨Or.inr rfl, ⟨Or.inr rfl, ⟨Or.inr rfl, ⟨Or.inl rfl, ⟨Or.inl rfl, ⟨Or.inl rfl, ⟨Or.inl rfl, trivial⟩⟩⟩⟩⟩⟩⟩⟩⟩⟩⟩⟩⟩⟩⟩⟩⟩⟩⟩⟩⟩⟩⟩⟩⟩⟩⟩⟩⟩⟩⟩⟩⟩ ?_
              show (fun (s : Int32 × Int32 × AW) => E (PE S) RL cL_law 33 2000 1007 [none, some (.ref 0), none, none, none, none, some (.int x6), none, none, none, none, none, none, none, none, none, none, none, none, none, none, none, none, none, none, none, some (.int r42), some (.int s.1), some (.int s.2.1), none, none, none, none] [] s.2.2 Q) (0, 0, w37)
              refine wh_E (K := (fun (s : Int32 × Int32 × AW) => E (PE S) RL cL_law 33 2000 1007 [none, some (.ref 0), none, none, none, none, some (.int x6), none, none, none, none, none, none, none, none, none, none, none, none, none, none, none, none, none, none, none, some (.int r42), some (.int s.1), some (.int s.2.1), none, none, none, none] [] s.2.2 Q)) (X := (se (fun (s : Int32 × AW) => E (PE S) RL cL_law 33 2000 1089 [none, some (.ref 0), none, none, none, none, some (.int x6), none, none, none, none, none, none, none, none, none, none, none, none, none, none, none, none, none, none, none, some (.int r42), some (.int s.1), none, none, none, none, none] [] s.2 Q) (fun (s : AW) => E (PE S) RL cL_law 33 2000 1074 [none, none, none, none, none, none, none, none, none, none, none, none, none, none, none, none, none, none, none, none, none, none, none, none, none, none, none, none, none, none, none, none, none] [] s Q))) ?_ hw70 ?_
              · intro s9 z9 hf k9
                obtain ⟨x27_1007_3, x28_1007_3, w_1007_3⟩ := s9
                dsimp only [lbL_law2_1007_3] at hf
                show E (PE S) RL cL_law 33 2000 1007 [none, some (.ref 0), none, none, none, none, some (.int x6), none, none, none, none, none, none, none, none, none, none, none, none, none, none, none, none, none, none, none, some (.int r42), some (.int x27_1007_3), some (.int x28_1007_3), none, none, none, none] [] w_1007_3 Q
                refine E_iload (v := x28_1007_3) dL_law_1007 rfl ?_
                refine E_iload (v := r42) dL_law_1009 rfl ?_
                refine E_icmp_ge 1089 dL_law_1011 (by decide) (fun hc43 => ?_) (fun hc43 => ?_)
                · rw [if_pos hc43] at hf
                  obtain rfl := Option.some.inj hf
                  refine E.fewer (ls' := [none, some (.ref 0), none, none, none, none, some (.int x6), none, none, none, none, none, none, none, none, none, none, none, none, none, none, none, none, none, none, none, some (.int r42), some (.int x27_1007_3), none, none, none, none, none]) ⟨Or.inl rfl, ⟨Or.inr rfl, ⟨Or.inl rfl, ⟨Or.inl rfl, ⟨Or.inl rfl, ⟨Or.inl rfl, ⟨Or.inr rfl, ⟨Or.inl rfl, ⟨Or.inl rfl, ⟨Or.inl rfl, ⟨Or.inl rfl, ⟨Or.inl rfl, ⟨Or.inl rfl, ⟨Or.inl rfl, ⟨Or.inl rfl, ⟨Or.inl rfl, ⟨Or.inl rfl, ⟨Or.inl rfl, ⟨Or.inl rfl, ⟨Or.inl rfl, ⟨Or.inl rfl, ⟨Or.inl rfl, ⟨Or.inl rfl, ⟨Or.inl rfl, ⟨Or.inl rfl, ⟨Or.inl rfl, ⟨Or.inr rfl, ⟨Or.inr rfl, ⟨Or.inl rfl, ⟨Or.inl rfl, ⟨Or.inl rfl, ⟨Or.inl rfl, ⟨Or.inl rfl, trivial⟩⟩⟩⟩⟩⟩⟩⟩⟩⟩⟩⟩⟩⟩⟩⟩⟩⟩⟩⟩⟩⟩⟩⟩⟩⟩⟩⟩⟩⟩⟩⟩⟩ ?_
                  exact k9
                · rw [if_neg hc43] at hf
                  refine E_aload_n (v := 0) dL_law_1014 rfl ?_
                  obtain ⟨r45, w46, hc44, hf⟩ := bd2_some hf
                  try dsimp only at hf
                  obtain ⟨w48, ew48, hf⟩ := lw_some hf
                  try dsimp only at hf
                  refine E_lcallVi (w2 := w48) (rest := []) (ci := 11) cv_RL_45 dL_law_1015 (MX11_worth hc44) rfl sE_0 rfl (by decide) rfl rfl (fun _ => Nat.le_of_ble_eq_true rfl) (by rw [ew48]; exact kp_80) (by rw [ew48]; exact kp_lt) ?_
                  refine E_istore (ls' := [none, some (.ref 0), none, none, none, none, some (.int x6), none, none, none, none, none, none, none, none, none, none, none, none, none, none, none, none, none, none, none, some (.int r42), some (.int x27_1007_3), some (.int x28_1007_3), some (.int r45), none, none, none]) dL_law_1018 rfl rfl rfl ?_
                  refine E_aload_n (v := 0) dL_law_1020 rfl ?_
                  refine E_iconst 0 dL_law_1021 ic_0 ?_
                  obtain ⟨r50, hc49, hf⟩ := bd_some hf
                  try dsimp only at hf
                  refine E_lcallVi (rest := []) (ci := 11) cv_RL_108 dL_law_1022 (MX11_many hc49) rfl sE_0 rfl (by decide) rfl rfl (fun _ => Nat.le_of_ble_eq_true rfl) sf_80 sf_lt ?_
                  refine E_istore (ls' := [none, some (.ref 0), none, none, none, none, some (.int x6), none, none, none, none, none, none, none, none, none, none, none, none, none, none, none, none, none, none, none, some (.int r42), some (.int x27_1007_3), some (.int x28_1007_3), some (.int r45), some (.int r50), none, none]) dL_law_1025 rfl rfl rfl ?_
                  refine E_aload_n (v := 0) dL_law_1027 rfl ?_
                  obtain ⟨r52, hc51, hf⟩ := bd_some hf
                  try dsimp only at hf
                  refine E_lcallVi (rest := []) (ci := 11) cv_RL_111 dL_law_1028 (MX11_till hc51) rfl sE_0 rfl (by decide) rfl rfl (fun _ => Nat.le_of_ble_eq_true rfl) sf_80 sf_lt ?_
                  refine E_istore (ls' := [none, some (.ref 0), none, none, none, none, some (.int x6), none, none, none, none, none, none, none, none, none, none, none, none, none, none, none, none, none, none, none, some (.int r42), some (.int x27_1007_3), some (.int x28_1007_3), some (.int r45), some (.int r50), some (.int r52), none]) dL_law_1031 rfl rfl rfl ?_
                  refine E_aload_n (v := 0) dL_law_1033 rfl ?_
                  obtain ⟨r54, w55, hc53, hf⟩ := bd2_some hf
                  try dsimp only at hf
                  obtain ⟨w57, ew57, hf⟩ := lw_some hf
                  try dsimp only at hf
                  refine E_lcallVi (w2 := w57) (rest := []) (ci := 11) cv_RL_114 dL_law_1034 (MX11_goes hc53) rfl sE_0 rfl (by decide) rfl rfl (fun _ => Nat.le_of_ble_eq_true rfl) (by rw [ew57]; exact kp_80) (by rw [ew57]; exact kp_lt) ?_
                  refine E_istore (ls' := [none, some (.ref 0), none, none, none, none, some (.int x6), none, none, none, none, none, none, none, none, none, none, none, none, none, none, none, none, none, none, none, some (.int r42), some (.int x27_1007_3), some (.int x28_1007_3), some (.int r45), some (.int r50), some (.int r52), some (.int r54)]) dL_law_1037 rfl rfl rfl ?_
                  refine E_iload (v := r54) dL_law_1039 rfl ?_
                  refine E_if_lt 1074 dL_law_1041 (by decide) (fun hc58 => ?_) (fun hc58 => ?_)
                  · rw [if_pos hc58] at hf
                    obtain rfl := Option.some.inj hf
                    refine E.fewer (ls' := [none, none, none, none, none, none, none, none, none, none, none, none, none, none, none, none, none, none, none, none, none, none, none, none, none, none, none, none, none, none, none, none, none]) ⟨Or.inl rfl, ⟨Or.inl rfl, ⟨Or.inl rfl, ⟨Or.inl rfl, ⟨Or.inl rfl, ⟨Or.inl rfl, ⟨Or.inl rfl, ⟨Or.inl rfl, ⟨Or.inl rfl, ⟨Or.inl rfl, ⟨Or.inl rfl, ⟨Or.inl rfl, ⟨Or.inl rfl, ⟨Or.inl rfl, ⟨Or.inl rfl, ⟨Or.inl rfl, ⟨Or.inl rfl, ⟨Or.inl rfl, ⟨Or.inl rfl, ⟨Or.inl rfl, ⟨Or.inl rfl, ⟨Or.inl rfl, ⟨Or.inl rfl, ⟨Or.inl rfl, ⟨Or.inl rfl, ⟨Or.inl rfl, ⟨Or.inl rfl, ⟨Or.inl rfl, ⟨Or.inl rfl, ⟨Or.inl rfl, ⟨Or.inl rfl, ⟨Or.inl rfl, ⟨Or.inl rfl, trivial⟩⟩⟩⟩⟩⟩⟩⟩⟩⟩⟩⟩⟩⟩⟩⟩⟩⟩⟩⟩⟩⟩⟩⟩⟩⟩⟩⟩⟩⟩⟩⟩⟩ ?_
                    exact k9
                  · rw [if_neg hc58] at hf
                    refine E_aload_n (v := 0) dL_law_1044 rfl ?_
                    refine E_iconst 0 dL_law_1045 ic_0 ?_
                    obtain ⟨r60, hc59, hf⟩ := bd_some hf
                    try dsimp only at hf
                    refine E_lcallVi (rest := []) (ci := 11) cv_RL_108 dL_law_1046 (MX11_many hc59) rfl sE_0 rfl (by decide) rfl rfl (fun _ => Nat.le_of_ble_eq_true rfl) sf_80 sf_lt ?_
                    refine E_iload (v := r50) dL_law_1049 rfl ?_
                    refine E_iload (v := r54) dL_law_1051 rfl ?_
                    refine E_isub dL_law_1053 ?_
                    refine E_icmp_ne 1074 dL_law_1054 (by decide) (fun hc61 => ?_) (fun hc61 => ?_)
                    · rw [if_pos hc61] at hf
                      refine E_aload_n (v := 0) dL_law_1057 rfl ?_
                      obtain ⟨r63, hc62, hf⟩ := bd_some hf
                      try dsimp only at hf
                      refine E_lcallVi (rest := []) (ci := 11) cv_RL_111 dL_law_1058 (MX11_till hc62) rfl sE_0 rfl (by decide) rfl rfl (fun _ => Nat.le_of_ble_eq_true rfl) sf_80 sf_lt ?_
                      refine E_aload_n (v := 0) dL_law_1061 rfl ?_
                      obtain ⟨r65, w66, hc64, hf⟩ := bd2_some hf
                      try dsimp only at hf
                      obtain ⟨w68, ew68, hf⟩ := lw_some hf
                      try dsimp only at hf
                      refine E_lcallVi (w2 := w68) (rest := [.int r63]) (ci := 11) cv_RL_45 dL_law_1062 (MX11_worth hc64) rfl sE_0 rfl (by decide) rfl rfl (fun _ => Nat.le_of_ble_eq_true rfl) (by rw [ew68]; exact kp_80) (by rw [ew68]; exact kp_lt) ?_
                      refine E_iadd dL_law_1065 ?_
                      refine E_iload (v := r52) dL_law_1066 rfl ?_
                      refine E_iload (v := r45) dL_law_1068 rfl ?_
                      refine E_iadd dL_law_1070 ?_
                      refine E_icmp_eq 1076 dL_law_1071 (by decide) (fun hc69 => ?_) (fun hc69 => ?_)
                      · rw [if_pos hc69] at hf
                        refine E_iload (v := x27_1007_3) dL_law_1076 rfl ?_
                        refine E_iload (v := r54) dL_law_1078 rfl ?_
                        refine E_iadd dL_law_1080 ?_
                        refine E_istore (ls' := [none, some (.ref 0), none, none, none, none, some (.int x6), none, none, none, none, none, none, none, none, none, none, none, none, none, none, none, none, none, none, none, some (.int r42), some (.int (x27_1007_3 + r54)), some (.int x28_1007_3), some (.int r45), some (.int r50), some (.int r52), some (.int r54)]) dL_law_1081 rfl rfl rfl ?_
                        refine E_iinc (ls' := [none, some (.ref 0), none, none, none, none, some (.int x6), none, none, none, none, none, none, none, none, none, none, none, none, none, none, none, none, none, none, none, some (.int r42), some (.int (x27_1007_3 + r54)), some (.int (x28_1007_3 + 1)), some (.int r45), some (.int r50), some (.int r52), some (.int r54)]) 1 dL_law_1083 rfl ic_1 rfl rfl rfl ?_
                        refine E_goto 1007 dL_law_1086 (by decide) ?_
                        obtain rfl := Option.some.inj hf
                        refine E.fewer (ls' := [none, some (.ref 0), none, none, none, none, some (.int x6), none, none, none, none, none, none, none, none, none, none, none, none, none, none, none, none, none, none, none, some (.int r42), some (.int (x27_1007_3 + r54)), some (.int (x28_1007_3 + 1)), none, none, none, none]) ⟨Or.inl rfl, ⟨Or.inr rfl, ⟨Or.inl rfl, ⟨Or.inl rfl, ⟨Or.inl rfl, ⟨Or.inl rfl, ⟨Or.inr rfl, ⟨Or.inl rfl, ⟨Or.inl rfl, ⟨Or.inl rfl, ⟨Or.inl rfl, ⟨Or.inl rfl, ⟨Or.inl rfl, ⟨Or.inl rfl, ⟨Or.inl rfl, ⟨Or.inl rfl, ⟨Or.inl rfl, ⟨Or.inl rfl, ⟨Or.inl rfl, ⟨Or.inl rfl, ⟨Or.inl rfl, ⟨Or.inl rfl, ⟨Or.inl rfl, ⟨Or.inl rfl, ⟨Or.inl rfl, ⟨Or.inl rfl, ⟨Or.inr rfl, ⟨Or.inr rfl, ⟨Or.inr rfl, ⟨Or.inl rfl, ⟨Or.inl rfl, ⟨Or.inl rfl, ⟨Or.inl rfl, trivial⟩⟩⟩⟩⟩⟩⟩⟩⟩⟩⟩⟩⟩⟩⟩⟩⟩⟩⟩⟩⟩⟩⟩⟩⟩⟩⟩⟩⟩⟩⟩⟩⟩ ?_
                        exact k9
                      · rw [if_neg hc69] at hf
                        obtain rfl := Option.some.inj hf
                        refine E.fewer (ls' := [none, none, none, none, none, none, none, none, none, none, none, none, none, none, none, none, none, none, none, none, none, none, none, none, none, none, none, none, none, none, none, none, none]) ⟨Or.inl rfl, ⟨Or.inl rfl, ⟨Or.inl rfl, ⟨Or.inl rfl, ⟨Or.inl rfl, ⟨Or.inl rfl, ⟨Or.inl rfl, ⟨Or.inl rfl, ⟨Or.inl rfl, ⟨Or.inl rfl, ⟨Or.inl rfl, ⟨Or.inl rfl, ⟨Or.inl rfl, ⟨Or.inl rfl, ⟨Or.inl rfl, ⟨Or.inl rfl, ⟨Or.inl rfl, ⟨Or.inl rfl, ⟨Or.inl rfl, ⟨Or.inl rfl, ⟨Or.inl rfl, ⟨Or.inl rfl, ⟨Or.inl rfl, ⟨Or.inl rfl, ⟨Or.inl rfl, ⟨Or.inl rfl, ⟨Or.inl rfl, ⟨Or.inl rfl, ⟨Or.inl rfl, ⟨Or.inl rfl, ⟨Or.inl rfl, ⟨Or.inl rfl, ⟨Or.inl rfl, trivial⟩⟩⟩⟩⟩⟩⟩⟩⟩⟩⟩⟩⟩⟩⟩⟩⟩⟩⟩⟩⟩⟩⟩⟩⟩⟩⟩⟩⟩⟩⟩⟩⟩ ?_
                        exact k9
                    · rw [if_neg hc61] at hf
                      obtain rfl := Option.some.inj hf
                      refine E.fewer (ls' := [none, none, none, none, none, none, none, none, none, none, none, none, none, none, none, none, none, none, none, none, none, none, none, none, none, none, none, none, none, none, none, none, none]) ⟨Or.inl rfl, ⟨Or.inl rfl, ⟨Or.inl rfl, ⟨Or.inl rfl, ⟨Or.inl rfl, ⟨Or.inl rfl, ⟨Or.inl rfl, ⟨Or.inl rfl, ⟨Or.inl rfl, ⟨Or.inl rfl, ⟨Or.inl rfl, ⟨Or.inl rfl, ⟨Or.inl rfl, ⟨Or.inl rfl, ⟨Or.inl rfl, ⟨Or.inl rfl, ⟨Or.inl rfl, ⟨Or.inl rfl, ⟨Or.inl rfl, ⟨Or.inl rfl, ⟨Or.inl rfl, ⟨Or.inl rfl, ⟨Or.inl rfl, ⟨Or.inl rfl, ⟨Or.inl rfl, ⟨Or.inl rfl, ⟨Or.inl rfl, ⟨Or.inl rfl, ⟨Or.inl rfl, ⟨Or.inl rfl, ⟨Or.inl rfl, ⟨Or.inl rfl, ⟨Or.inl rfl, trivial⟩⟩⟩⟩⟩⟩⟩⟩⟩⟩⟩⟩⟩⟩⟩⟩⟩⟩⟩⟩⟩⟩⟩⟩⟩⟩⟩⟩⟩⟩⟩⟩⟩ ?_
                      exact k9
              · skip
                rcases q with q | q
                · dsimp only [se] at hf
                  obtain ⟨y71, w72⟩ := q
                  try dsimp only at hf
                  show E (PE S) RL cL_law 33 2000 1089 [none, some (.ref 0), none, none, none, none, some (.int x6), none, none, none, none, none, none, none, none, none, none, none, none, none, none, none, none, none, none, none, some (.int r42), some (.int y71), none, none, none, none, none] [] w72 Q
                  refine E_aload_n (v := 0) dL_law_1089 rfl ?_
                  refine E_iconst 0 dL_law_1090 ic_0 ?_
                  obtain ⟨r74, hc73, hf⟩ := bd_some hf
                  try dsimp only at hf
                  refine E_lcallVi (rest := []) (ci := 11) cv_RL_117 dL_law_1091 (MX11_press hc73) rfl sE_0 rfl (by decide) rfl rfl (fun _ => Nat.le_of_ble_eq_true rfl) sf_80 sf_lt ?_
                  refine E_iload (v := r42) dL_law_1094 rfl ?_
                  refine E_icmp_ne 1132 dL_law_1096 (by decide) (fun hc75 => ?_) (fun hc75 => ?_)
                  · rw [if_pos hc75] at hf
                    refine E_aload_n (v := 0) dL_law_1099 rfl ?_
                    refine E_iconst 0 dL_law_1100 ic_0 ?_
                    obtain ⟨r77, hc76, hf⟩ := bd_some hf
                    try dsimp only at hf
                    refine E_lcallVi (rest := []) (ci := 11) cv_RL_108 dL_law_1101 (MX11_many hc76) rfl sE_0 rfl (by decide) rfl rfl (fun _ => Nat.le_of_ble_eq_true rfl) sf_80 sf_lt ?_
                    refine E_iload (v := x6) dL_law_1104 rfl ?_
                    refine E_iload (v := y71) dL_law_1106 rfl ?_
                    refine E_isub dL_law_1108 ?_
                    refine E_icmp_ne 1132 dL_law_1109 (by decide) (fun hc78 => ?_) (fun hc78 => ?_)
                    · rw [if_pos hc78] at hf
                      refine E_aload_n (v := 0) dL_law_1112 rfl ?_
                      obtain ⟨r80, w81, hc79, hf⟩ := bd2_some hf
                      try dsimp only at hf
                      obtain ⟨w83, ew83, hf⟩ := lw_some hf
                      try dsimp only at hf
                      refine E_lcallVi (w2 := w83) (rest := []) (ci := 11) cv_RL_102 dL_law_1113 (MX11_again hc79) rfl sE_0 rfl (by decide) rfl rfl (fun _ => Nat.le_of_ble_eq_true rfl) (by rw [ew83]; exact kp_80) (by rw [ew83]; exact kp_lt) ?_
                      refine E_iload (v := x6) dL_law_1116 rfl ?_
                      refine E_icmp_ne 1132 dL_law_1118 (by decide) (fun hc84 => ?_) (fun hc84 => ?_)
                      · rw [if_pos hc84] at hf
                        refine E_aload_n (v := 0) dL_law_1121 rfl ?_
                        obtain ⟨r86, hc85, hf⟩ := bd_some hf
                        try dsimp only at hf
                        refine E_lcallVi (rest := []) (ci := 11) cv_RL_111 dL_law_1122 (MX11_till hc85) rfl sE_0 rfl (by decide) rfl rfl (fun _ => Nat.le_of_ble_eq_true rfl) sf_80 sf_lt ?_
                        refine E_if_ne 1132 dL_law_1125 (by decide) (fun hc87 => ?_) (fun hc87 => ?_)
                        · rw [if_pos hc87] at hf
                          refine E_iconst 1 dL_law_1128 ic_1 ?_
                          refine E_goto 1133 dL_law_1129 (by decide) ?_
                          obtain ⟨rfl, rfl⟩ := ret2 hf
                          exact E.done (by rw [eQ]; exact ⟨rfl, Or.inl ⟨_, _, rfl, rfl, dL_law_1133, rfl, rfl⟩⟩)
                        · rw [if_neg hc87] at hf
                          refine E_iconst 0 dL_law_1132 ic_0 ?_
                          obtain ⟨rfl, rfl⟩ := ret2 hf
                          exact E.done (by rw [eQ]; exact ⟨rfl, Or.inl ⟨_, _, rfl, rfl, dL_law_1133, rfl, rfl⟩⟩)
                      · rw [if_neg hc84] at hf
                        refine E_iconst 0 dL_law_1132 ic_0 ?_
                        obtain ⟨rfl, rfl⟩ := ret2 hf
                        exact E.done (by rw [eQ]; exact ⟨rfl, Or.inl ⟨_, _, rfl, rfl, dL_law_1133, rfl, rfl⟩⟩)
                    · rw [if_neg hc78] at hf
                      refine E_iconst 0 dL_law_1132 ic_0 ?_
                      obtain ⟨rfl, rfl⟩ := ret2 hf
                      exact E.done (by rw [eQ]; exact ⟨rfl, Or.inl ⟨_, _, rfl, rfl, dL_law_1133, rfl, rfl⟩⟩)
                  · rw [if_neg hc75] at hf
                    refine E_iconst 0 dL_law_1132 ic_0 ?_
                    obtain ⟨rfl, rfl⟩ := ret2 hf
                    exact E.done (by rw [eQ]; exact ⟨rfl, Or.inl ⟨_, _, rfl, rfl, dL_law_1133, rfl, rfl⟩⟩)
                · dsimp only [se] at hf
                  obtain ⟨w88, hq9⟩ : ∃ a, a = q := ⟨_, rfl⟩
                  subst hq9
                  try dsimp only at hf
                  show E (PE S) RL cL_law 33 2000 1074 [none, none, none, none, none, none, none, none, none, none, none, none, none, none, none, none, none, none, none, none, none, none, none, none, none, none, none, none, none, none, none, none, none] [] w88 Q
                  refine E_iconst 0 dL_law_1074 ic_0 ?_
                  obtain ⟨rfl, rfl⟩ := ret2 hf
                  exact E.done (by rw [eQ]; exact ⟨rfl, Or.inl ⟨_, _, rfl, rfl, dL_law_1075, rfl, rfl⟩⟩)
            · rw [if_neg hc38] at hf
              refine E_iconst 0 dL_law_987 ic_0 ?_
              obtain ⟨rfl, rfl⟩ := ret2 hf
              exact E.done (by rw [eQ]; exact ⟨rfl, Or.inl ⟨_, _, rfl, rfl, dL_law_988, rfl, rfl⟩⟩)
          · rw [if_neg hc32] at hf
            refine E_iconst 0 dL_law_987 ic_0 ?_
            obtain ⟨rfl, rfl⟩ := ret2 hf
            exact E.done (by rw [eQ]; exact ⟨rfl, Or.inl ⟨_, _, rfl, rfl, dL_law_988, rfl, rfl⟩⟩)
        · dsimp only [se] at hf
          obtain ⟨w89, hq9⟩ : ∃ a, a = q := ⟨_, rfl⟩
          subst hq9
          try dsimp only at hf
          show E (PE S) RL cL_law 33 2000 949 [none, none, none, none, none, none, none, none, none, none, none, none, none, none, none, none, none, none, none, none, none, none, none, none, none, none, none, none, none, none, none, none, none] [] w89 Q
          refine E_iconst 0 dL_law_949 ic_0 ?_
          obtain ⟨rfl, rfl⟩ := ret2 hf
          exact E.done (by rw [eQ]; exact ⟨rfl, Or.inl ⟨_, _, rfl, rfl, dL_law_950, rfl, rfl⟩⟩)
    · rw [if_neg hc16] at hf
      refine E_iconst 0 dL_law_923 ic_0 ?_
      obtain ⟨rfl, rfl⟩ := ret2 hf
      exact E.done (by rw [eQ]; exact ⟨rfl, Or.inl ⟨_, _, rfl, rfl, dL_law_924, rfl, rfl⟩⟩)
