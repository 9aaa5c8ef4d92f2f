section
-- ===== PART A: goes FIRST, ahead of the names: the tables' words, and 'selects' of the private methods out of them =====
/-- a private method of a class that the tables say can be made, by its rows of tables_1 -/
def lw_okq (q : MethodName × Nat) : Prop := (q.1.cls ≠ "java/lang/invoke/MethodHandle" ∧ q.1.cls ≠ "java/lang/invoke/VarHandle") ∧ Cond.instantiable q.1.cls q.2 ∈ tables_1 ∧ Cond.privateMethod q.1 ∈ tables_1 ∧ Cond.instanceMethod q.1 ∈ tables_1
theorem lw_p0 : lw_okq (⟨"PressDays$Text", "next", "()V"⟩, 8) := ⟨⟨by decide +kernel, by decide +kernel⟩, List.mem_of_getElem? (i := 172) (by decide +kernel), List.mem_of_getElem? (i := 461) (by decide +kernel), List.mem_of_getElem? (i := 462) (by decide +kernel)⟩
theorem lw_p1 : lw_okq (⟨"PressDays$Text", "sortAt", "(I)I"⟩, 8) := ⟨⟨by decide +kernel, by decide +kernel⟩, List.mem_of_getElem? (i := 172) (by decide +kernel), List.mem_of_getElem? (i := 465) (by decide +kernel), List.mem_of_getElem? (i := 466) (by decide +kernel)⟩
theorem lw_p2 : lw_okq (⟨"PressDays$Text", "lawNamed", "()I"⟩, 8) := ⟨⟨by decide +kernel, by decide +kernel⟩, List.mem_of_getElem? (i := 172) (by decide +kernel), List.mem_of_getElem? (i := 469) (by decide +kernel), List.mem_of_getElem? (i := 470) (by decide +kernel)⟩
theorem lw_p3 : lw_okq (⟨"PressDays$Text", "isNamed", "(Ljava/lang/String;)Z"⟩, 8) := ⟨⟨by decide +kernel, by decide +kernel⟩, List.mem_of_getElem? (i := 172) (by decide +kernel), List.mem_of_getElem? (i := 474) (by decide +kernel), List.mem_of_getElem? (i := 475) (by decide +kernel)⟩
theorem lw_p4 : lw_okq (⟨"PressDays$Text", "readLaw", "(I)Z"⟩, 8) := ⟨⟨by decide +kernel, by decide +kernel⟩, List.mem_of_getElem? (i := 172) (by decide +kernel), List.mem_of_getElem? (i := 528) (by decide +kernel), List.mem_of_getElem? (i := 529) (by decide +kernel)⟩
theorem lw_p5 : lw_okq (⟨"PressDays$Text", "passNumber", "(II)Z"⟩, 8) := ⟨⟨by decide +kernel, by decide +kernel⟩, List.mem_of_getElem? (i := 172) (by decide +kernel), List.mem_of_getElem? (i := 536) (by decide +kernel), List.mem_of_getElem? (i := 537) (by decide +kernel)⟩
theorem lw_p6 : lw_okq (⟨"PressDays$Text", "passStop", "()Z"⟩, 8) := ⟨⟨by decide +kernel, by decide +kernel⟩, List.mem_of_getElem? (i := 172) (by decide +kernel), List.mem_of_getElem? (i := 541) (by decide +kernel), List.mem_of_getElem? (i := 542) (by decide +kernel)⟩
theorem lw_p7 : lw_okq (⟨"PressDays$Text", "readJob", "()Z"⟩, 8) := ⟨⟨by decide +kernel, by decide +kernel⟩, List.mem_of_getElem? (i := 172) (by decide +kernel), List.mem_of_getElem? (i := 545) (by decide +kernel), List.mem_of_getElem? (i := 546) (by decide +kernel)⟩
theorem lw_p8 : lw_okq (⟨"PressDays$Text", "kindNamed", "()I"⟩, 8) := ⟨⟨by decide +kernel, by decide +kernel⟩, List.mem_of_getElem? (i := 172) (by decide +kernel), List.mem_of_getElem? (i := 549) (by decide +kernel), List.mem_of_getElem? (i := 550) (by decide +kernel)⟩
theorem lw_p9 : lw_okq (⟨"PressDays$Text", "passName", "(Ljava/lang/String;)Z"⟩, 8) := ⟨⟨by decide +kernel, by decide +kernel⟩, List.mem_of_getElem? (i := 172) (by decide +kernel), List.mem_of_getElem? (i := 560) (by decide +kernel), List.mem_of_getElem? (i := 561) (by decide +kernel)⟩
theorem lw_p10 : lw_okq (⟨"PressDays", "followPlan", "()V"⟩, 14) := ⟨⟨by decide +kernel, by decide +kernel⟩, List.mem_of_getElem? (i := 21) (by decide +kernel), List.mem_of_getElem? (i := 660) (by decide +kernel), List.mem_of_getElem? (i := 661) (by decide +kernel)⟩
theorem lw_p11 : lw_okq (⟨"PressDays$Orders", "leastLost", "(ILPressDays$Jobs;I)I"⟩, 7) := ⟨⟨by decide +kernel, by decide +kernel⟩, List.mem_of_getElem? (i := 244) (by decide +kernel), List.mem_of_getElem? (i := 706) (by decide +kernel), List.mem_of_getElem? (i := 707) (by decide +kernel)⟩
theorem lw_p12 : lw_okq (⟨"PressDays$Orders", "walk", "(IIIII)V"⟩, 7) := ⟨⟨by decide +kernel, by decide +kernel⟩, List.mem_of_getElem? (i := 244) (by decide +kernel), List.mem_of_getElem? (i := 711) (by decide +kernel), List.mem_of_getElem? (i := 712) (by decide +kernel)⟩
theorem lw_p13 : lw_okq (⟨"PressDays$Orders", "lossOf", "(II)I"⟩, 7) := ⟨⟨by decide +kernel, by decide +kernel⟩, List.mem_of_getElem? (i := 244) (by decide +kernel), List.mem_of_getElem? (i := 720) (by decide +kernel), List.mem_of_getElem? (i := 721) (by decide +kernel)⟩
theorem lw_p14 : lw_okq (⟨"PressDays$Chance", "begin", "(LPressDays$Jobs;Z)V"⟩, 10) := ⟨⟨by decide +kernel, by decide +kernel⟩, List.mem_of_getElem? (i := 274) (by decide +kernel), List.mem_of_getElem? (i := 766) (by decide +kernel), List.mem_of_getElem? (i := 767) (by decide +kernel)⟩
theorem lw_p15 : lw_okq (⟨"PressDays$Chance", "spread", "(III)I"⟩, 10) := ⟨⟨by decide +kernel, by decide +kernel⟩, List.mem_of_getElem? (i := 274) (by decide +kernel), List.mem_of_getElem? (i := 770) (by decide +kernel), List.mem_of_getElem? (i := 771) (by decide +kernel)⟩
def lw_privs_1 : List (MethodName × Nat) := [(⟨"PressDays$Text", "next", "()V"⟩, 8), (⟨"PressDays$Text", "sortAt", "(I)I"⟩, 8), (⟨"PressDays$Text", "lawNamed", "()I"⟩, 8), (⟨"PressDays$Text", "isNamed", "(Ljava/lang/String;)Z"⟩, 8), (⟨"PressDays$Text", "readLaw", "(I)Z"⟩, 8), (⟨"PressDays$Text", "passNumber", "(II)Z"⟩, 8), (⟨"PressDays$Text", "passStop", "()Z"⟩, 8), (⟨"PressDays$Text", "readJob", "()Z"⟩, 8), (⟨"PressDays$Text", "kindNamed", "()I"⟩, 8), (⟨"PressDays$Text", "passName", "(Ljava/lang/String;)Z"⟩, 8), (⟨"PressDays", "followPlan", "()V"⟩, 14), (⟨"PressDays$Orders", "leastLost", "(ILPressDays$Jobs;I)I"⟩, 7), (⟨"PressDays$Orders", "walk", "(IIIII)V"⟩, 7), (⟨"PressDays$Orders", "lossOf", "(II)I"⟩, 7), (⟨"PressDays$Chance", "begin", "(LPressDays$Jobs;Z)V"⟩, 10), (⟨"PressDays$Chance", "spread", "(III)I"⟩, 10)]
theorem lw_r1 : ∀ q ∈ lw_privs_1, lw_okq q := List.forall_mem_cons.mpr ⟨lw_p0, List.forall_mem_cons.mpr ⟨lw_p1, List.forall_mem_cons.mpr ⟨lw_p2, List.forall_mem_cons.mpr ⟨lw_p3, List.forall_mem_cons.mpr ⟨lw_p4, List.forall_mem_cons.mpr ⟨lw_p5, List.forall_mem_cons.mpr ⟨lw_p6, List.forall_mem_cons.mpr ⟨lw_p7, List.forall_mem_cons.mpr ⟨lw_p8, List.forall_mem_cons.mpr ⟨lw_p9, List.forall_mem_cons.mpr ⟨lw_p10, List.forall_mem_cons.mpr ⟨lw_p11, List.forall_mem_cons.mpr ⟨lw_p12, List.forall_mem_cons.mpr ⟨lw_p13, List.forall_mem_cons.mpr ⟨lw_p14, List.forall_mem_cons.mpr ⟨lw_p15, fun _ h => absurd h List.not_mem_nil⟩⟩⟩⟩⟩⟩⟩⟩⟩⟩⟩⟩⟩⟩⟩⟩
theorem lw_p16 : lw_okq (⟨"PressDays$Chance", "walk", "(IIII)V"⟩, 10) := ⟨⟨by decide +kernel, by decide +kernel⟩, List.mem_of_getElem? (i := 274) (by decide +kernel), List.mem_of_getElem? (i := 788) (by decide +kernel), List.mem_of_getElem? (i := 789) (by decide +kernel)⟩
theorem lw_p17 : lw_okq (⟨"PressDays$Ahead", "behindCalls", "(LPressDays$Types;LPressDays$Jobs;II)I"⟩, 1) := ⟨⟨by decide +kernel, by decide +kernel⟩, List.mem_of_getElem? (i := 312) (by decide +kernel), List.mem_of_getElem? (i := 825) (by decide +kernel), List.mem_of_getElem? (i := 826) (by decide +kernel)⟩
theorem lw_p18 : lw_okq (⟨"PressDays$Board", "workSlot", "(I)Z"⟩, 9) := ⟨⟨by decide +kernel, by decide +kernel⟩, List.mem_of_getElem? (i := 29) (by decide +kernel), List.mem_of_getElem? (i := 856) (by decide +kernel), List.mem_of_getElem? (i := 857) (by decide +kernel)⟩
theorem lw_p19 : lw_okq (⟨"PressDays$Thing", "prints", "(I)I"⟩, 6) := ⟨⟨by decide +kernel, by decide +kernel⟩, List.mem_of_getElem? (i := 372) (by decide +kernel), List.mem_of_getElem? (i := 971) (by decide +kernel), List.mem_of_getElem? (i := 972) (by decide +kernel)⟩
theorem lw_p20 : lw_okq (⟨"PressDays$Thing", "is", "(I)Z"⟩, 6) := ⟨⟨by decide +kernel, by decide +kernel⟩, List.mem_of_getElem? (i := 372) (by decide +kernel), List.mem_of_getElem? (i := 975) (by decide +kernel), List.mem_of_getElem? (i := 976) (by decide +kernel)⟩
theorem lw_p21 : lw_okq (⟨"PressDays$Thing", "runs", "(I)V"⟩, 6) := ⟨⟨by decide +kernel, by decide +kernel⟩, List.mem_of_getElem? (i := 372) (by decide +kernel), List.mem_of_getElem? (i := 980) (by decide +kernel), List.mem_of_getElem? (i := 981) (by decide +kernel)⟩
theorem lw_p22 : lw_okq (⟨"PressDays$Thing", "sets", "(I)I"⟩, 6) := ⟨⟨by decide +kernel, by decide +kernel⟩, List.mem_of_getElem? (i := 372) (by decide +kernel), List.mem_of_getElem? (i := 984) (by decide +kernel), List.mem_of_getElem? (i := 985) (by decide +kernel)⟩
theorem lw_p23 : lw_okq (⟨"PressDays$Thing", "shares", "(I)I"⟩, 6) := ⟨⟨by decide +kernel, by decide +kernel⟩, List.mem_of_getElem? (i := 372) (by decide +kernel), List.mem_of_getElem? (i := 988) (by decide +kernel), List.mem_of_getElem? (i := 989) (by decide +kernel)⟩
theorem lw_p24 : lw_okq (⟨"PressDays$Thing", "tells", "(I)I"⟩, 6) := ⟨⟨by decide +kernel, by decide +kernel⟩, List.mem_of_getElem? (i := 372) (by decide +kernel), List.mem_of_getElem? (i := 992) (by decide +kernel), List.mem_of_getElem? (i := 993) (by decide +kernel)⟩
theorem lw_p25 : lw_okq (⟨"PressDaysModel", "advance", "()V"⟩, 54) := ⟨⟨by decide +kernel, by decide +kernel⟩, List.mem_of_getElem? (i := 1021) (by decide +kernel), List.mem_of_getElem? (i := 1203) (by decide +kernel), List.mem_of_getElem? (i := 1204) (by decide +kernel)⟩
theorem lw_p26 : lw_okq (⟨"PressDaysModel", "byteAt", "(I)I"⟩, 54) := ⟨⟨by decide +kernel, by decide +kernel⟩, List.mem_of_getElem? (i := 1021) (by decide +kernel), List.mem_of_getElem? (i := 1207) (by decide +kernel), List.mem_of_getElem? (i := 1208) (by decide +kernel)⟩
theorem lw_p27 : lw_okq (⟨"PressDaysModel", "kindHere", "()I"⟩, 54) := ⟨⟨by decide +kernel, by decide +kernel⟩, List.mem_of_getElem? (i := 1021) (by decide +kernel), List.mem_of_getElem? (i := 1220) (by decide +kernel), List.mem_of_getElem? (i := 1221) (by decide +kernel)⟩
theorem lw_p28 : lw_okq (⟨"PressDaysModel", "isWord", "(J)Z"⟩, 54) := ⟨⟨by decide +kernel, by decide +kernel⟩, List.mem_of_getElem? (i := 1021) (by decide +kernel), List.mem_of_getElem? (i := 1225) (by decide +kernel), List.mem_of_getElem? (i := 1226) (by decide +kernel)⟩
theorem lw_p29 : lw_okq (⟨"PressDaysModel", "wantJob", "(I)V"⟩, 54) := ⟨⟨by decide +kernel, by decide +kernel⟩, List.mem_of_getElem? (i := 1021) (by decide +kernel), List.mem_of_getElem? (i := 1234) (by decide +kernel), List.mem_of_getElem? (i := 1235) (by decide +kernel)⟩
theorem lw_p30 : lw_okq (⟨"PressDaysModel", "wantNumber", "(II)I"⟩, 54) := ⟨⟨by decide +kernel, by decide +kernel⟩, List.mem_of_getElem? (i := 1021) (by decide +kernel), List.mem_of_getElem? (i := 1238) (by decide +kernel), List.mem_of_getElem? (i := 1239) (by decide +kernel)⟩
theorem lw_p31 : lw_okq (⟨"PressDaysModel", "wantWord", "(J)V"⟩, 54) := ⟨⟨by decide +kernel, by decide +kernel⟩, List.mem_of_getElem? (i := 1021) (by decide +kernel), List.mem_of_getElem? (i := 1244) (by decide +kernel), List.mem_of_getElem? (i := 1245) (by decide +kernel)⟩
def lw_privs_2 : List (MethodName × Nat) := [(⟨"PressDays$Chance", "walk", "(IIII)V"⟩, 10), (⟨"PressDays$Ahead", "behindCalls", "(LPressDays$Types;LPressDays$Jobs;II)I"⟩, 1), (⟨"PressDays$Board", "workSlot", "(I)Z"⟩, 9), (⟨"PressDays$Thing", "prints", "(I)I"⟩, 6), (⟨"PressDays$Thing", "is", "(I)Z"⟩, 6), (⟨"PressDays$Thing", "runs", "(I)V"⟩, 6), (⟨"PressDays$Thing", "sets", "(I)I"⟩, 6), (⟨"PressDays$Thing", "shares", "(I)I"⟩, 6), (⟨"PressDays$Thing", "tells", "(I)I"⟩, 6), (⟨"PressDaysModel", "advance", "()V"⟩, 54), (⟨"PressDaysModel", "byteAt", "(I)I"⟩, 54), (⟨"PressDaysModel", "kindHere", "()I"⟩, 54), (⟨"PressDaysModel", "isWord", "(J)Z"⟩, 54), (⟨"PressDaysModel", "wantJob", "(I)V"⟩, 54), (⟨"PressDaysModel", "wantNumber", "(II)I"⟩, 54), (⟨"PressDaysModel", "wantWord", "(J)V"⟩, 54)]
theorem lw_r2 : ∀ q ∈ lw_privs_2, lw_okq q := List.forall_mem_cons.mpr ⟨lw_p16, List.forall_mem_cons.mpr ⟨lw_p17, List.forall_mem_cons.mpr ⟨lw_p18, List.forall_mem_cons.mpr ⟨lw_p19, List.forall_mem_cons.mpr ⟨lw_p20, List.forall_mem_cons.mpr ⟨lw_p21, List.forall_mem_cons.mpr ⟨lw_p22, List.forall_mem_cons.mpr ⟨lw_p23, List.forall_mem_cons.mpr ⟨lw_p24, List.forall_mem_cons.mpr ⟨lw_p25, List.forall_mem_cons.mpr ⟨lw_p26, List.forall_mem_cons.mpr ⟨lw_p27, List.forall_mem_cons.mpr ⟨lw_p28, List.forall_mem_cons.mpr ⟨lw_p29, List.forall_mem_cons.mpr ⟨lw_p30, List.forall_mem_cons.mpr ⟨lw_p31, fun _ h => absurd h List.not_mem_nil⟩⟩⟩⟩⟩⟩⟩⟩⟩⟩⟩⟩⟩⟩⟩⟩
theorem lw_p32 : lw_okq (⟨"PressDaysModel", "wantEnd", "()V"⟩, 54) := ⟨⟨by decide +kernel, by decide +kernel⟩, List.mem_of_getElem? (i := 1021) (by decide +kernel), List.mem_of_getElem? (i := 1249) (by decide +kernel), List.mem_of_getElem? (i := 1250) (by decide +kernel)⟩
theorem lw_p33 : lw_okq (⟨"PressDaysModel", "isMark", "(I)Z"⟩, 54) := ⟨⟨by decide +kernel, by decide +kernel⟩, List.mem_of_getElem? (i := 1021) (by decide +kernel), List.mem_of_getElem? (i := 1253) (by decide +kernel), List.mem_of_getElem? (i := 1254) (by decide +kernel)⟩
theorem lw_p34 : lw_okq (⟨"PressDaysModel", "lawHere", "()I"⟩, 54) := ⟨⟨by decide +kernel, by decide +kernel⟩, List.mem_of_getElem? (i := 1021) (by decide +kernel), List.mem_of_getElem? (i := 1257) (by decide +kernel), List.mem_of_getElem? (i := 1258) (by decide +kernel)⟩
theorem lw_p35 : lw_okq (⟨"PressDaysModel", "wantLaw", "(I)V"⟩, 54) := ⟨⟨by decide +kernel, by decide +kernel⟩, List.mem_of_getElem? (i := 1021) (by decide +kernel), List.mem_of_getElem? (i := 1264) (by decide +kernel), List.mem_of_getElem? (i := 1265) (by decide +kernel)⟩
theorem lw_p36 : lw_okq (⟨"PressDaysModel", "lay", "(IIIIII)V"⟩, 54) := ⟨⟨by decide +kernel, by decide +kernel⟩, List.mem_of_getElem? (i := 1021) (by decide +kernel), List.mem_of_getElem? (i := 1268) (by decide +kernel), List.mem_of_getElem? (i := 1269) (by decide +kernel)⟩
theorem lw_p37 : lw_okq (⟨"PressDaysModel", "isJob", "(I)Z"⟩, 54) := ⟨⟨by decide +kernel, by decide +kernel⟩, List.mem_of_getElem? (i := 1021) (by decide +kernel), List.mem_of_getElem? (i := 1292) (by decide +kernel), List.mem_of_getElem? (i := 1293) (by decide +kernel)⟩
theorem lw_p38 : lw_okq (⟨"PressDaysModel", "its", "(II)I"⟩, 54) := ⟨⟨by decide +kernel, by decide +kernel⟩, List.mem_of_getElem? (i := 1021) (by decide +kernel), List.mem_of_getElem? (i := 1296) (by decide +kernel), List.mem_of_getElem? (i := 1297) (by decide +kernel)⟩
theorem lw_p39 : lw_okq (⟨"PressDaysModel", "goesAway", "(I)V"⟩, 54) := ⟨⟨by decide +kernel, by decide +kernel⟩, List.mem_of_getElem? (i := 1021) (by decide +kernel), List.mem_of_getElem? (i := 1304) (by decide +kernel), List.mem_of_getElem? (i := 1305) (by decide +kernel)⟩
theorem lw_p40 : lw_okq (⟨"PressDaysModel", "slotsOf", "(I)I"⟩, 54) := ⟨⟨by decide +kernel, by decide +kernel⟩, List.mem_of_getElem? (i := 1021) (by decide +kernel), List.mem_of_getElem? (i := 1324) (by decide +kernel), List.mem_of_getElem? (i := 1325) (by decide +kernel)⟩
theorem lw_p41 : lw_okq (⟨"PressDaysModel", "byPlan", "()V"⟩, 54) := ⟨⟨by decide +kernel, by decide +kernel⟩, List.mem_of_getElem? (i := 1021) (by decide +kernel), List.mem_of_getElem? (i := 1344) (by decide +kernel), List.mem_of_getElem? (i := 1345) (by decide +kernel)⟩
theorem lw_p42 : lw_okq (⟨"PressDaysModel", "worksAll", "(III)V"⟩, 54) := ⟨⟨by decide +kernel, by decide +kernel⟩, List.mem_of_getElem? (i := 1021) (by decide +kernel), List.mem_of_getElem? (i := 1348) (by decide +kernel), List.mem_of_getElem? (i := 1349) (by decide +kernel)⟩
theorem lw_p43 : lw_okq (⟨"PressDaysModel", "worksMany", "(IIII)V"⟩, 54) := ⟨⟨by decide +kernel, by decide +kernel⟩, List.mem_of_getElem? (i := 1021) (by decide +kernel), List.mem_of_getElem? (i := 1352) (by decide +kernel), List.mem_of_getElem? (i := 1353) (by decide +kernel)⟩
theorem lw_p44 : lw_okq (⟨"PressDaysModel", "lends", "(II)V"⟩, 54) := ⟨⟨by decide +kernel, by decide +kernel⟩, List.mem_of_getElem? (i := 1021) (by decide +kernel), List.mem_of_getElem? (i := 1356) (by decide +kernel), List.mem_of_getElem? (i := 1357) (by decide +kernel)⟩
theorem lw_p45 : lw_okq (⟨"PressDaysModel", "works", "(I)Z"⟩, 54) := ⟨⟨by decide +kernel, by decide +kernel⟩, List.mem_of_getElem? (i := 1021) (by decide +kernel), List.mem_of_getElem? (i := 1360) (by decide +kernel), List.mem_of_getElem? (i := 1361) (by decide +kernel)⟩
theorem lw_p46 : lw_okq (⟨"PressDaysModel", "isLate", "(I)Z"⟩, 54) := ⟨⟨by decide +kernel, by decide +kernel⟩, List.mem_of_getElem? (i := 1021) (by decide +kernel), List.mem_of_getElem? (i := 1368) (by decide +kernel), List.mem_of_getElem? (i := 1369) (by decide +kernel)⟩
theorem lw_p47 : lw_okq (⟨"PressDaysModel", "worthAll", "(I)I"⟩, 54) := ⟨⟨by decide +kernel, by decide +kernel⟩, List.mem_of_getElem? (i := 1021) (by decide +kernel), List.mem_of_getElem? (i := 1376) (by decide +kernel), List.mem_of_getElem? (i := 1377) (by decide +kernel)⟩
def lw_privs_3 : List (MethodName × Nat) := [(⟨"PressDaysModel", "wantEnd", "()V"⟩, 54), (⟨"PressDaysModel", "isMark", "(I)Z"⟩, 54), (⟨"PressDaysModel", "lawHere", "()I"⟩, 54), (⟨"PressDaysModel", "wantLaw", "(I)V"⟩, 54), (⟨"PressDaysModel", "lay", "(IIIIII)V"⟩, 54), (⟨"PressDaysModel", "isJob", "(I)Z"⟩, 54), (⟨"PressDaysModel", "its", "(II)I"⟩, 54), (⟨"PressDaysModel", "goesAway", "(I)V"⟩, 54), (⟨"PressDaysModel", "slotsOf", "(I)I"⟩, 54), (⟨"PressDaysModel", "byPlan", "()V"⟩, 54), (⟨"PressDaysModel", "worksAll", "(III)V"⟩, 54), (⟨"PressDaysModel", "worksMany", "(IIII)V"⟩, 54), (⟨"PressDaysModel", "lends", "(II)V"⟩, 54), (⟨"PressDaysModel", "works", "(I)Z"⟩, 54), (⟨"PressDaysModel", "isLate", "(I)Z"⟩, 54), (⟨"PressDaysModel", "worthAll", "(I)I"⟩, 54)]
theorem lw_r3 : ∀ q ∈ lw_privs_3, lw_okq q := List.forall_mem_cons.mpr ⟨lw_p32, List.forall_mem_cons.mpr ⟨lw_p33, List.forall_mem_cons.mpr ⟨lw_p34, List.forall_mem_cons.mpr ⟨lw_p35, List.forall_mem_cons.mpr ⟨lw_p36, List.forall_mem_cons.mpr ⟨lw_p37, List.forall_mem_cons.mpr ⟨lw_p38, List.forall_mem_cons.mpr ⟨lw_p39, List.forall_mem_cons.mpr ⟨lw_p40, List.forall_mem_cons.mpr ⟨lw_p41, List.forall_mem_cons.mpr ⟨lw_p42, List.forall_mem_cons.mpr ⟨lw_p43, List.forall_mem_cons.mpr ⟨lw_p44, List.forall_mem_cons.mpr ⟨lw_p45, List.forall_mem_cons.mpr ⟨lw_p46, List.forall_mem_cons.mpr ⟨lw_p47, fun _ h => absurd h List.not_mem_nil⟩⟩⟩⟩⟩⟩⟩⟩⟩⟩⟩⟩⟩⟩⟩⟩
theorem lw_p48 : lw_okq (⟨"PressDaysModel", "worthOf", "(I)I"⟩, 54) := ⟨⟨by decide +kernel, by decide +kernel⟩, List.mem_of_getElem? (i := 1021) (by decide +kernel), List.mem_of_getElem? (i := 1380) (by decide +kernel), List.mem_of_getElem? (i := 1381) (by decide +kernel)⟩
theorem lw_p49 : lw_okq (⟨"PressDaysModel", "mostOfAll", "(II)I"⟩, 54) := ⟨⟨by decide +kernel, by decide +kernel⟩, List.mem_of_getElem? (i := 1021) (by decide +kernel), List.mem_of_getElem? (i := 1389) (by decide +kernel), List.mem_of_getElem? (i := 1390) (by decide +kernel)⟩
theorem lw_p50 : lw_okq (⟨"PressDaysModel", "firstOrder", "(II)I"⟩, 54) := ⟨⟨by decide +kernel, by decide +kernel⟩, List.mem_of_getElem? (i := 1021) (by decide +kernel), List.mem_of_getElem? (i := 1393) (by decide +kernel), List.mem_of_getElem? (i := 1394) (by decide +kernel)⟩
theorem lw_p51 : lw_okq (⟨"PressDaysModel", "keepsOrder", "(I)V"⟩, 54) := ⟨⟨by decide +kernel, by decide +kernel⟩, List.mem_of_getElem? (i := 1021) (by decide +kernel), List.mem_of_getElem? (i := 1397) (by decide +kernel), List.mem_of_getElem? (i := 1398) (by decide +kernel)⟩
theorem lw_p52 : lw_okq (⟨"PressDaysModel", "nextOrder", "(I)Z"⟩, 54) := ⟨⟨by decide +kernel, by decide +kernel⟩, List.mem_of_getElem? (i := 1021) (by decide +kernel), List.mem_of_getElem? (i := 1401) (by decide +kernel), List.mem_of_getElem? (i := 1402) (by decide +kernel)⟩
theorem lw_p53 : lw_okq (⟨"PressDaysModel", "swaps", "(II)V"⟩, 54) := ⟨⟨by decide +kernel, by decide +kernel⟩, List.mem_of_getElem? (i := 1021) (by decide +kernel), List.mem_of_getElem? (i := 1405) (by decide +kernel), List.mem_of_getElem? (i := 1406) (by decide +kernel)⟩
theorem lw_p54 : lw_okq (⟨"PressDaysModel", "digitsOf", "(I)I"⟩, 54) := ⟨⟨by decide +kernel, by decide +kernel⟩, List.mem_of_getElem? (i := 1021) (by decide +kernel), List.mem_of_getElem? (i := 1409) (by decide +kernel), List.mem_of_getElem? (i := 1410) (by decide +kernel)⟩
theorem lw_p55 : lw_okq (⟨"PressDaysModel", "lateMany", "(I)I"⟩, 54) := ⟨⟨by decide +kernel, by decide +kernel⟩, List.mem_of_getElem? (i := 1021) (by decide +kernel), List.mem_of_getElem? (i := 1417) (by decide +kernel), List.mem_of_getElem? (i := 1418) (by decide +kernel)⟩
theorem lw_p56 : lw_okq (⟨"PressDaysModel", "orderOfPlan", "()V"⟩, 54) := ⟨⟨by decide +kernel, by decide +kernel⟩, List.mem_of_getElem? (i := 1021) (by decide +kernel), List.mem_of_getElem? (i := 1441) (by decide +kernel), List.mem_of_getElem? (i := 1442) (by decide +kernel)⟩
theorem lw_p57 : lw_okq (⟨"PressDaysModel", "sureOf", "()I"⟩, 54) := ⟨⟨by decide +kernel, by decide +kernel⟩, List.mem_of_getElem? (i := 1021) (by decide +kernel), List.mem_of_getElem? (i := 1445) (by decide +kernel), List.mem_of_getElem? (i := 1446) (by decide +kernel)⟩
theorem lw_p58 : lw_okq (⟨"PressDaysModel", "oftenOf", "(I)I"⟩, 54) := ⟨⟨by decide +kernel, by decide +kernel⟩, List.mem_of_getElem? (i := 1021) (by decide +kernel), List.mem_of_getElem? (i := 1449) (by decide +kernel), List.mem_of_getElem? (i := 1450) (by decide +kernel)⟩
theorem lw_p59 : lw_okq (⟨"PressDaysModel", "lowest", "(II)V"⟩, 54) := ⟨⟨by decide +kernel, by decide +kernel⟩, List.mem_of_getElem? (i := 1021) (by decide +kernel), List.mem_of_getElem? (i := 1453) (by decide +kernel), List.mem_of_getElem? (i := 1454) (by decide +kernel)⟩
theorem lw_p60 : lw_okq (⟨"PressDaysModel", "oddsOfTypes", "()I"⟩, 54) := ⟨⟨by decide +kernel, by decide +kernel⟩, List.mem_of_getElem? (i := 1021) (by decide +kernel), List.mem_of_getElem? (i := 1469) (by decide +kernel), List.mem_of_getElem? (i := 1470) (by decide +kernel)⟩
theorem lw_p61 : lw_okq (⟨"PressDaysModel", "typeIts", "(II)I"⟩, 54) := ⟨⟨by decide +kernel, by decide +kernel⟩, List.mem_of_getElem? (i := 1021) (by decide +kernel), List.mem_of_getElem? (i := 1473) (by decide +kernel), List.mem_of_getElem? (i := 1474) (by decide +kernel)⟩
theorem lw_p62 : lw_okq (⟨"PressDaysModel", "isTaken", "(I)Z"⟩, 54) := ⟨⟨by decide +kernel, by decide +kernel⟩, List.mem_of_getElem? (i := 1021) (by decide +kernel), List.mem_of_getElem? (i := 1485) (by decide +kernel), List.mem_of_getElem? (i := 1486) (by decide +kernel)⟩
theorem lw_p63 : lw_okq (⟨"PressDaysModel", "worthWith", "(I)I"⟩, 54) := ⟨⟨by decide +kernel, by decide +kernel⟩, List.mem_of_getElem? (i := 1021) (by decide +kernel), List.mem_of_getElem? (i := 1489) (by decide +kernel), List.mem_of_getElem? (i := 1490) (by decide +kernel)⟩
def lw_privs_4 : List (MethodName × Nat) := [(⟨"PressDaysModel", "worthOf", "(I)I"⟩, 54), (⟨"PressDaysModel", "mostOfAll", "(II)I"⟩, 54), (⟨"PressDaysModel", "firstOrder", "(II)I"⟩, 54), (⟨"PressDaysModel", "keepsOrder", "(I)V"⟩, 54), (⟨"PressDaysModel", "nextOrder", "(I)Z"⟩, 54), (⟨"PressDaysModel", "swaps", "(II)V"⟩, 54), (⟨"PressDaysModel", "digitsOf", "(I)I"⟩, 54), (⟨"PressDaysModel", "lateMany", "(I)I"⟩, 54), (⟨"PressDaysModel", "orderOfPlan", "()V"⟩, 54), (⟨"PressDaysModel", "sureOf", "()I"⟩, 54), (⟨"PressDaysModel", "oftenOf", "(I)I"⟩, 54), (⟨"PressDaysModel", "lowest", "(II)V"⟩, 54), (⟨"PressDaysModel", "oddsOfTypes", "()I"⟩, 54), (⟨"PressDaysModel", "typeIts", "(II)I"⟩, 54), (⟨"PressDaysModel", "isTaken", "(I)Z"⟩, 54), (⟨"PressDaysModel", "worthWith", "(I)I"⟩, 54)]
theorem lw_r4 : ∀ q ∈ lw_privs_4, lw_okq q := List.forall_mem_cons.mpr ⟨lw_p48, List.forall_mem_cons.mpr ⟨lw_p49, List.forall_mem_cons.mpr ⟨lw_p50, List.forall_mem_cons.mpr ⟨lw_p51, List.forall_mem_cons.mpr ⟨lw_p52, List.forall_mem_cons.mpr ⟨lw_p53, List.forall_mem_cons.mpr ⟨lw_p54, List.forall_mem_cons.mpr ⟨lw_p55, List.forall_mem_cons.mpr ⟨lw_p56, List.forall_mem_cons.mpr ⟨lw_p57, List.forall_mem_cons.mpr ⟨lw_p58, List.forall_mem_cons.mpr ⟨lw_p59, List.forall_mem_cons.mpr ⟨lw_p60, List.forall_mem_cons.mpr ⟨lw_p61, List.forall_mem_cons.mpr ⟨lw_p62, List.forall_mem_cons.mpr ⟨lw_p63, fun _ h => absurd h List.not_mem_nil⟩⟩⟩⟩⟩⟩⟩⟩⟩⟩⟩⟩⟩⟩⟩⟩
theorem lw_p64 : lw_okq (⟨"PressDaysModel", "takenMany", "(I)I"⟩, 54) := ⟨⟨by decide +kernel, by decide +kernel⟩, List.mem_of_getElem? (i := 1021) (by decide +kernel), List.mem_of_getElem? (i := 1493) (by decide +kernel), List.mem_of_getElem? (i := 1494) (by decide +kernel)⟩
theorem lw_p65 : lw_okq (⟨"PressDaysModel", "isRow", "(II)Z"⟩, 54) := ⟨⟨by decide +kernel, by decide +kernel⟩, List.mem_of_getElem? (i := 1021) (by decide +kernel), List.mem_of_getElem? (i := 1522) (by decide +kernel), List.mem_of_getElem? (i := 1523) (by decide +kernel)⟩
theorem lw_p66 : lw_okq (⟨"PressDaysModel", "lacksSort", "(II)I"⟩, 54) := ⟨⟨by decide +kernel, by decide +kernel⟩, List.mem_of_getElem? (i := 1021) (by decide +kernel), List.mem_of_getElem? (i := 1549) (by decide +kernel), List.mem_of_getElem? (i := 1550) (by decide +kernel)⟩
theorem lw_p67 : lw_okq (⟨"PressDaysModel", "isHeld", "(II)Z"⟩, 54) := ⟨⟨by decide +kernel, by decide +kernel⟩, List.mem_of_getElem? (i := 1021) (by decide +kernel), List.mem_of_getElem? (i := 1557) (by decide +kernel), List.mem_of_getElem? (i := 1558) (by decide +kernel)⟩
theorem lw_p68 : lw_okq (⟨"PressDaysModel", "kindOn", "(I)I"⟩, 54) := ⟨⟨by decide +kernel, by decide +kernel⟩, List.mem_of_getElem? (i := 1021) (by decide +kernel), List.mem_of_getElem? (i := 1565) (by decide +kernel), List.mem_of_getElem? (i := 1566) (by decide +kernel)⟩
theorem lw_p69 : lw_okq (⟨"PressDaysModel", "printsIt", "(I)I"⟩, 54) := ⟨⟨by decide +kernel, by decide +kernel⟩, List.mem_of_getElem? (i := 1021) (by decide +kernel), List.mem_of_getElem? (i := 1576) (by decide +kernel), List.mem_of_getElem? (i := 1577) (by decide +kernel)⟩
theorem lw_p70 : lw_okq (⟨"PressDaysModel", "posterPrints", "(I)I"⟩, 54) := ⟨⟨by decide +kernel, by decide +kernel⟩, List.mem_of_getElem? (i := 1021) (by decide +kernel), List.mem_of_getElem? (i := 1580) (by decide +kernel), List.mem_of_getElem? (i := 1581) (by decide +kernel)⟩
theorem lw_p71 : lw_okq (⟨"PressDaysModel", "ran", "(I)V"⟩, 54) := ⟨⟨by decide +kernel, by decide +kernel⟩, List.mem_of_getElem? (i := 1021) (by decide +kernel), List.mem_of_getElem? (i := 1584) (by decide +kernel), List.mem_of_getElem? (i := 1585) (by decide +kernel)⟩
theorem lw_p72 : lw_okq (⟨"PressDaysModel", "plainPrints", "(I)I"⟩, 54) := ⟨⟨by decide +kernel, by decide +kernel⟩, List.mem_of_getElem? (i := 1021) (by decide +kernel), List.mem_of_getElem? (i := 1588) (by decide +kernel), List.mem_of_getElem? (i := 1589) (by decide +kernel)⟩
theorem lw_p73 : lw_okq (⟨"PressDaysModel", "setsIt", "(I)I"⟩, 54) := ⟨⟨by decide +kernel, by decide +kernel⟩, List.mem_of_getElem? (i := 1021) (by decide +kernel), List.mem_of_getElem? (i := 1592) (by decide +kernel), List.mem_of_getElem? (i := 1593) (by decide +kernel)⟩
theorem lw_p74 : lw_okq (⟨"PressDaysModel", "weddingSets", "(I)I"⟩, 54) := ⟨⟨by decide +kernel, by decide +kernel⟩, List.mem_of_getElem? (i := 1021) (by decide +kernel), List.mem_of_getElem? (i := 1596) (by decide +kernel), List.mem_of_getElem? (i := 1597) (by decide +kernel)⟩
theorem lw_p75 : lw_okq (⟨"PressDaysModel", "plainSets", "(I)I"⟩, 54) := ⟨⟨by decide +kernel, by decide +kernel⟩, List.mem_of_getElem? (i := 1021) (by decide +kernel), List.mem_of_getElem? (i := 1600) (by decide +kernel), List.mem_of_getElem? (i := 1601) (by decide +kernel)⟩
theorem lw_p76 : lw_okq (⟨"PressDaysModel", "sharesIt", "(I)I"⟩, 54) := ⟨⟨by decide +kernel, by decide +kernel⟩, List.mem_of_getElem? (i := 1021) (by decide +kernel), List.mem_of_getElem? (i := 1604) (by decide +kernel), List.mem_of_getElem? (i := 1605) (by decide +kernel)⟩
theorem lw_p77 : lw_okq (⟨"PressDaysModel", "plainShares", "(I)I"⟩, 54) := ⟨⟨by decide +kernel, by decide +kernel⟩, List.mem_of_getElem? (i := 1021) (by decide +kernel), List.mem_of_getElem? (i := 1608) (by decide +kernel), List.mem_of_getElem? (i := 1609) (by decide +kernel)⟩
theorem lw_p78 : lw_okq (⟨"PressDaysModel", "tellsIt", "(I)I"⟩, 54) := ⟨⟨by decide +kernel, by decide +kernel⟩, List.mem_of_getElem? (i := 1021) (by decide +kernel), List.mem_of_getElem? (i := 1612) (by decide +kernel), List.mem_of_getElem? (i := 1613) (by decide +kernel)⟩
theorem lw_p79 : lw_okq (⟨"PressDaysModel", "plainTells", "(I)I"⟩, 54) := ⟨⟨by decide +kernel, by decide +kernel⟩, List.mem_of_getElem? (i := 1021) (by decide +kernel), List.mem_of_getElem? (i := 1616) (by decide +kernel), List.mem_of_getElem? (i := 1617) (by decide +kernel)⟩
def lw_privs_5 : List (MethodName × Nat) := [(⟨"PressDaysModel", "takenMany", "(I)I"⟩, 54), (⟨"PressDaysModel", "isRow", "(II)Z"⟩, 54), (⟨"PressDaysModel", "lacksSort", "(II)I"⟩, 54), (⟨"PressDaysModel", "isHeld", "(II)Z"⟩, 54), (⟨"PressDaysModel", "kindOn", "(I)I"⟩, 54), (⟨"PressDaysModel", "printsIt", "(I)I"⟩, 54), (⟨"PressDaysModel", "posterPrints", "(I)I"⟩, 54), (⟨"PressDaysModel", "ran", "(I)V"⟩, 54), (⟨"PressDaysModel", "plainPrints", "(I)I"⟩, 54), (⟨"PressDaysModel", "setsIt", "(I)I"⟩, 54), (⟨"PressDaysModel", "weddingSets", "(I)I"⟩, 54), (⟨"PressDaysModel", "plainSets", "(I)I"⟩, 54), (⟨"PressDaysModel", "sharesIt", "(I)I"⟩, 54), (⟨"PressDaysModel", "plainShares", "(I)I"⟩, 54), (⟨"PressDaysModel", "tellsIt", "(I)I"⟩, 54), (⟨"PressDaysModel", "plainTells", "(I)I"⟩, 54)]
theorem lw_r5 : ∀ q ∈ lw_privs_5, lw_okq q := List.forall_mem_cons.mpr ⟨lw_p64, List.forall_mem_cons.mpr ⟨lw_p65, List.forall_mem_cons.mpr ⟨lw_p66, List.forall_mem_cons.mpr ⟨lw_p67, List.forall_mem_cons.mpr ⟨lw_p68, List.forall_mem_cons.mpr ⟨lw_p69, List.forall_mem_cons.mpr ⟨lw_p70, List.forall_mem_cons.mpr ⟨lw_p71, List.forall_mem_cons.mpr ⟨lw_p72, List.forall_mem_cons.mpr ⟨lw_p73, List.forall_mem_cons.mpr ⟨lw_p74, List.forall_mem_cons.mpr ⟨lw_p75, List.forall_mem_cons.mpr ⟨lw_p76, List.forall_mem_cons.mpr ⟨lw_p77, List.forall_mem_cons.mpr ⟨lw_p78, List.forall_mem_cons.mpr ⟨lw_p79, fun _ h => absurd h List.not_mem_nil⟩⟩⟩⟩⟩⟩⟩⟩⟩⟩⟩⟩⟩⟩⟩⟩
theorem lw_p80 : lw_okq (⟨"PressDaysModel", "moveAll", "(Z)V"⟩, 54) := ⟨⟨by decide +kernel, by decide +kernel⟩, List.mem_of_getElem? (i := 1021) (by decide +kernel), List.mem_of_getElem? (i := 1632) (by decide +kernel), List.mem_of_getElem? (i := 1633) (by decide +kernel)⟩
theorem lw_p81 : lw_okq (⟨"PressDaysModel", "move", "([IIZ)V"⟩, 54) := ⟨⟨by decide +kernel, by decide +kernel⟩, List.mem_of_getElem? (i := 1021) (by decide +kernel), List.mem_of_getElem? (i := 1636) (by decide +kernel), List.mem_of_getElem? (i := 1637) (by decide +kernel)⟩
def lw_privs_6 : List (MethodName × Nat) := [(⟨"PressDaysModel", "moveAll", "(Z)V"⟩, 54), (⟨"PressDaysModel", "move", "([IIZ)V"⟩, 54)]
theorem lw_r6 : ∀ q ∈ lw_privs_6, lw_okq q := List.forall_mem_cons.mpr ⟨lw_p80, List.forall_mem_cons.mpr ⟨lw_p81, fun _ h => absurd h List.not_mem_nil⟩⟩
def lw_privs : List (MethodName × Nat) := lw_privs_1 ++ (lw_privs_2 ++ (lw_privs_3 ++ (lw_privs_4 ++ (lw_privs_5 ++ (lw_privs_6)))))
def lw_tbl : List Cond := k2_sels lw_privs ++ tables_1
theorem lw_privs_ok : ∀ q ∈ lw_privs, lw_okq q := by
  show ∀ q ∈ lw_privs_1 ++ (lw_privs_2 ++ (lw_privs_3 ++ (lw_privs_4 ++ (lw_privs_5 ++ (lw_privs_6))))), lw_okq q
  exact List.forall_mem_append.mpr ⟨lw_r1, List.forall_mem_append.mpr ⟨lw_r2, List.forall_mem_append.mpr ⟨lw_r3, List.forall_mem_append.mpr ⟨lw_r4, List.forall_mem_append.mpr ⟨lw_r5, lw_r6⟩⟩⟩⟩⟩

def RX0 : String := "PressDays$Ahead"
def TX0 : u_T := fun k => match k with
  | _ => ("PressDays$Ahead", "orders", "LPressDays$Orders;", true)
def tyX0 : Nat → FieldType := fun k => match k with
  | _ => .object "PressDays$Orders"
abbrev wsX00 : List Cond := u_ws RX0 TX0 1
theorem nmX0 : ∀ a, a < 1 → ∀ b, b < 1 → a ≠ b → (TX0 a).2.1 ≠ (TX0 b).2.1 := by decide +kernel
theorem tyX0_ok : ∀ k, k < 1 → parseFieldDescriptor (TX0 k).2.2.1 = some (tyX0 k) := by decide +kernel
abbrev cX0_init : ByteArray := prog_2_method_1_code
def yX0_init : MethodName := ⟨RX0, "<init>", "(LPressDays$Orders;)V"⟩
abbrev cX0_mostOf : ByteArray := prog_2_method_2_code
def yX0_mostOf : MethodName := ⟨RX0, "mostOf", "(LPressDays$Types;LPressDays$Jobs;II)I"⟩
abbrev cX0_behindCalls : ByteArray := prog_2_method_3_code
def yX0_behindCalls : MethodName := ⟨RX0, "behindCalls", "(LPressDays$Types;LPressDays$Jobs;II)I"⟩
def RX1 : String := "PressDays$Board"
def TX1 : u_T := fun k => match k with
  | 0 => ("PressDays$Board", "jobs", "LPressDays$Jobs;", true)
  | 1 => ("PressDays$Board", "law", "[I", true)
  | 2 => ("PressDays$Board", "lost", "[I", true)
  | 3 => ("PressDays$Board", "nightly", "[I", true)
  | 4 => ("PressDays$Board", "order", "[I", true)
  | 5 => ("PressDays$Board", "day", "I", false)
  | 6 => ("PressDays$Board", "colour", "I", false)
  | 7 => ("PressDays$Board", "left", "I", false)
  | _ => ("PressDays$Board", "till", "I", false)
def tyX1 : Nat → FieldType := fun k => match k with
  | 0 => .object "PressDays$Jobs"
  | 1 => .array .int
  | 2 => .array .int
  | 3 => .array .int
  | 4 => .array .int
  | 5 => .int
  | 6 => .int
  | 7 => .int
  | _ => .int
abbrev wsX10 : List Cond := u_ws RX1 TX1 9
theorem nmX1 : ∀ a, a < 9 → ∀ b, b < 9 → a ≠ b → (TX1 a).2.1 ≠ (TX1 b).2.1 := by decide +kernel
theorem tyX1_ok : ∀ k, k < 9 → parseFieldDescriptor (TX1 k).2.2.1 = some (tyX1 k) := by decide +kernel
abbrev cX1_init : ByteArray := prog_3_method_1_code
def yX1_init : MethodName := ⟨RX1, "<init>", "()V"⟩
abbrev cX1_slotsOn : ByteArray := prog_3_method_2_code
def yX1_slotsOn : MethodName := ⟨RX1, "slotsOn", "(I)I"⟩
abbrev cX1_begin : ByteArray := prog_3_method_3_code
def yX1_begin : MethodName := ⟨RX1, "begin", "(LPressDays$Jobs;[I)V"⟩
abbrev cX1_come : ByteArray := prog_3_method_4_code
def yX1_come : MethodName := ⟨RX1, "come", "(IIIII)I"⟩
abbrev cX1_leave : ByteArray := prog_3_method_5_code
def yX1_leave : MethodName := ⟨RX1, "leave", "(I)V"⟩
abbrev cX1_arrange : ByteArray := prog_3_method_6_code
def yX1_arrange : MethodName := ⟨RX1, "arrange", "(I)Z"⟩
abbrev cX1_workDay : ByteArray := prog_3_method_7_code
def yX1_workDay : MethodName := ⟨RX1, "workDay", "()I"⟩
abbrev cX1_workSlot : ByteArray := prog_3_method_8_code
def yX1_workSlot : MethodName := ⟨RX1, "workSlot", "(I)Z"⟩
abbrev cX1_copy : ByteArray := prog_3_method_9_code
def yX1_copy : MethodName := ⟨RX1, "copy", "(LPressDays$Board;)V"⟩
def RX2 : String := "PressDays$Chance"
def TX2 : u_T := fun k => match k with
  | 0 => ("PressDays$Chance", "course", "LPressDays$Course;", true)
  | 1 => ("PressDays$Chance", "used", "[I", true)
  | 2 => ("PressDays$Chance", "weight", "[I", true)
  | 3 => ("PressDays$Chance", "size", "[I", true)
  | 4 => ("PressDays$Chance", "order", "[I", true)
  | 5 => ("PressDays$Chance", "chosen", "[I", true)
  | 6 => ("PressDays$Chance", "jobs", "LPressDays$Jobs;", false)
  | 7 => ("PressDays$Chance", "lateToo", "Z", false)
  | 8 => ("PressDays$Chance", "earned", "I", false)
  | _ => ("PressDays$Chance", "most", "I", false)
def tyX2 : Nat → FieldType := fun k => match k with
  | 0 => .object "PressDays$Course"
  | 1 => .array .int
  | 2 => .array .int
  | 3 => .array .int
  | 4 => .array .int
  | 5 => .array .int
  | 6 => .object "PressDays$Jobs"
  | 7 => .boolean
  | 8 => .int
  | _ => .int
abbrev wsX20 : List Cond := u_ws RX2 TX2 10
theorem nmX2 : ∀ a, a < 10 → ∀ b, b < 10 → a ≠ b → (TX2 a).2.1 ≠ (TX2 b).2.1 := by decide +kernel
theorem tyX2_ok : ∀ k, k < 10 → parseFieldDescriptor (TX2 k).2.2.1 = some (tyX2 k) := by decide +kernel
abbrev cX2_init : ByteArray := prog_4_method_1_code
def yX2_init : MethodName := ⟨RX2, "<init>", "(LPressDays$Course;)V"⟩
abbrev cX2_sureOf : ByteArray := prog_4_method_2_code
def yX2_sureOf : MethodName := ⟨RX2, "sureOf", "(LPressDays$Jobs;[I)I"⟩
abbrev cX2_meanOf : ByteArray := prog_4_method_3_code
def yX2_meanOf : MethodName := ⟨RX2, "meanOf", "(LPressDays$Jobs;[I)I"⟩
abbrev cX2_surest : ByteArray := prog_4_method_4_code
def yX2_surest : MethodName := ⟨RX2, "surest", "(LPressDays$Jobs;)I"⟩
abbrev cX2_begin : ByteArray := prog_4_method_5_code
def yX2_begin : MethodName := ⟨RX2, "begin", "(LPressDays$Jobs;Z)V"⟩
abbrev cX2_walk : ByteArray := prog_4_method_6_code
def yX2_walk : MethodName := ⟨RX2, "walk", "(IIII)V"⟩
abbrev cX2_spread : ByteArray := prog_4_method_7_code
def yX2_spread : MethodName := ⟨RX2, "spread", "(III)I"⟩
def RX3 : String := "PressDays$Course"
def TX3 : u_T := fun k => match k with
  | 0 => ("PressDays$Course", "dayOf", "[I", true)
  | 1 => ("PressDays$Course", "endOf", "[I", true)
  | 2 => ("PressDays$Course", "fine", "I", false)
  | 3 => ("PressDays$Course", "odds", "I", false)
  | 4 => ("PressDays$Course", "setting", "I", false)
  | 5 => ("PressDays$Course", "colour", "I", false)
  | _ => ("PressDays$Course", "left", "I", false)
def tyX3 : Nat → FieldType := fun k => match k with
  | 0 => .array .int
  | 1 => .array .int
  | 2 => .int
  | 3 => .int
  | 4 => .int
  | 5 => .int
  | _ => .int
abbrev wsX30 : List Cond := u_ws RX3 TX3 7
theorem nmX3 : ∀ a, a < 7 → ∀ b, b < 7 → a ≠ b → (TX3 a).2.1 ≠ (TX3 b).2.1 := by decide +kernel
theorem tyX3_ok : ∀ k, k < 7 → parseFieldDescriptor (TX3 k).2.2.1 = some (tyX3 k) := by decide +kernel
abbrev cX3_init : ByteArray := prog_5_method_1_code
def yX3_init : MethodName := ⟨RX3, "<init>", "()V"⟩
abbrev cX3_measure : ByteArray := prog_5_method_2_code
def yX3_measure : MethodName := ⟨RX3, "measure", "(LPressDays$Board;I)V"⟩
abbrev cX3_usedBehind : ByteArray := prog_5_method_3_code
def yX3_usedBehind : MethodName := ⟨RX3, "usedBehind", "(IILPressDays$Jobs;I)I"⟩
abbrev cX3_dayAt : ByteArray := prog_5_method_4_code
def yX3_dayAt : MethodName := ⟨RX3, "dayAt", "(I)I"⟩
abbrev cX3_follow : ByteArray := prog_5_method_5_code
def yX3_follow : MethodName := ⟨RX3, "follow", "(LPressDays$Jobs;[I)V"⟩
def RX4 : String := "PressDays$Jobs"
def TX4 : u_T := fun k => match k with
  | 0 => ("PressDays$Jobs", "count", "I", false)
  | 1 => ("PressDays$Jobs", "kind", "[I", true)
  | 2 => ("PressDays$Jobs", "rest", "[I", true)
  | 3 => ("PressDays$Jobs", "colour", "[I", true)
  | 4 => ("PressDays$Jobs", "by", "[I", true)
  | _ => ("PressDays$Jobs", "price", "[I", true)
def tyX4 : Nat → FieldType := fun k => match k with
  | 0 => .int
  | 1 => .array .int
  | 2 => .array .int
  | 3 => .array .int
  | 4 => .array .int
  | _ => .array .int
abbrev wsX40 : List Cond := u_ws RX4 TX4 6
theorem nmX4 : ∀ a, a < 6 → ∀ b, b < 6 → a ≠ b → (TX4 a).2.1 ≠ (TX4 b).2.1 := by decide +kernel
theorem tyX4_ok : ∀ k, k < 6 → parseFieldDescriptor (TX4 k).2.2.1 = some (tyX4 k) := by decide +kernel
abbrev cX4_init : ByteArray := prog_6_method_1_code
def yX4_init : MethodName := ⟨RX4, "<init>", "()V"⟩
abbrev cX4_has : ByteArray := prog_6_method_2_code
def yX4_has : MethodName := ⟨RX4, "has", "(I)Z"⟩
abbrev cX4_add : ByteArray := prog_6_method_3_code
def yX4_add : MethodName := ⟨RX4, "add", "(IIIII)V"⟩
abbrev cX4_remove : ByteArray := prog_6_method_4_code
def yX4_remove : MethodName := ⟨RX4, "remove", "(I)V"⟩
abbrev cX4_copy : ByteArray := prog_6_method_5_code
def yX4_copy : MethodName := ⟨RX4, "copy", "(LPressDays$Jobs;)V"⟩
abbrev cX4_valueOf : ByteArray := prog_6_method_6_code
def yX4_valueOf : MethodName := ⟨RX4, "valueOf", "(III)I"⟩
def RX5 : String := "PressDays$Orders"
def TX5 : u_T := fun k => match k with
  | 0 => ("PressDays$Orders", "course", "LPressDays$Course;", true)
  | 1 => ("PressDays$Orders", "order", "[I", true)
  | 2 => ("PressDays$Orders", "chosen", "[I", true)
  | 3 => ("PressDays$Orders", "jobs", "LPressDays$Jobs;", false)
  | 4 => ("PressDays$Orders", "aim", "I", false)
  | 5 => ("PressDays$Orders", "many", "I", false)
  | _ => ("PressDays$Orders", "least", "I", false)
def tyX5 : Nat → FieldType := fun k => match k with
  | 0 => .object "PressDays$Course"
  | 1 => .array .int
  | 2 => .array .int
  | 3 => .object "PressDays$Jobs"
  | 4 => .int
  | 5 => .int
  | _ => .int
abbrev wsX50 : List Cond := u_ws RX5 TX5 7
theorem nmX5 : ∀ a, a < 7 → ∀ b, b < 7 → a ≠ b → (TX5 a).2.1 ≠ (TX5 b).2.1 := by decide +kernel
theorem tyX5_ok : ∀ k, k < 7 → parseFieldDescriptor (TX5 k).2.2.1 = some (tyX5 k) := by decide +kernel
abbrev cX5_init : ByteArray := prog_7_method_1_code
def yX5_init : MethodName := ⟨RX5, "<init>", "(LPressDays$Course;)V"⟩
abbrev cX5_mostWorth : ByteArray := prog_7_method_2_code
def yX5_mostWorth : MethodName := ⟨RX5, "mostWorth", "(LPressDays$Jobs;I)I"⟩
abbrev cX5_fewestLate : ByteArray := prog_7_method_3_code
def yX5_fewestLate : MethodName := ⟨RX5, "fewestLate", "(LPressDays$Jobs;)I"⟩
abbrev cX5_soonestEnd : ByteArray := prog_7_method_4_code
def yX5_soonestEnd : MethodName := ⟨RX5, "soonestEnd", "(LPressDays$Jobs;)I"⟩
abbrev cX5_leastLost : ByteArray := prog_7_method_5_code
def yX5_leastLost : MethodName := ⟨RX5, "leastLost", "(ILPressDays$Jobs;I)I"⟩
abbrev cX5_walk : ByteArray := prog_7_method_6_code
def yX5_walk : MethodName := ⟨RX5, "walk", "(IIIII)V"⟩
abbrev cX5_lossOf : ByteArray := prog_7_method_7_code
def yX5_lossOf : MethodName := ⟨RX5, "lossOf", "(II)I"⟩
def RX6 : String := "PressDays$Rows"
def TX6 : u_T := fun k => match k with
  | 0 => ("PressDays$Rows", "course", "LPressDays$Course;", true)
  | 1 => ("PressDays$Rows", "cell", "[I", true)
  | _ => ("PressDays$Rows", "count", "I", false)
def tyX6 : Nat → FieldType := fun k => match k with
  | 0 => .object "PressDays$Course"
  | 1 => .array .int
  | _ => .int
abbrev wsX60 : List Cond := u_ws RX6 TX6 3
theorem nmX6 : ∀ a, a < 3 → ∀ b, b < 3 → a ≠ b → (TX6 a).2.1 ≠ (TX6 b).2.1 := by decide +kernel
theorem tyX6_ok : ∀ k, k < 3 → parseFieldDescriptor (TX6 k).2.2.1 = some (tyX6 k) := by decide +kernel
abbrev cX6_init : ByteArray := prog_8_method_1_code
def yX6_init : MethodName := ⟨RX6, "<init>", "(LPressDays$Course;)V"⟩
abbrev cX6_has : ByteArray := prog_8_method_2_code
def yX6_has : MethodName := ⟨RX6, "has", "(II)Z"⟩
abbrev cX6_fill : ByteArray := prog_8_method_3_code
def yX6_fill : MethodName := ⟨RX6, "fill", "(LPressDays$Jobs;[I)V"⟩
abbrev cX6_firstWrong : ByteArray := prog_8_method_4_code
def yX6_firstWrong : MethodName := ⟨RX6, "firstWrong", "(LPressDays$Jobs;)I"⟩
def RX7 : String := "PressDays$Shelves"
def TX7 : u_T := fun k => match k with
  | 0 => ("PressDays$Shelves", "sheetSort", "[I", true)
  | 1 => ("PressDays$Shelves", "sheetSize", "[I", true)
  | 2 => ("PressDays$Shelves", "item", "[I", true)
  | 3 => ("PressDays$Shelves", "holds", "[I", true)
  | 4 => ("PressDays$Shelves", "shelfSort", "[I", true)
  | _ => ("PressDays$Shelves", "shelfNumber", "[I", true)
def tyX7 : Nat → FieldType := fun k => match k with
  | 0 => .array .int
  | 1 => .array .int
  | 2 => .array .int
  | 3 => .array .int
  | 4 => .array .int
  | _ => .array .int
abbrev wsX70 : List Cond := u_ws RX7 TX7 6
theorem nmX7 : ∀ a, a < 6 → ∀ b, b < 6 → a ≠ b → (TX7 a).2.1 ≠ (TX7 b).2.1 := by decide +kernel
theorem tyX7_ok : ∀ k, k < 6 → parseFieldDescriptor (TX7 k).2.2.1 = some (tyX7 k) := by decide +kernel
abbrev cX7_init : ByteArray := prog_9_method_1_code
def yX7_init : MethodName := ⟨RX7, "<init>", "()V"⟩
abbrev cX7_isPlace : ByteArray := prog_9_method_2_code
def yX7_isPlace : MethodName := ⟨RX7, "isPlace", "(I)Z"⟩
abbrev cX7_narrowed : ByteArray := prog_9_method_3_code
def yX7_narrowed : MethodName := ⟨RX7, "narrowed", "(II)I"⟩
abbrev cX7_lay : ByteArray := prog_9_method_4_code
def yX7_lay : MethodName := ⟨RX7, "lay", "(III)V"⟩
abbrev cX7_holdNothing : ByteArray := prog_9_method_5_code
def yX7_holdNothing : MethodName := ⟨RX7, "holdNothing", "(I)V"⟩
abbrev cX7_holdJob : ByteArray := prog_9_method_6_code
def yX7_holdJob : MethodName := ⟨RX7, "holdJob", "(II)V"⟩
abbrev cX7_holdRow : ByteArray := prog_9_method_7_code
def yX7_holdRow : MethodName := ⟨RX7, "holdRow", "(II)V"⟩
abbrev cX7_holdsRow : ByteArray := prog_9_method_8_code
def yX7_holdsRow : MethodName := ⟨RX7, "holdsRow", "(I)Z"⟩
abbrev cX7_jobOn : ByteArray := prog_9_method_9_code
def yX7_jobOn : MethodName := ⟨RX7, "jobOn", "(I)I"⟩
def RX8 : String := "PressDays$Text"
def TX8 : u_T := fun k => match k with
  | 0 => ("PressDays$Text", "tape", "[B", true)
  | 1 => ("PressDays$Text", "count", "I", false)
  | 2 => ("PressDays$Text", "jobs", "LPressDays$Jobs;", true)
  | 3 => ("PressDays$Text", "law", "[I", true)
  | 4 => ("PressDays$Text", "sort", "I", false)
  | 5 => ("PressDays$Text", "start", "I", false)
  | 6 => ("PressDays$Text", "behind", "I", false)
  | _ => ("PressDays$Text", "value", "I", false)
def tyX8 : Nat → FieldType := fun k => match k with
  | 0 => .array .byte
  | 1 => .int
  | 2 => .object "PressDays$Jobs"
  | 3 => .array .int
  | 4 => .int
  | 5 => .int
  | 6 => .int
  | _ => .int
abbrev wsX80 : List Cond := u_ws RX8 TX8 8
theorem nmX8 : ∀ a, a < 8 → ∀ b, b < 8 → a ≠ b → (TX8 a).2.1 ≠ (TX8 b).2.1 := by decide +kernel
theorem tyX8_ok : ∀ k, k < 8 → parseFieldDescriptor (TX8 k).2.2.1 = some (tyX8 k) := by decide +kernel
abbrev cX8_init : ByteArray := prog_10_method_1_code
def yX8_init : MethodName := ⟨RX8, "<init>", "()V"⟩
abbrev cX8_take : ByteArray := prog_10_method_2_code
def yX8_take : MethodName := ⟨RX8, "take", "(JI)I"⟩
abbrev cX8_useUp : ByteArray := prog_10_method_3_code
def yX8_useUp : MethodName := ⟨RX8, "useUp", "()V"⟩
abbrev cX8_read : ByteArray := prog_10_method_4_code
def yX8_read : MethodName := ⟨RX8, "read", "()I"⟩
abbrev cX8_readLaw : ByteArray := prog_10_method_5_code
def yX8_readLaw : MethodName := ⟨RX8, "readLaw", "(I)Z"⟩
abbrev cX8_readJob : ByteArray := prog_10_method_6_code
def yX8_readJob : MethodName := ⟨RX8, "readJob", "()Z"⟩
abbrev cX8_lawNamed : ByteArray := prog_10_method_7_code
def yX8_lawNamed : MethodName := ⟨RX8, "lawNamed", "()I"⟩
abbrev cX8_kindNamed : ByteArray := prog_10_method_8_code
def yX8_kindNamed : MethodName := ⟨RX8, "kindNamed", "()I"⟩
abbrev cX8_isNamed : ByteArray := prog_10_method_9_code
def yX8_isNamed : MethodName := ⟨RX8, "isNamed", "(Ljava/lang/String;)Z"⟩
abbrev cX8_passName : ByteArray := prog_10_method_10_code
def yX8_passName : MethodName := ⟨RX8, "passName", "(Ljava/lang/String;)Z"⟩
abbrev cX8_passNumber : ByteArray := prog_10_method_11_code
def yX8_passNumber : MethodName := ⟨RX8, "passNumber", "(II)Z"⟩
abbrev cX8_passStop : ByteArray := prog_10_method_12_code
def yX8_passStop : MethodName := ⟨RX8, "passStop", "()Z"⟩
abbrev cX8_next : ByteArray := prog_10_method_13_code
def yX8_next : MethodName := ⟨RX8, "next", "()V"⟩
abbrev cX8_sortAt : ByteArray := prog_10_method_14_code
def yX8_sortAt : MethodName := ⟨RX8, "sortAt", "(I)I"⟩
def RX9 : String := "PressDays$Thing"
def TX9 : u_T := fun k => match k with
  | 0 => ("PressDays$Thing", "kind", "I", false)
  | 1 => ("PressDays$Thing", "n", "I", false)
  | 2 => ("PressDays$Thing", "a", "I", false)
  | 3 => ("PressDays$Thing", "isParted", "Z", false)
  | 4 => ("PressDays$Thing", "body", "[I", true)
  | _ => ("PressDays$Thing", "ran", "I", false)
def tyX9 : Nat → FieldType := fun k => match k with
  | 0 => .int
  | 1 => .int
  | 2 => .int
  | 3 => .boolean
  | 4 => .array .int
  | _ => .int
abbrev wsX90 : List Cond := u_ws RX9 TX9 6
theorem nmX9 : ∀ a, a < 6 → ∀ b, b < 6 → a ≠ b → (TX9 a).2.1 ≠ (TX9 b).2.1 := by decide +kernel
theorem tyX9_ok : ∀ k, k < 6 → parseFieldDescriptor (TX9 k).2.2.1 = some (tyX9 k) := by decide +kernel
abbrev cX9_init : ByteArray := prog_11_method_1_code
def yX9_init : MethodName := ⟨RX9, "<init>", "()V"⟩
abbrev cX9_forget : ByteArray := prog_11_method_2_code
def yX9_forget : MethodName := ⟨RX9, "forget", "()V"⟩
abbrev cX9_become : ByteArray := prog_11_method_3_code
def yX9_become : MethodName := ⟨RX9, "become", "(III)V"⟩
abbrev cX9_perform : ByteArray := prog_11_method_4_code
def yX9_perform : MethodName := ⟨RX9, "perform", "(II)I"⟩
abbrev cX9_runs : ByteArray := prog_11_method_5_code
def yX9_runs : MethodName := ⟨RX9, "runs", "(I)V"⟩
abbrev cX9_is : ByteArray := prog_11_method_6_code
def yX9_is : MethodName := ⟨RX9, "is", "(I)Z"⟩
abbrev cX9_prints : ByteArray := prog_11_method_7_code
def yX9_prints : MethodName := ⟨RX9, "prints", "(I)I"⟩
abbrev cX9_sets : ByteArray := prog_11_method_8_code
def yX9_sets : MethodName := ⟨RX9, "sets", "(I)I"⟩
abbrev cX9_shares : ByteArray := prog_11_method_9_code
def yX9_shares : MethodName := ⟨RX9, "shares", "(I)I"⟩
abbrev cX9_tells : ByteArray := prog_11_method_10_code
def yX9_tells : MethodName := ⟨RX9, "tells", "(I)I"⟩
def RX10 : String := "PressDays$Types"
def TX10 : u_T := fun k => match k with
  | 0 => ("PressDays$Types", "count", "I", false)
  | 1 => ("PressDays$Types", "z", "I", false)
  | 2 => ("PressDays$Types", "kind", "[I", true)
  | 3 => ("PressDays$Types", "slots", "[I", true)
  | 4 => ("PressDays$Types", "colour", "[I", true)
  | 5 => ("PressDays$Types", "patience", "[I", true)
  | 6 => ("PressDays$Types", "price", "[I", true)
  | _ => ("PressDays$Types", "odds", "[I", true)
def tyX10 : Nat → FieldType := fun k => match k with
  | 0 => .int
  | 1 => .int
  | 2 => .array .int
  | 3 => .array .int
  | 4 => .array .int
  | 5 => .array .int
  | 6 => .array .int
  | _ => .array .int
abbrev wsX100 : List Cond := u_ws RX10 TX10 8
theorem nmX10 : ∀ a, a < 8 → ∀ b, b < 8 → a ≠ b → (TX10 a).2.1 ≠ (TX10 b).2.1 := by decide +kernel
theorem tyX10_ok : ∀ k, k < 8 → parseFieldDescriptor (TX10 k).2.2.1 = some (tyX10 k) := by decide +kernel
abbrev cX10_init : ByteArray := prog_12_method_1_code
def yX10_init : MethodName := ⟨RX10, "<init>", "()V"⟩
abbrev cX10_oddsOfAll : ByteArray := prog_12_method_2_code
def yX10_oddsOfAll : MethodName := ⟨RX10, "oddsOfAll", "()I"⟩
abbrev cX10_add : ByteArray := prog_12_method_3_code
def yX10_add : MethodName := ⟨RX10, "add", "(IIIIII)I"⟩
abbrev cX10_next : ByteArray := prog_12_method_4_code
def yX10_next : MethodName := ⟨RX10, "next", "()I"⟩
abbrev cX10_copy : ByteArray := prog_12_method_5_code
def yX10_copy : MethodName := ⟨RX10, "copy", "(LPressDays$Types;)V"⟩
def RX11 : String := "PressDays"
def TX11 : u_T := fun k => match k with
  | 0 => ("PressDays", "now", "LPressDays$Board;", true)
  | 1 => ("PressDays", "keptBoard", "LPressDays$Board;", true)
  | 2 => ("PressDays", "types", "LPressDays$Types;", true)
  | 3 => ("PressDays", "keptTypes", "LPressDays$Types;", true)
  | 4 => ("PressDays", "isKept", "Z", false)
  | 5 => ("PressDays", "text", "LPressDays$Text;", true)
  | 6 => ("PressDays", "course", "LPressDays$Course;", true)
  | 7 => ("PressDays", "orders", "LPressDays$Orders;", true)
  | 8 => ("PressDays", "chance", "LPressDays$Chance;", true)
  | 9 => ("PressDays", "calls", "LPressDays$Ahead;", true)
  | 10 => ("PressDays", "rows", "LPressDays$Rows;", true)
  | 11 => ("PressDays", "trial", "LPressDays$Jobs;", true)
  | 12 => ("PressDays", "shelves", "LPressDays$Shelves;", true)
  | _ => ("PressDays", "thing", "LPressDays$Thing;", true)
def tyX11 : Nat → FieldType := fun k => match k with
  | 0 => .object "PressDays$Board"
  | 1 => .object "PressDays$Board"
  | 2 => .object "PressDays$Types"
  | 3 => .object "PressDays$Types"
  | 4 => .boolean
  | 5 => .object "PressDays$Text"
  | 6 => .object "PressDays$Course"
  | 7 => .object "PressDays$Orders"
  | 8 => .object "PressDays$Chance"
  | 9 => .object "PressDays$Ahead"
  | 10 => .object "PressDays$Rows"
  | 11 => .object "PressDays$Jobs"
  | 12 => .object "PressDays$Shelves"
  | _ => .object "PressDays$Thing"
abbrev wsX110 : List Cond := u_ws RX11 TX11 14
theorem nmX11 : ∀ a, a < 14 → ∀ b, b < 14 → a ≠ b → (TX11 a).2.1 ≠ (TX11 b).2.1 := by decide +kernel
theorem tyX11_ok : ∀ k, k < 14 → parseFieldDescriptor (TX11 k).2.2.1 = some (tyX11 k) := by decide +kernel
abbrev cX11_init : ByteArray := prog_1_method_1_code
def yX11_init : MethodName := ⟨RX11, "<init>", "()V"⟩
abbrev cX11_feed : ByteArray := prog_1_method_2_code
def yX11_feed : MethodName := ⟨RX11, "feed", "(JI)I"⟩
abbrev cX11_board : ByteArray := prog_1_method_3_code
def yX11_board : MethodName := ⟨RX11, "board", "()I"⟩
abbrev cX11_job : ByteArray := prog_1_method_4_code
def yX11_job : MethodName := ⟨RX11, "job", "(IIIII)I"⟩
abbrev cX11_jobOf : ByteArray := prog_1_method_5_code
def yX11_jobOf : MethodName := ⟨RX11, "jobOf", "(II)I"⟩
abbrev cX11_drop : ByteArray := prog_1_method_6_code
def yX11_drop : MethodName := ⟨RX11, "drop", "(I)I"⟩
abbrev cX11_set : ByteArray := prog_1_method_7_code
def yX11_set : MethodName := ⟨RX11, "set", "(II)I"⟩
abbrev cX11_lose : ByteArray := prog_1_method_8_code
def yX11_lose : MethodName := ⟨RX11, "lose", "(II)I"⟩
abbrev cX11_night : ByteArray := prog_1_method_9_code
def yX11_night : MethodName := ⟨RX11, "night", "(II)I"⟩
abbrev cX11_slots : ByteArray := prog_1_method_10_code
def yX11_slots : MethodName := ⟨RX11, "slots", "(I)I"⟩
abbrev cX11_plan : ByteArray := prog_1_method_11_code
def yX11_plan : MethodName := ⟨RX11, "plan", "(I)I"⟩
abbrev cX11_planOf : ByteArray := prog_1_method_12_code
def yX11_planOf : MethodName := ⟨RX11, "planOf", "(I)I"⟩
abbrev cX11_press : ByteArray := prog_1_method_13_code
def yX11_press : MethodName := ⟨RX11, "press", "(I)I"⟩
abbrev cX11_ends : ByteArray := prog_1_method_14_code
def yX11_ends : MethodName := ⟨RX11, "ends", "(I)I"⟩
abbrev cX11_late : ByteArray := prog_1_method_15_code
def yX11_late : MethodName := ⟨RX11, "late", "()I"⟩
abbrev cX11_worth : ByteArray := prog_1_method_16_code
def yX11_worth : MethodName := ⟨RX11, "worth", "()I"⟩
abbrev cX11_best : ByteArray := prog_1_method_17_code
def yX11_best : MethodName := ⟨RX11, "best", "(I)I"⟩
abbrev cX11_fewest : ByteArray := prog_1_method_18_code
def yX11_fewest : MethodName := ⟨RX11, "fewest", "()I"⟩
abbrev cX11_soonest : ByteArray := prog_1_method_19_code
def yX11_soonest : MethodName := ⟨RX11, "soonest", "(III)I"⟩
abbrev cX11_gain : ByteArray := prog_1_method_20_code
def yX11_gain : MethodName := ⟨RX11, "gain", "(IIIII)I"⟩
abbrev cX11_across : ByteArray := prog_1_method_21_code
def yX11_across : MethodName := ⟨RX11, "across", "(I)I"⟩
abbrev cX11_nights : ByteArray := prog_1_method_22_code
def yX11_nights : MethodName := ⟨RX11, "nights", "()I"⟩
abbrev cX11_sure : ByteArray := prog_1_method_23_code
def yX11_sure : MethodName := ⟨RX11, "sure", "(I)I"⟩
abbrev cX11_safest : ByteArray := prog_1_method_24_code
def yX11_safest : MethodName := ⟨RX11, "safest", "(I)I"⟩
abbrev cX11_mean : ByteArray := prog_1_method_25_code
def yX11_mean : MethodName := ⟨RX11, "mean", "(I)I"⟩
abbrev cX11_type : ByteArray := prog_1_method_26_code
def yX11_type : MethodName := ⟨RX11, "type", "(IIIIII)I"⟩
abbrev cX11_typeOf : ByteArray := prog_1_method_27_code
def yX11_typeOf : MethodName := ⟨RX11, "typeOf", "(II)I"⟩
abbrev cX11_ahead : ByteArray := prog_1_method_28_code
def yX11_ahead : MethodName := ⟨RX11, "ahead", "(II)I"⟩
abbrev cX11_comes : ByteArray := prog_1_method_29_code
def yX11_comes : MethodName := ⟨RX11, "comes", "()I"⟩
abbrev cX11_seed : ByteArray := prog_1_method_30_code
def yX11_seed : MethodName := ⟨RX11, "seed", "(I)I"⟩
abbrev cX11_goes : ByteArray := prog_1_method_31_code
def yX11_goes : MethodName := ⟨RX11, "goes", "()I"⟩
abbrev cX11_till : ByteArray := prog_1_method_32_code
def yX11_till : MethodName := ⟨RX11, "till", "()I"⟩
abbrev cX11_prove : ByteArray := prog_1_method_33_code
def yX11_prove : MethodName := ⟨RX11, "prove", "()I"⟩
abbrev cX11_row : ByteArray := prog_1_method_34_code
def yX11_row : MethodName := ⟨RX11, "row", "(II)I"⟩
abbrev cX11_alterRow : ByteArray := prog_1_method_35_code
def yX11_alterRow : MethodName := ⟨RX11, "alterRow", "(III)I"⟩
abbrev cX11_judge : ByteArray := prog_1_method_36_code
def yX11_judge : MethodName := ⟨RX11, "judge", "()I"⟩
abbrev cX11_sheet : ByteArray := prog_1_method_37_code
def yX11_sheet : MethodName := ⟨RX11, "sheet", "(III)I"⟩
abbrev cX11_put : ByteArray := prog_1_method_38_code
def yX11_put : MethodName := ⟨RX11, "put", "(III)I"⟩
abbrev cX11_item : ByteArray := prog_1_method_39_code
def yX11_item : MethodName := ⟨RX11, "item", "(III)I"⟩
abbrev cX11_shelf : ByteArray := prog_1_method_40_code
def yX11_shelf : MethodName := ⟨RX11, "shelf", "(III)I"⟩
abbrev cX11_taken : ByteArray := prog_1_method_41_code
def yX11_taken : MethodName := ⟨RX11, "taken", "(II)I"⟩
abbrev cX11_act : ByteArray := prog_1_method_42_code
def yX11_act : MethodName := ⟨RX11, "act", "(III)I"⟩
abbrev cX11_trace : ByteArray := prog_1_method_43_code
def yX11_trace : MethodName := ⟨RX11, "trace", "(I)I"⟩
abbrev cX11_many : ByteArray := prog_1_method_44_code
def yX11_many : MethodName := ⟨RX11, "many", "(I)I"⟩
abbrev cX11_keep : ByteArray := prog_1_method_45_code
def yX11_keep : MethodName := ⟨RX11, "keep", "()I"⟩
abbrev cX11_again : ByteArray := prog_1_method_46_code
def yX11_again : MethodName := ⟨RX11, "again", "()I"⟩
abbrev cX11_followPlan : ByteArray := prog_1_method_47_code
def yX11_followPlan : MethodName := ⟨RX11, "followPlan", "()V"⟩
abbrev cX11_within : ByteArray := prog_1_method_48_code
def yX11_within : MethodName := ⟨RX11, "within", "(III)Z"⟩
abbrev cX11_isJob : ByteArray := prog_1_method_49_code
def yX11_isJob : MethodName := ⟨RX11, "isJob", "(IIIII)Z"⟩
abbrev cX11_isUnder : ByteArray := prog_1_method_50_code
def yX11_isUnder : MethodName := ⟨RX11, "isUnder", "(II)Z"⟩
abbrev cX11_digitsOf : ByteArray := prog_1_method_51_code
def yX11_digitsOf : MethodName := ⟨RX11, "digitsOf", "([II)I"⟩
abbrev cX11_partOf : ByteArray := prog_1_method_52_code
def yX11_partOf : MethodName := ⟨RX11, "partOf", "(III)I"⟩
def RX12 : String := "PressDaysModel"
def TX12 : u_T := fun k => match k with
  | 0 => ("PressDaysModel", "jobs", "I", false)
  | 1 => ("PressDaysModel", "job", "[I", true)
  | 2 => ("PressDaysModel", "laws", "[I", true)
  | 3 => ("PressDaysModel", "leastOf", "[I", true)
  | 4 => ("PressDaysModel", "mostOf", "[I", true)
  | 5 => ("PressDaysModel", "day", "I", false)
  | 6 => ("PressDaysModel", "colour", "I", false)
  | 7 => ("PressDaysModel", "setting", "I", false)
  | 8 => ("PressDaysModel", "till", "I", false)
  | 9 => ("PressDaysModel", "lost", "[I", true)
  | 10 => ("PressDaysModel", "nightsOf", "[I", true)
  | 11 => ("PressDaysModel", "plan", "[I", true)
  | 12 => ("PressDaysModel", "types", "I", false)
  | 13 => ("PressDaysModel", "type", "[I", true)
  | 14 => ("PressDaysModel", "z", "I", false)
  | 15 => ("PressDaysModel", "tape", "[I", true)
  | 16 => ("PressDaysModel", "tapeMany", "I", false)
  | 17 => ("PressDaysModel", "sort", "I", false)
  | 18 => ("PressDaysModel", "begins", "I", false)
  | 19 => ("PressDaysModel", "tokenEnds", "I", false)
  | 20 => ("PressDaysModel", "word", "J", false)
  | 21 => ("PressDaysModel", "value", "I", false)
  | 22 => ("PressDaysModel", "good", "Z", false)
  | 23 => ("PressDaysModel", "fresh", "[I", true)
  | 24 => ("PressDaysModel", "freshLaws", "[I", true)
  | 25 => ("PressDaysModel", "freshMany", "I", false)
  | 26 => ("PressDaysModel", "order", "[I", true)
  | 27 => ("PressDaysModel", "rest", "[I", true)
  | 28 => ("PressDaysModel", "endsOn", "[I", true)
  | 29 => ("PressDaysModel", "pressColour", "I", false)
  | 30 => ("PressDaysModel", "pressSetting", "I", false)
  | 31 => ("PressDaysModel", "bestOrder", "[I", true)
  | 32 => ("PressDaysModel", "above", "I", false)
  | 33 => ("PressDaysModel", "below", "I", false)
  | 34 => ("PressDaysModel", "worths", "[I", true)
  | 35 => ("PressDaysModel", "next", "[I", true)
  | 36 => ("PressDaysModel", "rows", "[I", true)
  | 37 => ("PressDaysModel", "rowMany", "I", false)
  | 38 => ("PressDaysModel", "sorts", "[I", true)
  | 39 => ("PressDaysModel", "sizes", "[I", true)
  | 40 => ("PressDaysModel", "sheets", "[J", true)
  | 41 => ("PressDaysModel", "held", "[I", true)
  | 42 => ("PressDaysModel", "heldNumber", "[I", true)
  | 43 => ("PressDaysModel", "heldSize", "[I", true)
  | 44 => ("PressDaysModel", "kind", "I", false)
  | 45 => ("PressDaysModel", "number", "I", false)
  | 46 => ("PressDaysModel", "own", "I", false)
  | 47 => ("PressDaysModel", "traced", "[I", true)
  | 48 => ("PressDaysModel", "bodies", "I", false)
  | 49 => ("PressDaysModel", "isParted", "Z", false)
  | 50 => ("PressDaysModel", "isKept", "Z", false)
  | 51 => ("PressDaysModel", "kept", "[I", true)
  | 52 => ("PressDaysModel", "movedTo", "I", false)
  | _ => ("PressDaysModel", "single", "[I", true)
def tyX12 : Nat → FieldType := fun k => match k with
  | 0 => .int
  | 1 => .array .int
  | 2 => .array .int
  | 3 => .array .int
  | 4 => .array .int
  | 5 => .int
  | 6 => .int
  | 7 => .int
  | 8 => .int
  | 9 => .array .int
  | 10 => .array .int
  | 11 => .array .int
  | 12 => .int
  | 13 => .array .int
  | 14 => .int
  | 15 => .array .int
  | 16 => .int
  | 17 => .int
  | 18 => .int
  | 19 => .int
  | 20 => .long
  | 21 => .int
  | 22 => .boolean
  | 23 => .array .int
  | 24 => .array .int
  | 25 => .int
  | 26 => .array .int
  | 27 => .array .int
  | 28 => .array .int
  | 29 => .int
  | 30 => .int
  | 31 => .array .int
  | 32 => .int
  | 33 => .int
  | 34 => .array .int
  | 35 => .array .int
  | 36 => .array .int
  | 37 => .int
  | 38 => .array .int
  | 39 => .array .int
  | 40 => .array .long
  | 41 => .array .int
  | 42 => .array .int
  | 43 => .array .int
  | 44 => .int
  | 45 => .int
  | 46 => .int
  | 47 => .array .int
  | 48 => .int
  | 49 => .boolean
  | 50 => .boolean
  | 51 => .array .int
  | 52 => .int
  | _ => .array .int
abbrev wsX120 : List Cond := u_ws RX12 TX12 54
theorem nmX12 : ∀ a, a < 54 → ∀ b, b < 54 → a ≠ b → (TX12 a).2.1 ≠ (TX12 b).2.1 := by decide +kernel
theorem tyX12_ok : ∀ k, k < 54 → parseFieldDescriptor (TX12 k).2.2.1 = some (tyX12 k) := by decide +kernel
abbrev cX12_init : ByteArray := prog_14_method_1_code
def yX12_init : MethodName := ⟨RX12, "<init>", "()V"⟩
abbrev cX12_in : ByteArray := prog_14_method_2_code
def yX12_in : MethodName := ⟨RX12, "in", "(III)Z"⟩
abbrev cX12_isJob : ByteArray := prog_14_method_3_code
def yX12_isJob : MethodName := ⟨RX12, "isJob", "(I)Z"⟩
abbrev cX12_isSide : ByteArray := prog_14_method_4_code
def yX12_isSide : MethodName := ⟨RX12, "isSide", "(I)Z"⟩
abbrev cX12_its : ByteArray := prog_14_method_5_code
def yX12_its : MethodName := ⟨RX12, "its", "(II)I"⟩
abbrev cX12_restOf : ByteArray := prog_14_method_6_code
def yX12_restOf : MethodName := ⟨RX12, "restOf", "(II)I"⟩
abbrev cX12_isLike : ByteArray := prog_14_method_7_code
def yX12_isLike : MethodName := ⟨RX12, "isLike", "(III)Z"⟩
abbrev cX12_isPromised : ByteArray := prog_14_method_8_code
def yX12_isPromised : MethodName := ⟨RX12, "isPromised", "(II)Z"⟩
abbrev cX12_lay : ByteArray := prog_14_method_9_code
def yX12_lay : MethodName := ⟨RX12, "lay", "(IIIIII)V"⟩
abbrev cX12_feed : ByteArray := prog_14_method_10_code
def yX12_feed : MethodName := ⟨RX12, "feed", "(JI)I"⟩
abbrev cX12_byteAt : ByteArray := prog_14_method_11_code
def yX12_byteAt : MethodName := ⟨RX12, "byteAt", "(I)I"⟩
abbrev cX12_isLetter : ByteArray := prog_14_method_12_code
def yX12_isLetter : MethodName := ⟨RX12, "isLetter", "(I)Z"⟩
abbrev cX12_isDigit : ByteArray := prog_14_method_13_code
def yX12_isDigit : MethodName := ⟨RX12, "isDigit", "(I)Z"⟩
abbrev cX12_advance : ByteArray := prog_14_method_14_code
def yX12_advance : MethodName := ⟨RX12, "advance", "()V"⟩
abbrev cX12_isWord : ByteArray := prog_14_method_15_code
def yX12_isWord : MethodName := ⟨RX12, "isWord", "(J)Z"⟩
abbrev cX12_isMark : ByteArray := prog_14_method_16_code
def yX12_isMark : MethodName := ⟨RX12, "isMark", "(I)Z"⟩
abbrev cX12_kindHere : ByteArray := prog_14_method_17_code
def yX12_kindHere : MethodName := ⟨RX12, "kindHere", "()I"⟩
abbrev cX12_lawHere : ByteArray := prog_14_method_18_code
def yX12_lawHere : MethodName := ⟨RX12, "lawHere", "()I"⟩
abbrev cX12_wantNumber : ByteArray := prog_14_method_19_code
def yX12_wantNumber : MethodName := ⟨RX12, "wantNumber", "(II)I"⟩
abbrev cX12_wantWord : ByteArray := prog_14_method_20_code
def yX12_wantWord : MethodName := ⟨RX12, "wantWord", "(J)V"⟩
abbrev cX12_wantEnd : ByteArray := prog_14_method_21_code
def yX12_wantEnd : MethodName := ⟨RX12, "wantEnd", "()V"⟩
abbrev cX12_wantJob : ByteArray := prog_14_method_22_code
def yX12_wantJob : MethodName := ⟨RX12, "wantJob", "(I)V"⟩
abbrev cX12_wantLaw : ByteArray := prog_14_method_23_code
def yX12_wantLaw : MethodName := ⟨RX12, "wantLaw", "(I)V"⟩
abbrev cX12_board : ByteArray := prog_14_method_24_code
def yX12_board : MethodName := ⟨RX12, "board", "()I"⟩
abbrev cX12_job : ByteArray := prog_14_method_25_code
def yX12_job : MethodName := ⟨RX12, "job", "(IIIII)I"⟩
abbrev cX12_jobOf : ByteArray := prog_14_method_26_code
def yX12_jobOf : MethodName := ⟨RX12, "jobOf", "(II)I"⟩
abbrev cX12_goesAway : ByteArray := prog_14_method_27_code
def yX12_goesAway : MethodName := ⟨RX12, "goesAway", "(I)V"⟩
abbrev cX12_drop : ByteArray := prog_14_method_28_code
def yX12_drop : MethodName := ⟨RX12, "drop", "(I)I"⟩
abbrev cX12_set : ByteArray := prog_14_method_29_code
def yX12_set : MethodName := ⟨RX12, "set", "(II)I"⟩
abbrev cX12_lose : ByteArray := prog_14_method_30_code
def yX12_lose : MethodName := ⟨RX12, "lose", "(II)I"⟩
abbrev cX12_night : ByteArray := prog_14_method_31_code
def yX12_night : MethodName := ⟨RX12, "night", "(II)I"⟩
abbrev cX12_slotsOf : ByteArray := prog_14_method_32_code
def yX12_slotsOf : MethodName := ⟨RX12, "slotsOf", "(I)I"⟩
abbrev cX12_slots : ByteArray := prog_14_method_33_code
def yX12_slots : MethodName := ⟨RX12, "slots", "(I)I"⟩
abbrev cX12_plan : ByteArray := prog_14_method_34_code
def yX12_plan : MethodName := ⟨RX12, "plan", "(I)I"⟩
abbrev cX12_planOf : ByteArray := prog_14_method_35_code
def yX12_planOf : MethodName := ⟨RX12, "planOf", "(I)I"⟩
abbrev cX12_press : ByteArray := prog_14_method_36_code
def yX12_press : MethodName := ⟨RX12, "press", "(I)I"⟩
abbrev cX12_lends : ByteArray := prog_14_method_37_code
def yX12_lends : MethodName := ⟨RX12, "lends", "(II)V"⟩
abbrev cX12_works : ByteArray := prog_14_method_38_code
def yX12_works : MethodName := ⟨RX12, "works", "(I)Z"⟩
abbrev cX12_worksAll : ByteArray := prog_14_method_39_code
def yX12_worksAll : MethodName := ⟨RX12, "worksAll", "(III)V"⟩
abbrev cX12_isLate : ByteArray := prog_14_method_40_code
def yX12_isLate : MethodName := ⟨RX12, "isLate", "(I)Z"⟩
abbrev cX12_worthOf : ByteArray := prog_14_method_41_code
def yX12_worthOf : MethodName := ⟨RX12, "worthOf", "(I)I"⟩
abbrev cX12_worthAll : ByteArray := prog_14_method_42_code
def yX12_worthAll : MethodName := ⟨RX12, "worthAll", "(I)I"⟩
abbrev cX12_lateMany : ByteArray := prog_14_method_43_code
def yX12_lateMany : MethodName := ⟨RX12, "lateMany", "(I)I"⟩
abbrev cX12_byPlan : ByteArray := prog_14_method_44_code
def yX12_byPlan : MethodName := ⟨RX12, "byPlan", "()V"⟩
abbrev cX12_ends : ByteArray := prog_14_method_45_code
def yX12_ends : MethodName := ⟨RX12, "ends", "(I)I"⟩
abbrev cX12_late : ByteArray := prog_14_method_46_code
def yX12_late : MethodName := ⟨RX12, "late", "()I"⟩
abbrev cX12_worth : ByteArray := prog_14_method_47_code
def yX12_worth : MethodName := ⟨RX12, "worth", "()I"⟩
abbrev cX12_firstOrder : ByteArray := prog_14_method_48_code
def yX12_firstOrder : MethodName := ⟨RX12, "firstOrder", "(II)I"⟩
abbrev cX12_nextOrder : ByteArray := prog_14_method_49_code
def yX12_nextOrder : MethodName := ⟨RX12, "nextOrder", "(I)Z"⟩
abbrev cX12_swaps : ByteArray := prog_14_method_50_code
def yX12_swaps : MethodName := ⟨RX12, "swaps", "(II)V"⟩
abbrev cX12_keepsOrder : ByteArray := prog_14_method_51_code
def yX12_keepsOrder : MethodName := ⟨RX12, "keepsOrder", "(I)V"⟩
abbrev cX12_digitsOf : ByteArray := prog_14_method_52_code
def yX12_digitsOf : MethodName := ⟨RX12, "digitsOf", "(I)I"⟩
abbrev cX12_mostOfAll : ByteArray := prog_14_method_53_code
def yX12_mostOfAll : MethodName := ⟨RX12, "mostOfAll", "(II)I"⟩
abbrev cX12_worksMany : ByteArray := prog_14_method_54_code
def yX12_worksMany : MethodName := ⟨RX12, "worksMany", "(IIII)V"⟩
abbrev cX12_best : ByteArray := prog_14_method_55_code
def yX12_best : MethodName := ⟨RX12, "best", "(I)I"⟩
abbrev cX12_fewest : ByteArray := prog_14_method_56_code
def yX12_fewest : MethodName := ⟨RX12, "fewest", "()I"⟩
abbrev cX12_soonest : ByteArray := prog_14_method_57_code
def yX12_soonest : MethodName := ⟨RX12, "soonest", "(III)I"⟩
abbrev cX12_gain : ByteArray := prog_14_method_58_code
def yX12_gain : MethodName := ⟨RX12, "gain", "(IIIII)I"⟩
abbrev cX12_across : ByteArray := prog_14_method_59_code
def yX12_across : MethodName := ⟨RX12, "across", "(I)I"⟩
abbrev cX12_nights : ByteArray := prog_14_method_60_code
def yX12_nights : MethodName := ⟨RX12, "nights", "()I"⟩
abbrev cX12_lowest : ByteArray := prog_14_method_61_code
def yX12_lowest : MethodName := ⟨RX12, "lowest", "(II)V"⟩
abbrev cX12_oftenOf : ByteArray := prog_14_method_62_code
def yX12_oftenOf : MethodName := ⟨RX12, "oftenOf", "(I)I"⟩
abbrev cX12_sureOf : ByteArray := prog_14_method_63_code
def yX12_sureOf : MethodName := ⟨RX12, "sureOf", "()I"⟩
abbrev cX12_orderOfPlan : ByteArray := prog_14_method_64_code
def yX12_orderOfPlan : MethodName := ⟨RX12, "orderOfPlan", "()V"⟩
abbrev cX12_sure : ByteArray := prog_14_method_65_code
def yX12_sure : MethodName := ⟨RX12, "sure", "(I)I"⟩
abbrev cX12_safest : ByteArray := prog_14_method_66_code
def yX12_safest : MethodName := ⟨RX12, "safest", "(I)I"⟩
abbrev cX12_mean : ByteArray := prog_14_method_67_code
def yX12_mean : MethodName := ⟨RX12, "mean", "(I)I"⟩
abbrev cX12_typeIts : ByteArray := prog_14_method_68_code
def yX12_typeIts : MethodName := ⟨RX12, "typeIts", "(II)I"⟩
abbrev cX12_oddsOfTypes : ByteArray := prog_14_method_69_code
def yX12_oddsOfTypes : MethodName := ⟨RX12, "oddsOfTypes", "()I"⟩
abbrev cX12_type : ByteArray := prog_14_method_70_code
def yX12_type : MethodName := ⟨RX12, "type", "(IIIIII)I"⟩
abbrev cX12_typeOf : ByteArray := prog_14_method_71_code
def yX12_typeOf : MethodName := ⟨RX12, "typeOf", "(II)I"⟩
abbrev cX12_takenMany : ByteArray := prog_14_method_72_code
def yX12_takenMany : MethodName := ⟨RX12, "takenMany", "(I)I"⟩
abbrev cX12_isTaken : ByteArray := prog_14_method_73_code
def yX12_isTaken : MethodName := ⟨RX12, "isTaken", "(I)Z"⟩
abbrev cX12_worthWith : ByteArray := prog_14_method_74_code
def yX12_worthWith : MethodName := ⟨RX12, "worthWith", "(I)I"⟩
abbrev cX12_ahead : ByteArray := prog_14_method_75_code
def yX12_ahead : MethodName := ⟨RX12, "ahead", "(II)I"⟩
abbrev cX12_comes : ByteArray := prog_14_method_76_code
def yX12_comes : MethodName := ⟨RX12, "comes", "()I"⟩
abbrev cX12_seed : ByteArray := prog_14_method_77_code
def yX12_seed : MethodName := ⟨RX12, "seed", "(I)I"⟩
abbrev cX12_goes : ByteArray := prog_14_method_78_code
def yX12_goes : MethodName := ⟨RX12, "goes", "()I"⟩
abbrev cX12_till : ByteArray := prog_14_method_79_code
def yX12_till : MethodName := ⟨RX12, "till", "()I"⟩
abbrev cX12_prove : ByteArray := prog_14_method_80_code
def yX12_prove : MethodName := ⟨RX12, "prove", "()I"⟩
abbrev cX12_isRow : ByteArray := prog_14_method_81_code
def yX12_isRow : MethodName := ⟨RX12, "isRow", "(II)Z"⟩
abbrev cX12_row : ByteArray := prog_14_method_82_code
def yX12_row : MethodName := ⟨RX12, "row", "(II)I"⟩
abbrev cX12_alterRow : ByteArray := prog_14_method_83_code
def yX12_alterRow : MethodName := ⟨RX12, "alterRow", "(III)I"⟩
abbrev cX12_judge : ByteArray := prog_14_method_84_code
def yX12_judge : MethodName := ⟨RX12, "judge", "()I"⟩
abbrev cX12_isShelf : ByteArray := prog_14_method_85_code
def yX12_isShelf : MethodName := ⟨RX12, "isShelf", "(I)Z"⟩
abbrev cX12_sheet : ByteArray := prog_14_method_86_code
def yX12_sheet : MethodName := ⟨RX12, "sheet", "(III)I"⟩
abbrev cX12_put : ByteArray := prog_14_method_87_code
def yX12_put : MethodName := ⟨RX12, "put", "(III)I"⟩
abbrev cX12_lacksSort : ByteArray := prog_14_method_88_code
def yX12_lacksSort : MethodName := ⟨RX12, "lacksSort", "(II)I"⟩
abbrev cX12_item : ByteArray := prog_14_method_89_code
def yX12_item : MethodName := ⟨RX12, "item", "(III)I"⟩
abbrev cX12_isHeld : ByteArray := prog_14_method_90_code
def yX12_isHeld : MethodName := ⟨RX12, "isHeld", "(II)Z"⟩
abbrev cX12_shelf : ByteArray := prog_14_method_91_code
def yX12_shelf : MethodName := ⟨RX12, "shelf", "(III)I"⟩
abbrev cX12_kindOn : ByteArray := prog_14_method_92_code
def yX12_kindOn : MethodName := ⟨RX12, "kindOn", "(I)I"⟩
abbrev cX12_isUnder : ByteArray := prog_14_method_93_code
def yX12_isUnder : MethodName := ⟨RX12, "isUnder", "(II)Z"⟩
abbrev cX12_taken : ByteArray := prog_14_method_94_code
def yX12_taken : MethodName := ⟨RX12, "taken", "(II)I"⟩
abbrev cX12_ran : ByteArray := prog_14_method_95_code
def yX12_ran : MethodName := ⟨RX12, "ran", "(I)V"⟩
abbrev cX12_plainPrints : ByteArray := prog_14_method_96_code
def yX12_plainPrints : MethodName := ⟨RX12, "plainPrints", "(I)I"⟩
abbrev cX12_posterPrints : ByteArray := prog_14_method_97_code
def yX12_posterPrints : MethodName := ⟨RX12, "posterPrints", "(I)I"⟩
abbrev cX12_printsIt : ByteArray := prog_14_method_98_code
def yX12_printsIt : MethodName := ⟨RX12, "printsIt", "(I)I"⟩
abbrev cX12_plainSets : ByteArray := prog_14_method_99_code
def yX12_plainSets : MethodName := ⟨RX12, "plainSets", "(I)I"⟩
abbrev cX12_weddingSets : ByteArray := prog_14_method_100_code
def yX12_weddingSets : MethodName := ⟨RX12, "weddingSets", "(I)I"⟩
abbrev cX12_setsIt : ByteArray := prog_14_method_101_code
def yX12_setsIt : MethodName := ⟨RX12, "setsIt", "(I)I"⟩
abbrev cX12_plainShares : ByteArray := prog_14_method_102_code
def yX12_plainShares : MethodName := ⟨RX12, "plainShares", "(I)I"⟩
abbrev cX12_sharesIt : ByteArray := prog_14_method_103_code
def yX12_sharesIt : MethodName := ⟨RX12, "sharesIt", "(I)I"⟩
abbrev cX12_plainTells : ByteArray := prog_14_method_104_code
def yX12_plainTells : MethodName := ⟨RX12, "plainTells", "(I)I"⟩
abbrev cX12_tellsIt : ByteArray := prog_14_method_105_code
def yX12_tellsIt : MethodName := ⟨RX12, "tellsIt", "(I)I"⟩
abbrev cX12_act : ByteArray := prog_14_method_106_code
def yX12_act : MethodName := ⟨RX12, "act", "(III)I"⟩
abbrev cX12_trace : ByteArray := prog_14_method_107_code
def yX12_trace : MethodName := ⟨RX12, "trace", "(I)I"⟩
abbrev cX12_many : ByteArray := prog_14_method_108_code
def yX12_many : MethodName := ⟨RX12, "many", "(I)I"⟩
abbrev cX12_move : ByteArray := prog_14_method_109_code
def yX12_move : MethodName := ⟨RX12, "move", "([IIZ)V"⟩
abbrev cX12_moveAll : ByteArray := prog_14_method_110_code
def yX12_moveAll : MethodName := ⟨RX12, "moveAll", "(Z)V"⟩
abbrev cX12_keep : ByteArray := prog_14_method_111_code
def yX12_keep : MethodName := ⟨RX12, "keep", "()I"⟩
abbrev cX12_again : ByteArray := prog_14_method_112_code
def yX12_again : MethodName := ⟨RX12, "again", "()I"⟩
def RJ9 : String := "java/lang/Math"
def TJ9 : u_T := fun k => match k with
  | _ => ("", "", "", false)
def tyJ9 : Nat → FieldType := fun k => match k with
  | _ => .int
abbrev wsJ90 : List Cond := u_ws RJ9 TJ9 0
theorem nmJ9 : ∀ a, a < 0 → ∀ b, b < 0 → a ≠ b → (TJ9 a).2.1 ≠ (TJ9 b).2.1 := by decide +kernel
theorem tyJ9_ok : ∀ k, k < 0 → parseFieldDescriptor (TJ9 k).2.2.1 = some (tyJ9 k) := by decide +kernel
abbrev cJ9_max_7cf53 : ByteArray := prog_15_method_65_code
def yJ9_max_7cf53 : MethodName := ⟨RJ9, "max", "(II)I"⟩
abbrev cJ9_min_7cf53 : ByteArray := prog_15_method_69_code
def yJ9_min_7cf53 : MethodName := ⟨RJ9, "min", "(II)I"⟩
def RJ0 : String := "java/lang/String"
def TJ0 : u_T := fun k => match k with
  | _ => ("", "", "", false)
def tyJ0 : Nat → FieldType := fun k => match k with
  | _ => .int
abbrev wsJ00 : List Cond := u_ws RJ0 TJ0 0
theorem nmJ0 : ∀ a, a < 0 → ∀ b, b < 0 → a ≠ b → (TJ0 a).2.1 ≠ (TJ0 b).2.1 := by decide +kernel
theorem tyJ0_ok : ∀ k, k < 0 → parseFieldDescriptor (TJ0 k).2.2.1 = some (tyJ0 k) := by decide +kernel
abbrev cJ0_length_8abf5 : ByteArray := prog_16_method_54_code
def yJ0_length_8abf5 : MethodName := ⟨RJ0, "length", "()I"⟩
abbrev cJ0_charAt_5068e : ByteArray := prog_16_method_56_code
def yJ0_charAt_5068e : MethodName := ⟨RJ0, "charAt", "(I)C"⟩
abbrev cJ0_coder_7d493 : ByteArray := prog_16_method_152_code
def yJ0_coder_7d493 : MethodName := ⟨RJ0, "coder", "()B"⟩
abbrev cJ0_isLatin1_aae02 : ByteArray := prog_16_method_154_code
def yJ0_isLatin1_aae02 : MethodName := ⟨RJ0, "isLatin1", "()Z"⟩
abbrev cJ0_checkIndex_df160 : ByteArray := prog_16_method_155_code
def yJ0_checkIndex_df160 : MethodName := ⟨RJ0, "checkIndex", "(II)V"⟩
def RJ1 : String := "java/lang/StringLatin1"
def TJ1 : u_T := fun k => match k with
  | _ => ("", "", "", false)
def tyJ1 : Nat → FieldType := fun k => match k with
  | _ => .int
abbrev wsJ10 : List Cond := u_ws RJ1 TJ1 0
theorem nmJ1 : ∀ a, a < 0 → ∀ b, b < 0 → a ≠ b → (TJ1 a).2.1 ≠ (TJ1 b).2.1 := by decide +kernel
theorem tyJ1_ok : ∀ k, k < 0 → parseFieldDescriptor (TJ1 k).2.2.1 = some (tyJ1 k) := by decide +kernel
abbrev cJ1_charAt_3b067 : ByteArray := prog_17_method_2_code
def yJ1_charAt_3b067 : MethodName := ⟨RJ1, "charAt", "([BI)C"⟩
def RJ2 : String := "java/lang/StringUTF16"
def TJ2 : u_T := fun k => match k with
  | _ => ("", "", "", false)
def tyJ2 : Nat → FieldType := fun k => match k with
  | _ => .int
abbrev wsJ20 : List Cond := u_ws RJ2 TJ2 0
theorem nmJ2 : ∀ a, a < 0 → ∀ b, b < 0 → a ≠ b → (TJ2 a).2.1 ≠ (TJ2 b).2.1 := by decide +kernel
theorem tyJ2_ok : ∀ k, k < 0 → parseFieldDescriptor (TJ2 k).2.2.1 = some (tyJ2 k) := by decide +kernel
abbrev cJ2_getChar_3b067 : ByteArray := prog_18_method_5_code
def yJ2_getChar_3b067 : MethodName := ⟨RJ2, "getChar", "([BI)C"⟩
abbrev cJ2_length_9d52b : ByteArray := prog_18_method_6_code
def yJ2_length_9d52b : MethodName := ⟨RJ2, "length", "([B)I"⟩
abbrev cJ2_charAt_3b067 : ByteArray := prog_18_method_83_code
def yJ2_charAt_3b067 : MethodName := ⟨RJ2, "charAt", "([BI)C"⟩
abbrev cJ2_checkIndex_2214a : ByteArray := prog_18_method_91_code
def yJ2_checkIndex_2214a : MethodName := ⟨RJ2, "checkIndex", "(I[B)V"⟩
def RJ10 : String := "java/lang/System"
def TJ10 : u_T := fun k => match k with
  | _ => ("", "", "", false)
def tyJ10 : Nat → FieldType := fun k => match k with
  | _ => .int
abbrev wsJ100 : List Cond := u_ws RJ10 TJ10 0
theorem nmJ10 : ∀ a, a < 0 → ∀ b, b < 0 → a ≠ b → (TJ10 a).2.1 ≠ (TJ10 b).2.1 := by decide +kernel
theorem tyJ10_ok : ∀ k, k < 0 → parseFieldDescriptor (TJ10 k).2.2.1 = some (tyJ10 k) := by decide +kernel
def RJ3 : String := "jdk/internal/util/Preconditions"
def TJ3 : u_T := fun k => match k with
  | _ => ("", "", "", false)
def tyJ3 : Nat → FieldType := fun k => match k with
  | _ => .int
abbrev wsJ30 : List Cond := u_ws RJ3 TJ3 0
theorem nmJ3 : ∀ a, a < 0 → ∀ b, b < 0 → a ≠ b → (TJ3 a).2.1 ≠ (TJ3 b).2.1 := by decide +kernel
theorem tyJ3_ok : ∀ k, k < 0 → parseFieldDescriptor (TJ3 k).2.2.1 = some (tyJ3 k) := by decide +kernel
abbrev cJ3_checkIndex_8e157 : ByteArray := prog_20_method_11_code
def yJ3_checkIndex_8e157 : MethodName := ⟨RJ3, "checkIndex", "(IILjava/util/function/BiFunction;)I"⟩
def RL : String := "PressDaysLaw"
abbrev cL_law : ByteArray := code
def yL_law : MethodName := ⟨RL, "law", "([I)Z"⟩
abbrev vwCl : List vw_C := [(RX0, TX0, 1), (RX1, TX1, 9), (RX2, TX2, 10), (RX3, TX3, 7), (RX4, TX4, 6), (RX5, TX5, 7), (RX6, TX6, 3), (RX7, TX7, 6), (RX8, TX8, 8), (RX9, TX9, 6), (RX10, TX10, 8), (RX11, TX11, 14), (RX12, TX12, 54)]
end
section
theorem dX0_init_0 : decode cX0_init 0 = .ok (.aload_n 0, 1) := by decide +kernel
theorem dX0_init_1 : decode cX0_init 1 = .ok (.invokespecial 3, 3) := by decide +kernel
theorem dX0_init_4 : decode cX0_init 4 = .ok (.aload_n 0, 1) := by decide +kernel
theorem dX0_init_5 : decode cX0_init 5 = .ok (.aload_n 1, 1) := by decide +kernel
theorem dX0_init_6 : decode cX0_init 6 = .ok (.putfield 9, 3) := by decide +kernel
theorem dX0_init_9 : decode cX0_init 9 = .ok (.return_, 1) := by decide +kernel
theorem dX0_mostOf_0 : decode cX0_mostOf 0 = .ok (.aload_n 0, 1) := by decide +kernel
theorem dX0_mostOf_1 : decode cX0_mostOf 1 = .ok (.aload_n 1, 1) := by decide +kernel
theorem dX0_mostOf_2 : decode cX0_mostOf 2 = .ok (.aload_n 2, 1) := by decide +kernel
theorem dX0_mostOf_3 : decode cX0_mostOf 3 = .ok (.iload_n 3, 1) := by decide +kernel
theorem dX0_mostOf_4 : decode cX0_mostOf 4 = .ok (.iload 4, 2) := by decide +kernel
theorem dX0_mostOf_6 : decode cX0_mostOf 6 = .ok (.invokevirtual 15, 3) := by decide +kernel
theorem dX0_mostOf_9 : decode cX0_mostOf 9 = .ok (.ireturn, 1) := by decide +kernel
theorem dX0_behindCalls_0 : decode cX0_behindCalls 0 = .ok (.iload 4, 2) := by decide +kernel
theorem dX0_behindCalls_2 : decode cX0_behindCalls 2 = .ok (.ifCond .gt 14, 3) := by decide +kernel
theorem dX0_behindCalls_5 : decode cX0_behindCalls 5 = .ok (.aload_n 0, 1) := by decide +kernel
theorem dX0_behindCalls_6 : decode cX0_behindCalls 6 = .ok (.getfield 9, 3) := by decide +kernel
theorem dX0_behindCalls_9 : decode cX0_behindCalls 9 = .ok (.aload_n 2, 1) := by decide +kernel
theorem dX0_behindCalls_10 : decode cX0_behindCalls 10 = .ok (.bipush (-9), 2) := by decide +kernel
theorem dX0_behindCalls_12 : decode cX0_behindCalls 12 = .ok (.invokevirtual 19, 3) := by decide +kernel
theorem dX0_behindCalls_15 : decode cX0_behindCalls 15 = .ok (.ireturn, 1) := by decide +kernel
theorem dX0_behindCalls_16 : decode cX0_behindCalls 16 = .ok (.aload_n 0, 1) := by decide +kernel
theorem dX0_behindCalls_17 : decode cX0_behindCalls 17 = .ok (.aload_n 1, 1) := by decide +kernel
theorem dX0_behindCalls_18 : decode cX0_behindCalls 18 = .ok (.aload_n 2, 1) := by decide +kernel
theorem dX0_behindCalls_19 : decode cX0_behindCalls 19 = .ok (.iload_n 3, 1) := by decide +kernel
theorem dX0_behindCalls_20 : decode cX0_behindCalls 20 = .ok (.iload 4, 2) := by decide +kernel
theorem dX0_behindCalls_22 : decode cX0_behindCalls 22 = .ok (.iconst 1, 1) := by decide +kernel
theorem dX0_behindCalls_23 : decode cX0_behindCalls 23 = .ok (.isub, 1) := by decide +kernel
theorem dX0_behindCalls_24 : decode cX0_behindCalls 24 = .ok (.invokevirtual 15, 3) := by decide +kernel
theorem dX0_behindCalls_27 : decode cX0_behindCalls 27 = .ok (.istore 5, 2) := by decide +kernel
theorem dX0_behindCalls_29 : decode cX0_behindCalls 29 = .ok (.iload 5, 2) := by decide +kernel
theorem dX0_behindCalls_31 : decode cX0_behindCalls 31 = .ok (.iconst 4, 1) := by decide +kernel
theorem dX0_behindCalls_32 : decode cX0_behindCalls 32 = .ok (.aload_n 1, 1) := by decide +kernel
theorem dX0_behindCalls_33 : decode cX0_behindCalls 33 = .ok (.invokevirtual 25, 3) := by decide +kernel
theorem dX0_behindCalls_36 : decode cX0_behindCalls 36 = .ok (.isub, 1) := by decide +kernel
theorem dX0_behindCalls_37 : decode cX0_behindCalls 37 = .ok (.imul, 1) := by decide +kernel
theorem dX0_behindCalls_38 : decode cX0_behindCalls 38 = .ok (.istore 6, 2) := by decide +kernel
theorem dX0_behindCalls_40 : decode cX0_behindCalls 40 = .ok (.iconst 0, 1) := by decide +kernel
theorem dX0_behindCalls_41 : decode cX0_behindCalls 41 = .ok (.istore 7, 2) := by decide +kernel
theorem dX0_behindCalls_43 : decode cX0_behindCalls 43 = .ok (.iload 7, 2) := by decide +kernel
theorem dX0_behindCalls_45 : decode cX0_behindCalls 45 = .ok (.aload_n 1, 1) := by decide +kernel
theorem dX0_behindCalls_46 : decode cX0_behindCalls 46 = .ok (.getfield 31, 3) := by decide +kernel
theorem dX0_behindCalls_49 : decode cX0_behindCalls 49 = .ok (.if_icmp .ge 93, 3) := by decide +kernel
theorem dX0_behindCalls_52 : decode cX0_behindCalls 52 = .ok (.aload_n 2, 1) := by decide +kernel
theorem dX0_behindCalls_53 : decode cX0_behindCalls 53 = .ok (.aload_n 1, 1) := by decide +kernel
theorem dX0_behindCalls_54 : decode cX0_behindCalls 54 = .ok (.getfield 35, 3) := by decide +kernel
theorem dX0_behindCalls_57 : decode cX0_behindCalls 57 = .ok (.iload 7, 2) := by decide +kernel
theorem dX0_behindCalls_59 : decode cX0_behindCalls 59 = .ok (.iaload, 1) := by decide +kernel
theorem dX0_behindCalls_60 : decode cX0_behindCalls 60 = .ok (.aload_n 1, 1) := by decide +kernel
theorem dX0_behindCalls_61 : decode cX0_behindCalls 61 = .ok (.getfield 39, 3) := by decide +kernel
theorem dX0_behindCalls_64 : decode cX0_behindCalls 64 = .ok (.iload 7, 2) := by decide +kernel
theorem dX0_behindCalls_66 : decode cX0_behindCalls 66 = .ok (.iaload, 1) := by decide +kernel
theorem dX0_behindCalls_67 : decode cX0_behindCalls 67 = .ok (.aload_n 1, 1) := by decide +kernel
theorem dX0_behindCalls_68 : decode cX0_behindCalls 68 = .ok (.getfield 42, 3) := by decide +kernel
theorem dX0_behindCalls_71 : decode cX0_behindCalls 71 = .ok (.iload 7, 2) := by decide +kernel
theorem dX0_behindCalls_73 : decode cX0_behindCalls 73 = .ok (.iaload, 1) := by decide +kernel
theorem dX0_behindCalls_74 : decode cX0_behindCalls 74 = .ok (.iload_n 3, 1) := by decide +kernel
theorem dX0_behindCalls_75 : decode cX0_behindCalls 75 = .ok (.aload_n 1, 1) := by decide +kernel
theorem dX0_behindCalls_76 : decode cX0_behindCalls 76 = .ok (.getfield 45, 3) := by decide +kernel
theorem dX0_behindCalls_79 : decode cX0_behindCalls 79 = .ok (.iload 7, 2) := by decide +kernel
theorem dX0_behindCalls_81 : decode cX0_behindCalls 81 = .ok (.iaload, 1) := by decide +kernel
theorem dX0_behindCalls_82 : decode cX0_behindCalls 82 = .ok (.iadd, 1) := by decide +kernel
theorem dX0_behindCalls_83 : decode cX0_behindCalls 83 = .ok (.aload_n 1, 1) := by decide +kernel
theorem dX0_behindCalls_84 : decode cX0_behindCalls 84 = .ok (.getfield 48, 3) := by decide +kernel
theorem dX0_behindCalls_87 : decode cX0_behindCalls 87 = .ok (.iload 7, 2) := by decide +kernel
theorem dX0_behindCalls_89 : decode cX0_behindCalls 89 = .ok (.iaload, 1) := by decide +kernel
theorem dX0_behindCalls_90 : decode cX0_behindCalls 90 = .ok (.invokevirtual 51, 3) := by decide +kernel
theorem dX0_behindCalls_93 : decode cX0_behindCalls 93 = .ok (.aload_n 0, 1) := by decide +kernel
theorem dX0_behindCalls_94 : decode cX0_behindCalls 94 = .ok (.aload_n 1, 1) := by decide +kernel
theorem dX0_behindCalls_95 : decode cX0_behindCalls 95 = .ok (.aload_n 2, 1) := by decide +kernel
theorem dX0_behindCalls_96 : decode cX0_behindCalls 96 = .ok (.iload_n 3, 1) := by decide +kernel
theorem dX0_behindCalls_97 : decode cX0_behindCalls 97 = .ok (.iload 4, 2) := by decide +kernel
theorem dX0_behindCalls_99 : decode cX0_behindCalls 99 = .ok (.iconst 1, 1) := by decide +kernel
theorem dX0_behindCalls_100 : decode cX0_behindCalls 100 = .ok (.isub, 1) := by decide +kernel
theorem dX0_behindCalls_101 : decode cX0_behindCalls 101 = .ok (.invokevirtual 15, 3) := by decide +kernel
theorem dX0_behindCalls_104 : decode cX0_behindCalls 104 = .ok (.istore 8, 2) := by decide +kernel
theorem dX0_behindCalls_106 : decode cX0_behindCalls 106 = .ok (.aload_n 2, 1) := by decide +kernel
theorem dX0_behindCalls_107 : decode cX0_behindCalls 107 = .ok (.aload_n 2, 1) := by decide +kernel
theorem dX0_behindCalls_108 : decode cX0_behindCalls 108 = .ok (.getfield 57, 3) := by decide +kernel
theorem dX0_behindCalls_111 : decode cX0_behindCalls 111 = .ok (.iconst 1, 1) := by decide +kernel
theorem dX0_behindCalls_112 : decode cX0_behindCalls 112 = .ok (.isub, 1) := by decide +kernel
theorem dX0_behindCalls_113 : decode cX0_behindCalls 113 = .ok (.invokevirtual 58, 3) := by decide +kernel
theorem dX0_behindCalls_116 : decode cX0_behindCalls 116 = .ok (.iload 6, 2) := by decide +kernel
theorem dX0_behindCalls_118 : decode cX0_behindCalls 118 = .ok (.aload_n 1, 1) := by decide +kernel
theorem dX0_behindCalls_119 : decode cX0_behindCalls 119 = .ok (.getfield 62, 3) := by decide +kernel
theorem dX0_behindCalls_122 : decode cX0_behindCalls 122 = .ok (.iload 7, 2) := by decide +kernel
theorem dX0_behindCalls_124 : decode cX0_behindCalls 124 = .ok (.iaload, 1) := by decide +kernel
theorem dX0_behindCalls_125 : decode cX0_behindCalls 125 = .ok (.iload 8, 2) := by decide +kernel
theorem dX0_behindCalls_127 : decode cX0_behindCalls 127 = .ok (.iload 5, 2) := by decide +kernel
theorem dX0_behindCalls_129 : decode cX0_behindCalls 129 = .ok (.invokestatic 65, 3) := by decide +kernel
theorem dX0_behindCalls_132 : decode cX0_behindCalls 132 = .ok (.imul, 1) := by decide +kernel
theorem dX0_behindCalls_133 : decode cX0_behindCalls 133 = .ok (.iadd, 1) := by decide +kernel
theorem dX0_behindCalls_134 : decode cX0_behindCalls 134 = .ok (.istore 6, 2) := by decide +kernel
theorem dX0_behindCalls_136 : decode cX0_behindCalls 136 = .ok (.iinc 7 1, 3) := by decide +kernel
theorem dX0_behindCalls_139 : decode cX0_behindCalls 139 = .ok (.goto (-96), 3) := by decide +kernel
theorem dX0_behindCalls_142 : decode cX0_behindCalls 142 = .ok (.iload 6, 2) := by decide +kernel
theorem dX0_behindCalls_144 : decode cX0_behindCalls 144 = .ok (.ireturn, 1) := by decide +kernel
theorem dX1_init_0 : decode cX1_init 0 = .ok (.aload_n 0, 1) := by decide +kernel
theorem dX1_init_1 : decode cX1_init 1 = .ok (.invokespecial 3, 3) := by decide +kernel
theorem dX1_init_4 : decode cX1_init 4 = .ok (.aload_n 0, 1) := by decide +kernel
theorem dX1_init_5 : decode cX1_init 5 = .ok (.new 9, 3) := by decide +kernel
theorem dX1_init_8 : decode cX1_init 8 = .ok (.dup, 1) := by decide +kernel
theorem dX1_init_9 : decode cX1_init 9 = .ok (.invokespecial 11, 3) := by decide +kernel
theorem dX1_init_12 : decode cX1_init 12 = .ok (.putfield 12, 3) := by decide +kernel
theorem dX1_init_15 : decode cX1_init 15 = .ok (.aload_n 0, 1) := by decide +kernel
theorem dX1_init_16 : decode cX1_init 16 = .ok (.iconst 4, 1) := by decide +kernel
theorem dX1_init_17 : decode cX1_init 17 = .ok (.newarray .int, 2) := by decide +kernel
theorem dX1_init_19 : decode cX1_init 19 = .ok (.dup, 1) := by decide +kernel
theorem dX1_init_20 : decode cX1_init 20 = .ok (.iconst 0, 1) := by decide +kernel
theorem dX1_init_21 : decode cX1_init 21 = .ok (.iconst 2, 1) := by decide +kernel
theorem dX1_init_22 : decode cX1_init 22 = .ok (.iastore, 1) := by decide +kernel
theorem dX1_init_23 : decode cX1_init 23 = .ok (.dup, 1) := by decide +kernel
theorem dX1_init_24 : decode cX1_init 24 = .ok (.iconst 1, 1) := by decide +kernel
theorem dX1_init_25 : decode cX1_init 25 = .ok (.iconst 1, 1) := by decide +kernel
theorem dX1_init_26 : decode cX1_init 26 = .ok (.iastore, 1) := by decide +kernel
theorem dX1_init_27 : decode cX1_init 27 = .ok (.dup, 1) := by decide +kernel
theorem dX1_init_28 : decode cX1_init 28 = .ok (.iconst 2, 1) := by decide +kernel
theorem dX1_init_29 : decode cX1_init 29 = .ok (.iconst 5, 1) := by decide +kernel
theorem dX1_init_30 : decode cX1_init 30 = .ok (.iastore, 1) := by decide +kernel
theorem dX1_init_31 : decode cX1_init 31 = .ok (.dup, 1) := by decide +kernel
theorem dX1_init_32 : decode cX1_init 32 = .ok (.iconst 3, 1) := by decide +kernel
theorem dX1_init_33 : decode cX1_init 33 = .ok (.iconst 1, 1) := by decide +kernel
theorem dX1_init_34 : decode cX1_init 34 = .ok (.iastore, 1) := by decide +kernel
theorem dX1_init_35 : decode cX1_init 35 = .ok (.putfield 18, 3) := by decide +kernel
theorem dX1_init_38 : decode cX1_init 38 = .ok (.aload_n 0, 1) := by decide +kernel
theorem dX1_init_39 : decode cX1_init 39 = .ok (.bipush 61, 2) := by decide +kernel
theorem dX1_init_41 : decode cX1_init 41 = .ok (.newarray .int, 2) := by decide +kernel
theorem dX1_init_43 : decode cX1_init 43 = .ok (.putfield 22, 3) := by decide +kernel
theorem dX1_init_46 : decode cX1_init 46 = .ok (.aload_n 0, 1) := by decide +kernel
theorem dX1_init_47 : decode cX1_init 47 = .ok (.bipush 61, 2) := by decide +kernel
theorem dX1_init_49 : decode cX1_init 49 = .ok (.newarray .int, 2) := by decide +kernel
theorem dX1_init_51 : decode cX1_init 51 = .ok (.putfield 25, 3) := by decide +kernel
theorem dX1_init_54 : decode cX1_init 54 = .ok (.aload_n 0, 1) := by decide +kernel
theorem dX1_init_55 : decode cX1_init 55 = .ok (.bipush 6, 2) := by decide +kernel
theorem dX1_init_57 : decode cX1_init 57 = .ok (.newarray .int, 2) := by decide +kernel
theorem dX1_init_59 : decode cX1_init 59 = .ok (.putfield 28, 3) := by decide +kernel
theorem dX1_init_62 : decode cX1_init 62 = .ok (.aload_n 0, 1) := by decide +kernel
theorem dX1_init_63 : decode cX1_init 63 = .ok (.iconst 0, 1) := by decide +kernel
theorem dX1_init_64 : decode cX1_init 64 = .ok (.putfield 31, 3) := by decide +kernel
theorem dX1_init_67 : decode cX1_init 67 = .ok (.aload_n 0, 1) := by decide +kernel
theorem dX1_init_68 : decode cX1_init 68 = .ok (.iconst 0, 1) := by decide +kernel
theorem dX1_init_69 : decode cX1_init 69 = .ok (.putfield 35, 3) := by decide +kernel
theorem dX1_init_72 : decode cX1_init 72 = .ok (.aload_n 0, 1) := by decide +kernel
theorem dX1_init_73 : decode cX1_init 73 = .ok (.iconst 0, 1) := by decide +kernel
theorem dX1_init_74 : decode cX1_init 74 = .ok (.putfield 38, 3) := by decide +kernel
theorem dX1_init_77 : decode cX1_init 77 = .ok (.aload_n 0, 1) := by decide +kernel
theorem dX1_init_78 : decode cX1_init 78 = .ok (.iconst 0, 1) := by decide +kernel
theorem dX1_init_79 : decode cX1_init 79 = .ok (.putfield 41, 3) := by decide +kernel
theorem dX1_init_82 : decode cX1_init 82 = .ok (.return_, 1) := by decide +kernel
theorem dX1_slotsOn_0 : decode cX1_slotsOn 0 = .ok (.iload_n 1, 1) := by decide +kernel
theorem dX1_slotsOn_1 : decode cX1_slotsOn 1 = .ok (.ifCond .lt 9, 3) := by decide +kernel
theorem dX1_slotsOn_4 : decode cX1_slotsOn 4 = .ok (.iload_n 1, 1) := by decide +kernel
theorem dX1_slotsOn_5 : decode cX1_slotsOn 5 = .ok (.bipush 60, 2) := by decide +kernel
theorem dX1_slotsOn_7 : decode cX1_slotsOn 7 = .ok (.if_icmp .le 10, 3) := by decide +kernel
theorem dX1_slotsOn_10 : decode cX1_slotsOn 10 = .ok (.aload_n 0, 1) := by decide +kernel
theorem dX1_slotsOn_11 : decode cX1_slotsOn 11 = .ok (.getfield 18, 3) := by decide +kernel
theorem dX1_slotsOn_14 : decode cX1_slotsOn 14 = .ok (.iconst 0, 1) := by decide +kernel
theorem dX1_slotsOn_15 : decode cX1_slotsOn 15 = .ok (.iaload, 1) := by decide +kernel
theorem dX1_slotsOn_16 : decode cX1_slotsOn 16 = .ok (.ireturn, 1) := by decide +kernel
theorem dX1_slotsOn_17 : decode cX1_slotsOn 17 = .ok (.iconst 0, 1) := by decide +kernel
theorem dX1_slotsOn_18 : decode cX1_slotsOn 18 = .ok (.aload_n 0, 1) := by decide +kernel
theorem dX1_slotsOn_19 : decode cX1_slotsOn 19 = .ok (.getfield 18, 3) := by decide +kernel
theorem dX1_slotsOn_22 : decode cX1_slotsOn 22 = .ok (.iconst 0, 1) := by decide +kernel
theorem dX1_slotsOn_23 : decode cX1_slotsOn 23 = .ok (.iaload, 1) := by decide +kernel
theorem dX1_slotsOn_24 : decode cX1_slotsOn 24 = .ok (.aload_n 0, 1) := by decide +kernel
theorem dX1_slotsOn_25 : decode cX1_slotsOn 25 = .ok (.getfield 22, 3) := by decide +kernel
theorem dX1_slotsOn_28 : decode cX1_slotsOn 28 = .ok (.iload_n 1, 1) := by decide +kernel
theorem dX1_slotsOn_29 : decode cX1_slotsOn 29 = .ok (.iaload, 1) := by decide +kernel
theorem dX1_slotsOn_30 : decode cX1_slotsOn 30 = .ok (.isub, 1) := by decide +kernel
theorem dX1_slotsOn_31 : decode cX1_slotsOn 31 = .ok (.invokestatic 44, 3) := by decide +kernel
theorem dX1_slotsOn_34 : decode cX1_slotsOn 34 = .ok (.aload_n 0, 1) := by decide +kernel
theorem dX1_slotsOn_35 : decode cX1_slotsOn 35 = .ok (.getfield 25, 3) := by decide +kernel
theorem dX1_slotsOn_38 : decode cX1_slotsOn 38 = .ok (.iload_n 1, 1) := by decide +kernel
theorem dX1_slotsOn_39 : decode cX1_slotsOn 39 = .ok (.iaload, 1) := by decide +kernel
theorem dX1_slotsOn_40 : decode cX1_slotsOn 40 = .ok (.iadd, 1) := by decide +kernel
theorem dX1_slotsOn_41 : decode cX1_slotsOn 41 = .ok (.ireturn, 1) := by decide +kernel
theorem dX1_begin_0 : decode cX1_begin 0 = .ok (.aload_n 0, 1) := by decide +kernel
theorem dX1_begin_1 : decode cX1_begin 1 = .ok (.getfield 12, 3) := by decide +kernel
theorem dX1_begin_4 : decode cX1_begin 4 = .ok (.aload_n 1, 1) := by decide +kernel
theorem dX1_begin_5 : decode cX1_begin 5 = .ok (.invokevirtual 50, 3) := by decide +kernel
theorem dX1_begin_8 : decode cX1_begin 8 = .ok (.iconst 0, 1) := by decide +kernel
theorem dX1_begin_9 : decode cX1_begin 9 = .ok (.istore_n 3, 1) := by decide +kernel
theorem dX1_begin_10 : decode cX1_begin 10 = .ok (.iload_n 3, 1) := by decide +kernel
theorem dX1_begin_11 : decode cX1_begin 11 = .ok (.bipush 6, 2) := by decide +kernel
theorem dX1_begin_13 : decode cX1_begin 13 = .ok (.if_icmp .ge 16, 3) := by decide +kernel
theorem dX1_begin_16 : decode cX1_begin 16 = .ok (.aload_n 0, 1) := by decide +kernel
theorem dX1_begin_17 : decode cX1_begin 17 = .ok (.getfield 28, 3) := by decide +kernel
theorem dX1_begin_20 : decode cX1_begin 20 = .ok (.iload_n 3, 1) := by decide +kernel
theorem dX1_begin_21 : decode cX1_begin 21 = .ok (.iload_n 3, 1) := by decide +kernel
theorem dX1_begin_22 : decode cX1_begin 22 = .ok (.iastore, 1) := by decide +kernel
theorem dX1_begin_23 : decode cX1_begin 23 = .ok (.iinc 3 1, 3) := by decide +kernel
theorem dX1_begin_26 : decode cX1_begin 26 = .ok (.goto (-16), 3) := by decide +kernel
theorem dX1_begin_29 : decode cX1_begin 29 = .ok (.iconst 0, 1) := by decide +kernel
theorem dX1_begin_30 : decode cX1_begin 30 = .ok (.istore_n 3, 1) := by decide +kernel
theorem dX1_begin_31 : decode cX1_begin 31 = .ok (.iload_n 3, 1) := by decide +kernel
theorem dX1_begin_32 : decode cX1_begin 32 = .ok (.iconst 4, 1) := by decide +kernel
theorem dX1_begin_33 : decode cX1_begin 33 = .ok (.if_icmp .ge 30, 3) := by decide +kernel
theorem dX1_begin_36 : decode cX1_begin 36 = .ok (.iload_n 3, 1) := by decide +kernel
theorem dX1_begin_37 : decode cX1_begin 37 = .ok (.aload_n 2, 1) := by decide +kernel
theorem dX1_begin_38 : decode cX1_begin 38 = .ok (.arraylength, 1) := by decide +kernel
theorem dX1_begin_39 : decode cX1_begin 39 = .ok (.if_icmp .ge 24, 3) := by decide +kernel
theorem dX1_begin_42 : decode cX1_begin 42 = .ok (.aload_n 2, 1) := by decide +kernel
theorem dX1_begin_43 : decode cX1_begin 43 = .ok (.iload_n 3, 1) := by decide +kernel
theorem dX1_begin_44 : decode cX1_begin 44 = .ok (.iaload, 1) := by decide +kernel
theorem dX1_begin_45 : decode cX1_begin 45 = .ok (.ifCond .lt 12, 3) := by decide +kernel
theorem dX1_begin_48 : decode cX1_begin 48 = .ok (.aload_n 0, 1) := by decide +kernel
theorem dX1_begin_49 : decode cX1_begin 49 = .ok (.getfield 18, 3) := by decide +kernel
theorem dX1_begin_52 : decode cX1_begin 52 = .ok (.iload_n 3, 1) := by decide +kernel
theorem dX1_begin_53 : decode cX1_begin 53 = .ok (.aload_n 2, 1) := by decide +kernel
theorem dX1_begin_54 : decode cX1_begin 54 = .ok (.iload_n 3, 1) := by decide +kernel
theorem dX1_begin_55 : decode cX1_begin 55 = .ok (.iaload, 1) := by decide +kernel
theorem dX1_begin_56 : decode cX1_begin 56 = .ok (.iastore, 1) := by decide +kernel
theorem dX1_begin_57 : decode cX1_begin 57 = .ok (.iinc 3 1, 3) := by decide +kernel
theorem dX1_begin_60 : decode cX1_begin 60 = .ok (.goto (-29), 3) := by decide +kernel
theorem dX1_begin_63 : decode cX1_begin 63 = .ok (.iconst 0, 1) := by decide +kernel
theorem dX1_begin_64 : decode cX1_begin 64 = .ok (.istore_n 3, 1) := by decide +kernel
theorem dX1_begin_65 : decode cX1_begin 65 = .ok (.iload_n 3, 1) := by decide +kernel
theorem dX1_begin_66 : decode cX1_begin 66 = .ok (.bipush 60, 2) := by decide +kernel
theorem dX1_begin_68 : decode cX1_begin 68 = .ok (.if_icmp .gt 23, 3) := by decide +kernel
theorem dX1_begin_71 : decode cX1_begin 71 = .ok (.aload_n 0, 1) := by decide +kernel
theorem dX1_begin_72 : decode cX1_begin 72 = .ok (.getfield 22, 3) := by decide +kernel
theorem dX1_begin_75 : decode cX1_begin 75 = .ok (.iload_n 3, 1) := by decide +kernel
theorem dX1_begin_76 : decode cX1_begin 76 = .ok (.iconst 0, 1) := by decide +kernel
theorem dX1_begin_77 : decode cX1_begin 77 = .ok (.iastore, 1) := by decide +kernel
theorem dX1_begin_78 : decode cX1_begin 78 = .ok (.aload_n 0, 1) := by decide +kernel
theorem dX1_begin_79 : decode cX1_begin 79 = .ok (.getfield 25, 3) := by decide +kernel
theorem dX1_begin_82 : decode cX1_begin 82 = .ok (.iload_n 3, 1) := by decide +kernel
theorem dX1_begin_83 : decode cX1_begin 83 = .ok (.iconst 0, 1) := by decide +kernel
theorem dX1_begin_84 : decode cX1_begin 84 = .ok (.iastore, 1) := by decide +kernel
theorem dX1_begin_85 : decode cX1_begin 85 = .ok (.iinc 3 1, 3) := by decide +kernel
theorem dX1_begin_88 : decode cX1_begin 88 = .ok (.goto (-23), 3) := by decide +kernel
theorem dX1_begin_91 : decode cX1_begin 91 = .ok (.aload_n 0, 1) := by decide +kernel
theorem dX1_begin_92 : decode cX1_begin 92 = .ok (.iconst 0, 1) := by decide +kernel
theorem dX1_begin_93 : decode cX1_begin 93 = .ok (.putfield 31, 3) := by decide +kernel
theorem dX1_begin_96 : decode cX1_begin 96 = .ok (.aload_n 0, 1) := by decide +kernel
theorem dX1_begin_97 : decode cX1_begin 97 = .ok (.iconst 0, 1) := by decide +kernel
theorem dX1_begin_98 : decode cX1_begin 98 = .ok (.putfield 35, 3) := by decide +kernel
theorem dX1_begin_101 : decode cX1_begin 101 = .ok (.aload_n 0, 1) := by decide +kernel
theorem dX1_begin_102 : decode cX1_begin 102 = .ok (.iconst 0, 1) := by decide +kernel
theorem dX1_begin_103 : decode cX1_begin 103 = .ok (.putfield 38, 3) := by decide +kernel
theorem dX1_begin_106 : decode cX1_begin 106 = .ok (.aload_n 0, 1) := by decide +kernel
theorem dX1_begin_107 : decode cX1_begin 107 = .ok (.iconst 0, 1) := by decide +kernel
theorem dX1_begin_108 : decode cX1_begin 108 = .ok (.putfield 41, 3) := by decide +kernel
theorem dX1_begin_111 : decode cX1_begin 111 = .ok (.return_, 1) := by decide +kernel
theorem dX1_come_0 : decode cX1_come 0 = .ok (.aload_n 0, 1) := by decide +kernel
theorem dX1_come_1 : decode cX1_come 1 = .ok (.getfield 12, 3) := by decide +kernel
theorem dX1_come_4 : decode cX1_come 4 = .ok (.getfield 54, 3) := by decide +kernel
theorem dX1_come_7 : decode cX1_come 7 = .ok (.bipush 6, 2) := by decide +kernel
theorem dX1_come_9 : decode cX1_come 9 = .ok (.if_icmp .lt 6, 3) := by decide +kernel
theorem dX1_come_12 : decode cX1_come 12 = .ok (.bipush (-2), 2) := by decide +kernel
theorem dX1_come_14 : decode cX1_come 14 = .ok (.ireturn, 1) := by decide +kernel
theorem dX1_come_15 : decode cX1_come 15 = .ok (.aload_n 0, 1) := by decide +kernel
theorem dX1_come_16 : decode cX1_come 16 = .ok (.getfield 28, 3) := by decide +kernel
theorem dX1_come_19 : decode cX1_come 19 = .ok (.aload_n 0, 1) := by decide +kernel
theorem dX1_come_20 : decode cX1_come 20 = .ok (.getfield 12, 3) := by decide +kernel
theorem dX1_come_23 : decode cX1_come 23 = .ok (.getfield 54, 3) := by decide +kernel
theorem dX1_come_26 : decode cX1_come 26 = .ok (.aload_n 0, 1) := by decide +kernel
theorem dX1_come_27 : decode cX1_come 27 = .ok (.getfield 12, 3) := by decide +kernel
theorem dX1_come_30 : decode cX1_come 30 = .ok (.getfield 54, 3) := by decide +kernel
theorem dX1_come_33 : decode cX1_come 33 = .ok (.iastore, 1) := by decide +kernel
theorem dX1_come_34 : decode cX1_come 34 = .ok (.aload_n 0, 1) := by decide +kernel
theorem dX1_come_35 : decode cX1_come 35 = .ok (.getfield 12, 3) := by decide +kernel
theorem dX1_come_38 : decode cX1_come 38 = .ok (.iload_n 1, 1) := by decide +kernel
theorem dX1_come_39 : decode cX1_come 39 = .ok (.iload_n 2, 1) := by decide +kernel
theorem dX1_come_40 : decode cX1_come 40 = .ok (.iload_n 3, 1) := by decide +kernel
theorem dX1_come_41 : decode cX1_come 41 = .ok (.iload 4, 2) := by decide +kernel
theorem dX1_come_43 : decode cX1_come 43 = .ok (.iload 5, 2) := by decide +kernel
theorem dX1_come_45 : decode cX1_come 45 = .ok (.invokevirtual 57, 3) := by decide +kernel
theorem dX1_come_48 : decode cX1_come 48 = .ok (.aload_n 0, 1) := by decide +kernel
theorem dX1_come_49 : decode cX1_come 49 = .ok (.getfield 12, 3) := by decide +kernel
theorem dX1_come_52 : decode cX1_come 52 = .ok (.getfield 54, 3) := by decide +kernel
theorem dX1_come_55 : decode cX1_come 55 = .ok (.iconst 1, 1) := by decide +kernel
theorem dX1_come_56 : decode cX1_come 56 = .ok (.isub, 1) := by decide +kernel
theorem dX1_come_57 : decode cX1_come 57 = .ok (.ireturn, 1) := by decide +kernel
theorem dX1_leave_0 : decode cX1_leave 0 = .ok (.iconst 0, 1) := by decide +kernel
theorem dX1_leave_1 : decode cX1_leave 1 = .ok (.istore_n 2, 1) := by decide +kernel
theorem dX1_leave_2 : decode cX1_leave 2 = .ok (.iconst 0, 1) := by decide +kernel
theorem dX1_leave_3 : decode cX1_leave 3 = .ok (.istore_n 3, 1) := by decide +kernel
theorem dX1_leave_4 : decode cX1_leave 4 = .ok (.iload_n 3, 1) := by decide +kernel
theorem dX1_leave_5 : decode cX1_leave 5 = .ok (.aload_n 0, 1) := by decide +kernel
theorem dX1_leave_6 : decode cX1_leave 6 = .ok (.getfield 12, 3) := by decide +kernel
theorem dX1_leave_9 : decode cX1_leave 9 = .ok (.getfield 54, 3) := by decide +kernel
theorem dX1_leave_12 : decode cX1_leave 12 = .ok (.if_icmp .ge 50, 3) := by decide +kernel
theorem dX1_leave_15 : decode cX1_leave 15 = .ok (.aload_n 0, 1) := by decide +kernel
theorem dX1_leave_16 : decode cX1_leave 16 = .ok (.getfield 28, 3) := by decide +kernel
theorem dX1_leave_19 : decode cX1_leave 19 = .ok (.iload_n 3, 1) := by decide +kernel
theorem dX1_leave_20 : decode cX1_leave 20 = .ok (.iaload, 1) := by decide +kernel
theorem dX1_leave_21 : decode cX1_leave 21 = .ok (.istore 4, 2) := by decide +kernel
theorem dX1_leave_23 : decode cX1_leave 23 = .ok (.iload 4, 2) := by decide +kernel
theorem dX1_leave_25 : decode cX1_leave 25 = .ok (.iload_n 1, 1) := by decide +kernel
theorem dX1_leave_26 : decode cX1_leave 26 = .ok (.if_icmp .ne 6, 3) := by decide +kernel
theorem dX1_leave_29 : decode cX1_leave 29 = .ok (.goto 27, 3) := by decide +kernel
theorem dX1_leave_32 : decode cX1_leave 32 = .ok (.aload_n 0, 1) := by decide +kernel
theorem dX1_leave_33 : decode cX1_leave 33 = .ok (.getfield 28, 3) := by decide +kernel
theorem dX1_leave_36 : decode cX1_leave 36 = .ok (.iload_n 2, 1) := by decide +kernel
theorem dX1_leave_37 : decode cX1_leave 37 = .ok (.iload 4, 2) := by decide +kernel
theorem dX1_leave_39 : decode cX1_leave 39 = .ok (.iload_n 1, 1) := by decide +kernel
theorem dX1_leave_40 : decode cX1_leave 40 = .ok (.if_icmp .le 10, 3) := by decide +kernel
theorem dX1_leave_43 : decode cX1_leave 43 = .ok (.iload 4, 2) := by decide +kernel
theorem dX1_leave_45 : decode cX1_leave 45 = .ok (.iconst 1, 1) := by decide +kernel
theorem dX1_leave_46 : decode cX1_leave 46 = .ok (.isub, 1) := by decide +kernel
theorem dX1_leave_47 : decode cX1_leave 47 = .ok (.goto 5, 3) := by decide +kernel
theorem dX1_leave_50 : decode cX1_leave 50 = .ok (.iload 4, 2) := by decide +kernel
theorem dX1_leave_52 : decode cX1_leave 52 = .ok (.iastore, 1) := by decide +kernel
theorem dX1_leave_53 : decode cX1_leave 53 = .ok (.iinc 2 1, 3) := by decide +kernel
theorem dX1_leave_56 : decode cX1_leave 56 = .ok (.iinc 3 1, 3) := by decide +kernel
theorem dX1_leave_59 : decode cX1_leave 59 = .ok (.goto (-55), 3) := by decide +kernel
theorem dX1_leave_62 : decode cX1_leave 62 = .ok (.aload_n 0, 1) := by decide +kernel
theorem dX1_leave_63 : decode cX1_leave 63 = .ok (.getfield 12, 3) := by decide +kernel
theorem dX1_leave_66 : decode cX1_leave 66 = .ok (.iload_n 1, 1) := by decide +kernel
theorem dX1_leave_67 : decode cX1_leave 67 = .ok (.invokevirtual 61, 3) := by decide +kernel
theorem dX1_leave_70 : decode cX1_leave 70 = .ok (.return_, 1) := by decide +kernel
theorem dX1_arrange_0 : decode cX1_arrange 0 = .ok (.iload_n 1, 1) := by decide +kernel
theorem dX1_arrange_1 : decode cX1_arrange 1 = .ok (.ifCond .lt 17, 3) := by decide +kernel
theorem dX1_arrange_4 : decode cX1_arrange 4 = .ok (.iload_n 1, 1) := by decide +kernel
theorem dX1_arrange_5 : decode cX1_arrange 5 = .ok (.iconst 3, 1) := by decide +kernel
theorem dX1_arrange_6 : decode cX1_arrange 6 = .ok (.aload_n 0, 1) := by decide +kernel
theorem dX1_arrange_7 : decode cX1_arrange 7 = .ok (.getfield 12, 3) := by decide +kernel
theorem dX1_arrange_10 : decode cX1_arrange 10 = .ok (.getfield 54, 3) := by decide +kernel
theorem dX1_arrange_13 : decode cX1_arrange 13 = .ok (.imul, 1) := by decide +kernel
theorem dX1_arrange_14 : decode cX1_arrange 14 = .ok (.ishr, 1) := by decide +kernel
theorem dX1_arrange_15 : decode cX1_arrange 15 = .ok (.ifCond .eq 5, 3) := by decide +kernel
theorem dX1_arrange_18 : decode cX1_arrange 18 = .ok (.iconst 0, 1) := by decide +kernel
theorem dX1_arrange_19 : decode cX1_arrange 19 = .ok (.ireturn, 1) := by decide +kernel
theorem dX1_arrange_20 : decode cX1_arrange 20 = .ok (.iconst 0, 1) := by decide +kernel
theorem dX1_arrange_21 : decode cX1_arrange 21 = .ok (.istore_n 2, 1) := by decide +kernel
theorem dX1_arrange_22 : decode cX1_arrange 22 = .ok (.iconst 0, 1) := by decide +kernel
theorem dX1_arrange_23 : decode cX1_arrange 23 = .ok (.istore_n 3, 1) := by decide +kernel
theorem dX1_arrange_24 : decode cX1_arrange 24 = .ok (.iload_n 3, 1) := by decide +kernel
theorem dX1_arrange_25 : decode cX1_arrange 25 = .ok (.aload_n 0, 1) := by decide +kernel
theorem dX1_arrange_26 : decode cX1_arrange 26 = .ok (.getfield 12, 3) := by decide +kernel
theorem dX1_arrange_29 : decode cX1_arrange 29 = .ok (.getfield 54, 3) := by decide +kernel
theorem dX1_arrange_32 : decode cX1_arrange 32 = .ok (.if_icmp .ge 22, 3) := by decide +kernel
theorem dX1_arrange_35 : decode cX1_arrange 35 = .ok (.iload_n 2, 1) := by decide +kernel
theorem dX1_arrange_36 : decode cX1_arrange 36 = .ok (.iconst 1, 1) := by decide +kernel
theorem dX1_arrange_37 : decode cX1_arrange 37 = .ok (.iload_n 1, 1) := by decide +kernel
theorem dX1_arrange_38 : decode cX1_arrange 38 = .ok (.iconst 3, 1) := by decide +kernel
theorem dX1_arrange_39 : decode cX1_arrange 39 = .ok (.iload_n 3, 1) := by decide +kernel
theorem dX1_arrange_40 : decode cX1_arrange 40 = .ok (.imul, 1) := by decide +kernel
theorem dX1_arrange_41 : decode cX1_arrange 41 = .ok (.ishr, 1) := by decide +kernel
theorem dX1_arrange_42 : decode cX1_arrange 42 = .ok (.bipush 7, 2) := by decide +kernel
theorem dX1_arrange_44 : decode cX1_arrange 44 = .ok (.iand, 1) := by decide +kernel
theorem dX1_arrange_45 : decode cX1_arrange 45 = .ok (.ishl, 1) := by decide +kernel
theorem dX1_arrange_46 : decode cX1_arrange 46 = .ok (.ior, 1) := by decide +kernel
theorem dX1_arrange_47 : decode cX1_arrange 47 = .ok (.istore_n 2, 1) := by decide +kernel
theorem dX1_arrange_48 : decode cX1_arrange 48 = .ok (.iinc 3 1, 3) := by decide +kernel
theorem dX1_arrange_51 : decode cX1_arrange 51 = .ok (.goto (-27), 3) := by decide +kernel
theorem dX1_arrange_54 : decode cX1_arrange 54 = .ok (.iload_n 2, 1) := by decide +kernel
theorem dX1_arrange_55 : decode cX1_arrange 55 = .ok (.iconst 1, 1) := by decide +kernel
theorem dX1_arrange_56 : decode cX1_arrange 56 = .ok (.aload_n 0, 1) := by decide +kernel
theorem dX1_arrange_57 : decode cX1_arrange 57 = .ok (.getfield 12, 3) := by decide +kernel
theorem dX1_arrange_60 : decode cX1_arrange 60 = .ok (.getfield 54, 3) := by decide +kernel
theorem dX1_arrange_63 : decode cX1_arrange 63 = .ok (.ishl, 1) := by decide +kernel
theorem dX1_arrange_64 : decode cX1_arrange 64 = .ok (.iconst 1, 1) := by decide +kernel
theorem dX1_arrange_65 : decode cX1_arrange 65 = .ok (.isub, 1) := by decide +kernel
theorem dX1_arrange_66 : decode cX1_arrange 66 = .ok (.if_icmp .eq 5, 3) := by decide +kernel
theorem dX1_arrange_69 : decode cX1_arrange 69 = .ok (.iconst 0, 1) := by decide +kernel
theorem dX1_arrange_70 : decode cX1_arrange 70 = .ok (.ireturn, 1) := by decide +kernel
theorem dX1_arrange_71 : decode cX1_arrange 71 = .ok (.iconst 0, 1) := by decide +kernel
theorem dX1_arrange_72 : decode cX1_arrange 72 = .ok (.istore_n 3, 1) := by decide +kernel
theorem dX1_arrange_73 : decode cX1_arrange 73 = .ok (.iload_n 3, 1) := by decide +kernel
theorem dX1_arrange_74 : decode cX1_arrange 74 = .ok (.aload_n 0, 1) := by decide +kernel
theorem dX1_arrange_75 : decode cX1_arrange 75 = .ok (.getfield 12, 3) := by decide +kernel
theorem dX1_arrange_78 : decode cX1_arrange 78 = .ok (.getfield 54, 3) := by decide +kernel
theorem dX1_arrange_81 : decode cX1_arrange 81 = .ok (.if_icmp .ge 23, 3) := by decide +kernel
theorem dX1_arrange_84 : decode cX1_arrange 84 = .ok (.aload_n 0, 1) := by decide +kernel
theorem dX1_arrange_85 : decode cX1_arrange 85 = .ok (.getfield 28, 3) := by decide +kernel
theorem dX1_arrange_88 : decode cX1_arrange 88 = .ok (.iload_n 3, 1) := by decide +kernel
theorem dX1_arrange_89 : decode cX1_arrange 89 = .ok (.iload_n 1, 1) := by decide +kernel
theorem dX1_arrange_90 : decode cX1_arrange 90 = .ok (.iconst 3, 1) := by decide +kernel
theorem dX1_arrange_91 : decode cX1_arrange 91 = .ok (.iload_n 3, 1) := by decide +kernel
theorem dX1_arrange_92 : decode cX1_arrange 92 = .ok (.imul, 1) := by decide +kernel
theorem dX1_arrange_93 : decode cX1_arrange 93 = .ok (.ishr, 1) := by decide +kernel
theorem dX1_arrange_94 : decode cX1_arrange 94 = .ok (.bipush 7, 2) := by decide +kernel
theorem dX1_arrange_96 : decode cX1_arrange 96 = .ok (.iand, 1) := by decide +kernel
theorem dX1_arrange_97 : decode cX1_arrange 97 = .ok (.iastore, 1) := by decide +kernel
theorem dX1_arrange_98 : decode cX1_arrange 98 = .ok (.iinc 3 1, 3) := by decide +kernel
theorem dX1_arrange_101 : decode cX1_arrange 101 = .ok (.goto (-28), 3) := by decide +kernel
theorem dX1_arrange_104 : decode cX1_arrange 104 = .ok (.iconst 1, 1) := by decide +kernel
theorem dX1_arrange_105 : decode cX1_arrange 105 = .ok (.ireturn, 1) := by decide +kernel
theorem dX1_workDay_0 : decode cX1_workDay 0 = .ok (.iconst 0, 1) := by decide +kernel
theorem dX1_workDay_1 : decode cX1_workDay 1 = .ok (.istore_n 1, 1) := by decide +kernel
theorem dX1_workDay_2 : decode cX1_workDay 2 = .ok (.aload_n 0, 1) := by decide +kernel
theorem dX1_workDay_3 : decode cX1_workDay 3 = .ok (.aload_n 0, 1) := by decide +kernel
theorem dX1_workDay_4 : decode cX1_workDay 4 = .ok (.getfield 31, 3) := by decide +kernel
theorem dX1_workDay_7 : decode cX1_workDay 7 = .ok (.invokevirtual 65, 3) := by decide +kernel
theorem dX1_workDay_10 : decode cX1_workDay 10 = .ok (.istore_n 2, 1) := by decide +kernel
theorem dX1_workDay_11 : decode cX1_workDay 11 = .ok (.iconst 0, 1) := by decide +kernel
theorem dX1_workDay_12 : decode cX1_workDay 12 = .ok (.istore_n 3, 1) := by decide +kernel
theorem dX1_workDay_13 : decode cX1_workDay 13 = .ok (.iload_n 3, 1) := by decide +kernel
theorem dX1_workDay_14 : decode cX1_workDay 14 = .ok (.iload_n 2, 1) := by decide +kernel
theorem dX1_workDay_15 : decode cX1_workDay 15 = .ok (.if_icmp .ge 35, 3) := by decide +kernel
theorem dX1_workDay_18 : decode cX1_workDay 18 = .ok (.aload_n 0, 1) := by decide +kernel
theorem dX1_workDay_19 : decode cX1_workDay 19 = .ok (.getfield 12, 3) := by decide +kernel
theorem dX1_workDay_22 : decode cX1_workDay 22 = .ok (.getfield 54, 3) := by decide +kernel
theorem dX1_workDay_25 : decode cX1_workDay 25 = .ok (.ifCond .le 25, 3) := by decide +kernel
theorem dX1_workDay_28 : decode cX1_workDay 28 = .ok (.aload_n 0, 1) := by decide +kernel
theorem dX1_workDay_29 : decode cX1_workDay 29 = .ok (.aload_n 0, 1) := by decide +kernel
theorem dX1_workDay_30 : decode cX1_workDay 30 = .ok (.getfield 28, 3) := by decide +kernel
theorem dX1_workDay_33 : decode cX1_workDay 33 = .ok (.iconst 0, 1) := by decide +kernel
theorem dX1_workDay_34 : decode cX1_workDay 34 = .ok (.iaload, 1) := by decide +kernel
theorem dX1_workDay_35 : decode cX1_workDay 35 = .ok (.invokevirtual 69, 3) := by decide +kernel
theorem dX1_workDay_38 : decode cX1_workDay 38 = .ok (.ifCond .eq 6, 3) := by decide +kernel
theorem dX1_workDay_41 : decode cX1_workDay 41 = .ok (.iinc 1 1, 3) := by decide +kernel
theorem dX1_workDay_44 : decode cX1_workDay 44 = .ok (.iinc 3 1, 3) := by decide +kernel
theorem dX1_workDay_47 : decode cX1_workDay 47 = .ok (.goto (-34), 3) := by decide +kernel
theorem dX1_workDay_50 : decode cX1_workDay 50 = .ok (.aload_n 0, 1) := by decide +kernel
theorem dX1_workDay_51 : decode cX1_workDay 51 = .ok (.dup, 1) := by decide +kernel
theorem dX1_workDay_52 : decode cX1_workDay 52 = .ok (.getfield 31, 3) := by decide +kernel
theorem dX1_workDay_55 : decode cX1_workDay 55 = .ok (.iconst 1, 1) := by decide +kernel
theorem dX1_workDay_56 : decode cX1_workDay 56 = .ok (.iadd, 1) := by decide +kernel
theorem dX1_workDay_57 : decode cX1_workDay 57 = .ok (.putfield 31, 3) := by decide +kernel
theorem dX1_workDay_60 : decode cX1_workDay 60 = .ok (.iload_n 1, 1) := by decide +kernel
theorem dX1_workDay_61 : decode cX1_workDay 61 = .ok (.ireturn, 1) := by decide +kernel
theorem dX1_workSlot_0 : decode cX1_workSlot 0 = .ok (.aload_n 0, 1) := by decide +kernel
theorem dX1_workSlot_1 : decode cX1_workSlot 1 = .ok (.getfield 12, 3) := by decide +kernel
theorem dX1_workSlot_4 : decode cX1_workSlot 4 = .ok (.iload_n 1, 1) := by decide +kernel
theorem dX1_workSlot_5 : decode cX1_workSlot 5 = .ok (.invokevirtual 73, 3) := by decide +kernel
theorem dX1_workSlot_8 : decode cX1_workSlot 8 = .ok (.ifCond .ne 5, 3) := by decide +kernel
theorem dX1_workSlot_11 : decode cX1_workSlot 11 = .ok (.iconst 0, 1) := by decide +kernel
theorem dX1_workSlot_12 : decode cX1_workSlot 12 = .ok (.ireturn, 1) := by decide +kernel
theorem dX1_workSlot_13 : decode cX1_workSlot 13 = .ok (.aload_n 0, 1) := by decide +kernel
theorem dX1_workSlot_14 : decode cX1_workSlot 14 = .ok (.getfield 12, 3) := by decide +kernel
theorem dX1_workSlot_17 : decode cX1_workSlot 17 = .ok (.getfield 76, 3) := by decide +kernel
theorem dX1_workSlot_20 : decode cX1_workSlot 20 = .ok (.iload_n 1, 1) := by decide +kernel
theorem dX1_workSlot_21 : decode cX1_workSlot 21 = .ok (.iaload, 1) := by decide +kernel
theorem dX1_workSlot_22 : decode cX1_workSlot 22 = .ok (.aload_n 0, 1) := by decide +kernel
theorem dX1_workSlot_23 : decode cX1_workSlot 23 = .ok (.getfield 35, 3) := by decide +kernel
theorem dX1_workSlot_26 : decode cX1_workSlot 26 = .ok (.if_icmp .eq 26, 3) := by decide +kernel
theorem dX1_workSlot_29 : decode cX1_workSlot 29 = .ok (.aload_n 0, 1) := by decide +kernel
theorem dX1_workSlot_30 : decode cX1_workSlot 30 = .ok (.aload_n 0, 1) := by decide +kernel
theorem dX1_workSlot_31 : decode cX1_workSlot 31 = .ok (.getfield 12, 3) := by decide +kernel
theorem dX1_workSlot_34 : decode cX1_workSlot 34 = .ok (.getfield 76, 3) := by decide +kernel
theorem dX1_workSlot_37 : decode cX1_workSlot 37 = .ok (.iload_n 1, 1) := by decide +kernel
theorem dX1_workSlot_38 : decode cX1_workSlot 38 = .ok (.iaload, 1) := by decide +kernel
theorem dX1_workSlot_39 : decode cX1_workSlot 39 = .ok (.putfield 35, 3) := by decide +kernel
theorem dX1_workSlot_42 : decode cX1_workSlot 42 = .ok (.aload_n 0, 1) := by decide +kernel
theorem dX1_workSlot_43 : decode cX1_workSlot 43 = .ok (.aload_n 0, 1) := by decide +kernel
theorem dX1_workSlot_44 : decode cX1_workSlot 44 = .ok (.getfield 18, 3) := by decide +kernel
theorem dX1_workSlot_47 : decode cX1_workSlot 47 = .ok (.iconst 1, 1) := by decide +kernel
theorem dX1_workSlot_48 : decode cX1_workSlot 48 = .ok (.iaload, 1) := by decide +kernel
theorem dX1_workSlot_49 : decode cX1_workSlot 49 = .ok (.putfield 38, 3) := by decide +kernel
theorem dX1_workSlot_52 : decode cX1_workSlot 52 = .ok (.aload_n 0, 1) := by decide +kernel
theorem dX1_workSlot_53 : decode cX1_workSlot 53 = .ok (.getfield 38, 3) := by decide +kernel
theorem dX1_workSlot_56 : decode cX1_workSlot 56 = .ok (.ifCond .le 15, 3) := by decide +kernel
theorem dX1_workSlot_59 : decode cX1_workSlot 59 = .ok (.aload_n 0, 1) := by decide +kernel
theorem dX1_workSlot_60 : decode cX1_workSlot 60 = .ok (.dup, 1) := by decide +kernel
theorem dX1_workSlot_61 : decode cX1_workSlot 61 = .ok (.getfield 38, 3) := by decide +kernel
theorem dX1_workSlot_64 : decode cX1_workSlot 64 = .ok (.iconst 1, 1) := by decide +kernel
theorem dX1_workSlot_65 : decode cX1_workSlot 65 = .ok (.isub, 1) := by decide +kernel
theorem dX1_workSlot_66 : decode cX1_workSlot 66 = .ok (.putfield 38, 3) := by decide +kernel
theorem dX1_workSlot_69 : decode cX1_workSlot 69 = .ok (.iconst 0, 1) := by decide +kernel
theorem dX1_workSlot_70 : decode cX1_workSlot 70 = .ok (.ireturn, 1) := by decide +kernel
theorem dX1_workSlot_71 : decode cX1_workSlot 71 = .ok (.aload_n 0, 1) := by decide +kernel
theorem dX1_workSlot_72 : decode cX1_workSlot 72 = .ok (.getfield 12, 3) := by decide +kernel
theorem dX1_workSlot_75 : decode cX1_workSlot 75 = .ok (.getfield 78, 3) := by decide +kernel
theorem dX1_workSlot_78 : decode cX1_workSlot 78 = .ok (.iload_n 1, 1) := by decide +kernel
theorem dX1_workSlot_79 : decode cX1_workSlot 79 = .ok (.dup2, 1) := by decide +kernel
theorem dX1_workSlot_80 : decode cX1_workSlot 80 = .ok (.iaload, 1) := by decide +kernel
theorem dX1_workSlot_81 : decode cX1_workSlot 81 = .ok (.iconst 1, 1) := by decide +kernel
theorem dX1_workSlot_82 : decode cX1_workSlot 82 = .ok (.isub, 1) := by decide +kernel
theorem dX1_workSlot_83 : decode cX1_workSlot 83 = .ok (.iastore, 1) := by decide +kernel
theorem dX1_workSlot_84 : decode cX1_workSlot 84 = .ok (.aload_n 0, 1) := by decide +kernel
theorem dX1_workSlot_85 : decode cX1_workSlot 85 = .ok (.getfield 12, 3) := by decide +kernel
theorem dX1_workSlot_88 : decode cX1_workSlot 88 = .ok (.getfield 78, 3) := by decide +kernel
theorem dX1_workSlot_91 : decode cX1_workSlot 91 = .ok (.iload_n 1, 1) := by decide +kernel
theorem dX1_workSlot_92 : decode cX1_workSlot 92 = .ok (.iaload, 1) := by decide +kernel
theorem dX1_workSlot_93 : decode cX1_workSlot 93 = .ok (.ifCond .le 5, 3) := by decide +kernel
theorem dX1_workSlot_96 : decode cX1_workSlot 96 = .ok (.iconst 0, 1) := by decide +kernel
theorem dX1_workSlot_97 : decode cX1_workSlot 97 = .ok (.ireturn, 1) := by decide +kernel
theorem dX1_workSlot_98 : decode cX1_workSlot 98 = .ok (.aload_n 0, 1) := by decide +kernel
theorem dX1_workSlot_99 : decode cX1_workSlot 99 = .ok (.dup, 1) := by decide +kernel
theorem dX1_workSlot_100 : decode cX1_workSlot 100 = .ok (.getfield 41, 3) := by decide +kernel
theorem dX1_workSlot_103 : decode cX1_workSlot 103 = .ok (.aload_n 0, 1) := by decide +kernel
theorem dX1_workSlot_104 : decode cX1_workSlot 104 = .ok (.getfield 12, 3) := by decide +kernel
theorem dX1_workSlot_107 : decode cX1_workSlot 107 = .ok (.iload_n 1, 1) := by decide +kernel
theorem dX1_workSlot_108 : decode cX1_workSlot 108 = .ok (.aload_n 0, 1) := by decide +kernel
theorem dX1_workSlot_109 : decode cX1_workSlot 109 = .ok (.getfield 31, 3) := by decide +kernel
theorem dX1_workSlot_112 : decode cX1_workSlot 112 = .ok (.aload_n 0, 1) := by decide +kernel
theorem dX1_workSlot_113 : decode cX1_workSlot 113 = .ok (.getfield 18, 3) := by decide +kernel
theorem dX1_workSlot_116 : decode cX1_workSlot 116 = .ok (.iconst 2, 1) := by decide +kernel
theorem dX1_workSlot_117 : decode cX1_workSlot 117 = .ok (.iaload, 1) := by decide +kernel
theorem dX1_workSlot_118 : decode cX1_workSlot 118 = .ok (.invokevirtual 81, 3) := by decide +kernel
theorem dX1_workSlot_121 : decode cX1_workSlot 121 = .ok (.iadd, 1) := by decide +kernel
theorem dX1_workSlot_122 : decode cX1_workSlot 122 = .ok (.putfield 41, 3) := by decide +kernel
theorem dX1_workSlot_125 : decode cX1_workSlot 125 = .ok (.aload_n 0, 1) := by decide +kernel
theorem dX1_workSlot_126 : decode cX1_workSlot 126 = .ok (.iload_n 1, 1) := by decide +kernel
theorem dX1_workSlot_127 : decode cX1_workSlot 127 = .ok (.invokevirtual 85, 3) := by decide +kernel
theorem dX1_workSlot_130 : decode cX1_workSlot 130 = .ok (.iconst 1, 1) := by decide +kernel
theorem dX1_workSlot_131 : decode cX1_workSlot 131 = .ok (.ireturn, 1) := by decide +kernel
theorem dX1_copy_0 : decode cX1_copy 0 = .ok (.aload_n 0, 1) := by decide +kernel
theorem dX1_copy_1 : decode cX1_copy 1 = .ok (.getfield 12, 3) := by decide +kernel
theorem dX1_copy_4 : decode cX1_copy 4 = .ok (.aload_n 1, 1) := by decide +kernel
theorem dX1_copy_5 : decode cX1_copy 5 = .ok (.getfield 12, 3) := by decide +kernel
theorem dX1_copy_8 : decode cX1_copy 8 = .ok (.invokevirtual 50, 3) := by decide +kernel
theorem dX1_copy_11 : decode cX1_copy 11 = .ok (.aload_n 1, 1) := by decide +kernel
theorem dX1_copy_12 : decode cX1_copy 12 = .ok (.getfield 18, 3) := by decide +kernel
theorem dX1_copy_15 : decode cX1_copy 15 = .ok (.iconst 0, 1) := by decide +kernel
theorem dX1_copy_16 : decode cX1_copy 16 = .ok (.aload_n 0, 1) := by decide +kernel
theorem dX1_copy_17 : decode cX1_copy 17 = .ok (.getfield 18, 3) := by decide +kernel
theorem dX1_copy_20 : decode cX1_copy 20 = .ok (.iconst 0, 1) := by decide +kernel
theorem dX1_copy_21 : decode cX1_copy 21 = .ok (.iconst 4, 1) := by decide +kernel
theorem dX1_copy_22 : decode cX1_copy 22 = .ok (.invokestatic 88, 3) := by decide +kernel
theorem dX1_copy_25 : decode cX1_copy 25 = .ok (.aload_n 1, 1) := by decide +kernel
theorem dX1_copy_26 : decode cX1_copy 26 = .ok (.getfield 22, 3) := by decide +kernel
theorem dX1_copy_29 : decode cX1_copy 29 = .ok (.iconst 0, 1) := by decide +kernel
theorem dX1_copy_30 : decode cX1_copy 30 = .ok (.aload_n 0, 1) := by decide +kernel
theorem dX1_copy_31 : decode cX1_copy 31 = .ok (.getfield 22, 3) := by decide +kernel
theorem dX1_copy_34 : decode cX1_copy 34 = .ok (.iconst 0, 1) := by decide +kernel
theorem dX1_copy_35 : decode cX1_copy 35 = .ok (.bipush 61, 2) := by decide +kernel
theorem dX1_copy_37 : decode cX1_copy 37 = .ok (.invokestatic 88, 3) := by decide +kernel
theorem dX1_copy_40 : decode cX1_copy 40 = .ok (.aload_n 1, 1) := by decide +kernel
theorem dX1_copy_41 : decode cX1_copy 41 = .ok (.getfield 25, 3) := by decide +kernel
theorem dX1_copy_44 : decode cX1_copy 44 = .ok (.iconst 0, 1) := by decide +kernel
theorem dX1_copy_45 : decode cX1_copy 45 = .ok (.aload_n 0, 1) := by decide +kernel
theorem dX1_copy_46 : decode cX1_copy 46 = .ok (.getfield 25, 3) := by decide +kernel
theorem dX1_copy_49 : decode cX1_copy 49 = .ok (.iconst 0, 1) := by decide +kernel
theorem dX1_copy_50 : decode cX1_copy 50 = .ok (.bipush 61, 2) := by decide +kernel
theorem dX1_copy_52 : decode cX1_copy 52 = .ok (.invokestatic 88, 3) := by decide +kernel
theorem dX1_copy_55 : decode cX1_copy 55 = .ok (.aload_n 1, 1) := by decide +kernel
theorem dX1_copy_56 : decode cX1_copy 56 = .ok (.getfield 28, 3) := by decide +kernel
theorem dX1_copy_59 : decode cX1_copy 59 = .ok (.iconst 0, 1) := by decide +kernel
theorem dX1_copy_60 : decode cX1_copy 60 = .ok (.aload_n 0, 1) := by decide +kernel
theorem dX1_copy_61 : decode cX1_copy 61 = .ok (.getfield 28, 3) := by decide +kernel
theorem dX1_copy_64 : decode cX1_copy 64 = .ok (.iconst 0, 1) := by decide +kernel
theorem dX1_copy_65 : decode cX1_copy 65 = .ok (.bipush 6, 2) := by decide +kernel
theorem dX1_copy_67 : decode cX1_copy 67 = .ok (.invokestatic 88, 3) := by decide +kernel
theorem dX1_copy_70 : decode cX1_copy 70 = .ok (.aload_n 0, 1) := by decide +kernel
theorem dX1_copy_71 : decode cX1_copy 71 = .ok (.aload_n 1, 1) := by decide +kernel
theorem dX1_copy_72 : decode cX1_copy 72 = .ok (.getfield 31, 3) := by decide +kernel
theorem dX1_copy_75 : decode cX1_copy 75 = .ok (.putfield 31, 3) := by decide +kernel
theorem dX1_copy_78 : decode cX1_copy 78 = .ok (.aload_n 0, 1) := by decide +kernel
theorem dX1_copy_79 : decode cX1_copy 79 = .ok (.aload_n 1, 1) := by decide +kernel
theorem dX1_copy_80 : decode cX1_copy 80 = .ok (.getfield 35, 3) := by decide +kernel
theorem dX1_copy_83 : decode cX1_copy 83 = .ok (.putfield 35, 3) := by decide +kernel
theorem dX1_copy_86 : decode cX1_copy 86 = .ok (.aload_n 0, 1) := by decide +kernel
theorem dX1_copy_87 : decode cX1_copy 87 = .ok (.aload_n 1, 1) := by decide +kernel
theorem dX1_copy_88 : decode cX1_copy 88 = .ok (.getfield 38, 3) := by decide +kernel
theorem dX1_copy_91 : decode cX1_copy 91 = .ok (.putfield 38, 3) := by decide +kernel
theorem dX1_copy_94 : decode cX1_copy 94 = .ok (.aload_n 0, 1) := by decide +kernel
theorem dX1_copy_95 : decode cX1_copy 95 = .ok (.aload_n 1, 1) := by decide +kernel
theorem dX1_copy_96 : decode cX1_copy 96 = .ok (.getfield 41, 3) := by decide +kernel
theorem dX1_copy_99 : decode cX1_copy 99 = .ok (.putfield 41, 3) := by decide +kernel
theorem dX1_copy_102 : decode cX1_copy 102 = .ok (.return_, 1) := by decide +kernel
theorem dX2_init_0 : decode cX2_init 0 = .ok (.aload_n 0, 1) := by decide +kernel
theorem dX2_init_1 : decode cX2_init 1 = .ok (.invokespecial 3, 3) := by decide +kernel
theorem dX2_init_4 : decode cX2_init 4 = .ok (.aload_n 0, 1) := by decide +kernel
theorem dX2_init_5 : decode cX2_init 5 = .ok (.sipush 128, 3) := by decide +kernel
theorem dX2_init_8 : decode cX2_init 8 = .ok (.newarray .int, 2) := by decide +kernel
theorem dX2_init_10 : decode cX2_init 10 = .ok (.putfield 11, 3) := by decide +kernel
theorem dX2_init_13 : decode cX2_init 13 = .ok (.aload_n 0, 1) := by decide +kernel
theorem dX2_init_14 : decode cX2_init 14 = .ok (.sipush 128, 3) := by decide +kernel
theorem dX2_init_17 : decode cX2_init 17 = .ok (.newarray .int, 2) := by decide +kernel
theorem dX2_init_19 : decode cX2_init 19 = .ok (.putfield 15, 3) := by decide +kernel
theorem dX2_init_22 : decode cX2_init 22 = .ok (.aload_n 0, 1) := by decide +kernel
theorem dX2_init_23 : decode cX2_init 23 = .ok (.bipush 7, 2) := by decide +kernel
theorem dX2_init_25 : decode cX2_init 25 = .ok (.newarray .int, 2) := by decide +kernel
theorem dX2_init_27 : decode cX2_init 27 = .ok (.putfield 18, 3) := by decide +kernel
theorem dX2_init_30 : decode cX2_init 30 = .ok (.aload_n 0, 1) := by decide +kernel
theorem dX2_init_31 : decode cX2_init 31 = .ok (.bipush 6, 2) := by decide +kernel
theorem dX2_init_33 : decode cX2_init 33 = .ok (.newarray .int, 2) := by decide +kernel
theorem dX2_init_35 : decode cX2_init 35 = .ok (.putfield 21, 3) := by decide +kernel
theorem dX2_init_38 : decode cX2_init 38 = .ok (.aload_n 0, 1) := by decide +kernel
theorem dX2_init_39 : decode cX2_init 39 = .ok (.bipush 6, 2) := by decide +kernel
theorem dX2_init_41 : decode cX2_init 41 = .ok (.newarray .int, 2) := by decide +kernel
theorem dX2_init_43 : decode cX2_init 43 = .ok (.putfield 24, 3) := by decide +kernel
theorem dX2_init_46 : decode cX2_init 46 = .ok (.aload_n 0, 1) := by decide +kernel
theorem dX2_init_47 : decode cX2_init 47 = .ok (.aconst_null, 1) := by decide +kernel
theorem dX2_init_48 : decode cX2_init 48 = .ok (.putfield 27, 3) := by decide +kernel
theorem dX2_init_51 : decode cX2_init 51 = .ok (.aload_n 0, 1) := by decide +kernel
theorem dX2_init_52 : decode cX2_init 52 = .ok (.iconst 0, 1) := by decide +kernel
theorem dX2_init_53 : decode cX2_init 53 = .ok (.putfield 31, 3) := by decide +kernel
theorem dX2_init_56 : decode cX2_init 56 = .ok (.aload_n 0, 1) := by decide +kernel
theorem dX2_init_57 : decode cX2_init 57 = .ok (.iconst 0, 1) := by decide +kernel
theorem dX2_init_58 : decode cX2_init 58 = .ok (.putfield 35, 3) := by decide +kernel
theorem dX2_init_61 : decode cX2_init 61 = .ok (.aload_n 0, 1) := by decide +kernel
theorem dX2_init_62 : decode cX2_init 62 = .ok (.iconst 0, 1) := by decide +kernel
theorem dX2_init_63 : decode cX2_init 63 = .ok (.putfield 39, 3) := by decide +kernel
theorem dX2_init_66 : decode cX2_init 66 = .ok (.aload_n 0, 1) := by decide +kernel
theorem dX2_init_67 : decode cX2_init 67 = .ok (.aload_n 1, 1) := by decide +kernel
theorem dX2_init_68 : decode cX2_init 68 = .ok (.putfield 42, 3) := by decide +kernel
theorem dX2_init_71 : decode cX2_init 71 = .ok (.return_, 1) := by decide +kernel
theorem dX2_sureOf_0 : decode cX2_sureOf 0 = .ok (.aload_n 0, 1) := by decide +kernel
theorem dX2_sureOf_1 : decode cX2_sureOf 1 = .ok (.aload_n 1, 1) := by decide +kernel
theorem dX2_sureOf_2 : decode cX2_sureOf 2 = .ok (.iconst 0, 1) := by decide +kernel
theorem dX2_sureOf_3 : decode cX2_sureOf 3 = .ok (.invokevirtual 46, 3) := by decide +kernel
theorem dX2_sureOf_6 : decode cX2_sureOf 6 = .ok (.iconst 1, 1) := by decide +kernel
theorem dX2_sureOf_7 : decode cX2_sureOf 7 = .ok (.istore_n 3, 1) := by decide +kernel
theorem dX2_sureOf_8 : decode cX2_sureOf 8 = .ok (.iconst 0, 1) := by decide +kernel
theorem dX2_sureOf_9 : decode cX2_sureOf 9 = .ok (.istore 4, 2) := by decide +kernel
theorem dX2_sureOf_11 : decode cX2_sureOf 11 = .ok (.iload 4, 2) := by decide +kernel
theorem dX2_sureOf_13 : decode cX2_sureOf 13 = .ok (.aload_n 1, 1) := by decide +kernel
theorem dX2_sureOf_14 : decode cX2_sureOf 14 = .ok (.getfield 50, 3) := by decide +kernel
theorem dX2_sureOf_17 : decode cX2_sureOf 17 = .ok (.if_icmp .ge 40, 3) := by decide +kernel
theorem dX2_sureOf_20 : decode cX2_sureOf 20 = .ok (.aload_n 0, 1) := by decide +kernel
theorem dX2_sureOf_21 : decode cX2_sureOf 21 = .ok (.iload 4, 2) := by decide +kernel
theorem dX2_sureOf_23 : decode cX2_sureOf 23 = .ok (.iload 4, 2) := by decide +kernel
theorem dX2_sureOf_25 : decode cX2_sureOf 25 = .ok (.ifCond .ne 7, 3) := by decide +kernel
theorem dX2_sureOf_28 : decode cX2_sureOf 28 = .ok (.iconst 0, 1) := by decide +kernel
theorem dX2_sureOf_29 : decode cX2_sureOf 29 = .ok (.goto 14, 3) := by decide +kernel
theorem dX2_sureOf_32 : decode cX2_sureOf 32 = .ok (.aload_n 1, 1) := by decide +kernel
theorem dX2_sureOf_33 : decode cX2_sureOf 33 = .ok (.getfield 55, 3) := by decide +kernel
theorem dX2_sureOf_36 : decode cX2_sureOf 36 = .ok (.aload_n 2, 1) := by decide +kernel
theorem dX2_sureOf_37 : decode cX2_sureOf 37 = .ok (.iload 4, 2) := by decide +kernel
theorem dX2_sureOf_39 : decode cX2_sureOf 39 = .ok (.iconst 1, 1) := by decide +kernel
theorem dX2_sureOf_40 : decode cX2_sureOf 40 = .ok (.isub, 1) := by decide +kernel
theorem dX2_sureOf_41 : decode cX2_sureOf 41 = .ok (.iaload, 1) := by decide +kernel
theorem dX2_sureOf_42 : decode cX2_sureOf 42 = .ok (.iaload, 1) := by decide +kernel
theorem dX2_sureOf_43 : decode cX2_sureOf 43 = .ok (.aload_n 2, 1) := by decide +kernel
theorem dX2_sureOf_44 : decode cX2_sureOf 44 = .ok (.iload 4, 2) := by decide +kernel
theorem dX2_sureOf_46 : decode cX2_sureOf 46 = .ok (.iaload, 1) := by decide +kernel
theorem dX2_sureOf_47 : decode cX2_sureOf 47 = .ok (.invokevirtual 58, 3) := by decide +kernel
theorem dX2_sureOf_50 : decode cX2_sureOf 50 = .ok (.istore_n 3, 1) := by decide +kernel
theorem dX2_sureOf_51 : decode cX2_sureOf 51 = .ok (.iinc 4 1, 3) := by decide +kernel
theorem dX2_sureOf_54 : decode cX2_sureOf 54 = .ok (.goto (-43), 3) := by decide +kernel
theorem dX2_sureOf_57 : decode cX2_sureOf 57 = .ok (.iload_n 3, 1) := by decide +kernel
theorem dX2_sureOf_58 : decode cX2_sureOf 58 = .ok (.ireturn, 1) := by decide +kernel
theorem dX2_meanOf_0 : decode cX2_meanOf 0 = .ok (.aload_n 0, 1) := by decide +kernel
theorem dX2_meanOf_1 : decode cX2_meanOf 1 = .ok (.aload_n 1, 1) := by decide +kernel
theorem dX2_meanOf_2 : decode cX2_meanOf 2 = .ok (.iconst 1, 1) := by decide +kernel
theorem dX2_meanOf_3 : decode cX2_meanOf 3 = .ok (.invokevirtual 46, 3) := by decide +kernel
theorem dX2_meanOf_6 : decode cX2_meanOf 6 = .ok (.iconst 0, 1) := by decide +kernel
theorem dX2_meanOf_7 : decode cX2_meanOf 7 = .ok (.istore_n 3, 1) := by decide +kernel
theorem dX2_meanOf_8 : decode cX2_meanOf 8 = .ok (.iconst 0, 1) := by decide +kernel
theorem dX2_meanOf_9 : decode cX2_meanOf 9 = .ok (.istore 4, 2) := by decide +kernel
theorem dX2_meanOf_11 : decode cX2_meanOf 11 = .ok (.iload 4, 2) := by decide +kernel
theorem dX2_meanOf_13 : decode cX2_meanOf 13 = .ok (.aload_n 1, 1) := by decide +kernel
theorem dX2_meanOf_14 : decode cX2_meanOf 14 = .ok (.getfield 50, 3) := by decide +kernel
theorem dX2_meanOf_17 : decode cX2_meanOf 17 = .ok (.if_icmp .ge 49, 3) := by decide +kernel
theorem dX2_meanOf_20 : decode cX2_meanOf 20 = .ok (.aload_n 0, 1) := by decide +kernel
theorem dX2_meanOf_21 : decode cX2_meanOf 21 = .ok (.iload 4, 2) := by decide +kernel
theorem dX2_meanOf_23 : decode cX2_meanOf 23 = .ok (.iload 4, 2) := by decide +kernel
theorem dX2_meanOf_25 : decode cX2_meanOf 25 = .ok (.ifCond .ne 7, 3) := by decide +kernel
theorem dX2_meanOf_28 : decode cX2_meanOf 28 = .ok (.iconst 0, 1) := by decide +kernel
theorem dX2_meanOf_29 : decode cX2_meanOf 29 = .ok (.goto 14, 3) := by decide +kernel
theorem dX2_meanOf_32 : decode cX2_meanOf 32 = .ok (.aload_n 1, 1) := by decide +kernel
theorem dX2_meanOf_33 : decode cX2_meanOf 33 = .ok (.getfield 55, 3) := by decide +kernel
theorem dX2_meanOf_36 : decode cX2_meanOf 36 = .ok (.aload_n 2, 1) := by decide +kernel
theorem dX2_meanOf_37 : decode cX2_meanOf 37 = .ok (.iload 4, 2) := by decide +kernel
theorem dX2_meanOf_39 : decode cX2_meanOf 39 = .ok (.iconst 1, 1) := by decide +kernel
theorem dX2_meanOf_40 : decode cX2_meanOf 40 = .ok (.isub, 1) := by decide +kernel
theorem dX2_meanOf_41 : decode cX2_meanOf 41 = .ok (.iaload, 1) := by decide +kernel
theorem dX2_meanOf_42 : decode cX2_meanOf 42 = .ok (.iaload, 1) := by decide +kernel
theorem dX2_meanOf_43 : decode cX2_meanOf 43 = .ok (.aload_n 2, 1) := by decide +kernel
theorem dX2_meanOf_44 : decode cX2_meanOf 44 = .ok (.iload 4, 2) := by decide +kernel
theorem dX2_meanOf_46 : decode cX2_meanOf 46 = .ok (.iaload, 1) := by decide +kernel
theorem dX2_meanOf_47 : decode cX2_meanOf 47 = .ok (.invokevirtual 58, 3) := by decide +kernel
theorem dX2_meanOf_50 : decode cX2_meanOf 50 = .ok (.pop, 1) := by decide +kernel
theorem dX2_meanOf_51 : decode cX2_meanOf 51 = .ok (.iload_n 3, 1) := by decide +kernel
theorem dX2_meanOf_52 : decode cX2_meanOf 52 = .ok (.iconst 4, 1) := by decide +kernel
theorem dX2_meanOf_53 : decode cX2_meanOf 53 = .ok (.imul, 1) := by decide +kernel
theorem dX2_meanOf_54 : decode cX2_meanOf 54 = .ok (.aload_n 0, 1) := by decide +kernel
theorem dX2_meanOf_55 : decode cX2_meanOf 55 = .ok (.getfield 35, 3) := by decide +kernel
theorem dX2_meanOf_58 : decode cX2_meanOf 58 = .ok (.iadd, 1) := by decide +kernel
theorem dX2_meanOf_59 : decode cX2_meanOf 59 = .ok (.istore_n 3, 1) := by decide +kernel
theorem dX2_meanOf_60 : decode cX2_meanOf 60 = .ok (.iinc 4 1, 3) := by decide +kernel
theorem dX2_meanOf_63 : decode cX2_meanOf 63 = .ok (.goto (-52), 3) := by decide +kernel
theorem dX2_meanOf_66 : decode cX2_meanOf 66 = .ok (.iload_n 3, 1) := by decide +kernel
theorem dX2_meanOf_67 : decode cX2_meanOf 67 = .ok (.ireturn, 1) := by decide +kernel
theorem dX2_surest_0 : decode cX2_surest 0 = .ok (.aload_n 0, 1) := by decide +kernel
theorem dX2_surest_1 : decode cX2_surest 1 = .ok (.aload_n 1, 1) := by decide +kernel
theorem dX2_surest_2 : decode cX2_surest 2 = .ok (.iconst 0, 1) := by decide +kernel
theorem dX2_surest_3 : decode cX2_surest 3 = .ok (.invokevirtual 46, 3) := by decide +kernel
theorem dX2_surest_6 : decode cX2_surest 6 = .ok (.aload_n 0, 1) := by decide +kernel
theorem dX2_surest_7 : decode cX2_surest 7 = .ok (.iconst (-1), 1) := by decide +kernel
theorem dX2_surest_8 : decode cX2_surest 8 = .ok (.putfield 39, 3) := by decide +kernel
theorem dX2_surest_11 : decode cX2_surest 11 = .ok (.aload_n 0, 1) := by decide +kernel
theorem dX2_surest_12 : decode cX2_surest 12 = .ok (.iconst 0, 1) := by decide +kernel
theorem dX2_surest_13 : decode cX2_surest 13 = .ok (.iconst 0, 1) := by decide +kernel
theorem dX2_surest_14 : decode cX2_surest 14 = .ok (.iconst 0, 1) := by decide +kernel
theorem dX2_surest_15 : decode cX2_surest 15 = .ok (.iconst 1, 1) := by decide +kernel
theorem dX2_surest_16 : decode cX2_surest 16 = .ok (.invokevirtual 62, 3) := by decide +kernel
theorem dX2_surest_19 : decode cX2_surest 19 = .ok (.aload_n 0, 1) := by decide +kernel
theorem dX2_surest_20 : decode cX2_surest 20 = .ok (.getfield 39, 3) := by decide +kernel
theorem dX2_surest_23 : decode cX2_surest 23 = .ok (.ireturn, 1) := by decide +kernel
theorem dX2_begin_0 : decode cX2_begin 0 = .ok (.aload_n 0, 1) := by decide +kernel
theorem dX2_begin_1 : decode cX2_begin 1 = .ok (.aload_n 1, 1) := by decide +kernel
theorem dX2_begin_2 : decode cX2_begin 2 = .ok (.putfield 27, 3) := by decide +kernel
theorem dX2_begin_5 : decode cX2_begin 5 = .ok (.aload_n 0, 1) := by decide +kernel
theorem dX2_begin_6 : decode cX2_begin 6 = .ok (.iload_n 2, 1) := by decide +kernel
theorem dX2_begin_7 : decode cX2_begin 7 = .ok (.putfield 31, 3) := by decide +kernel
theorem dX2_begin_10 : decode cX2_begin 10 = .ok (.aload_n 0, 1) := by decide +kernel
theorem dX2_begin_11 : decode cX2_begin 11 = .ok (.getfield 11, 3) := by decide +kernel
theorem dX2_begin_14 : decode cX2_begin 14 = .ok (.iconst 1, 1) := by decide +kernel
theorem dX2_begin_15 : decode cX2_begin 15 = .ok (.iconst 0, 1) := by decide +kernel
theorem dX2_begin_16 : decode cX2_begin 16 = .ok (.iastore, 1) := by decide +kernel
theorem dX2_begin_17 : decode cX2_begin 17 = .ok (.aload_n 0, 1) := by decide +kernel
theorem dX2_begin_18 : decode cX2_begin 18 = .ok (.getfield 15, 3) := by decide +kernel
theorem dX2_begin_21 : decode cX2_begin 21 = .ok (.iconst 1, 1) := by decide +kernel
theorem dX2_begin_22 : decode cX2_begin 22 = .ok (.iconst 1, 1) := by decide +kernel
theorem dX2_begin_23 : decode cX2_begin 23 = .ok (.iastore, 1) := by decide +kernel
theorem dX2_begin_24 : decode cX2_begin 24 = .ok (.aload_n 0, 1) := by decide +kernel
theorem dX2_begin_25 : decode cX2_begin 25 = .ok (.getfield 18, 3) := by decide +kernel
theorem dX2_begin_28 : decode cX2_begin 28 = .ok (.iconst 0, 1) := by decide +kernel
theorem dX2_begin_29 : decode cX2_begin 29 = .ok (.iconst 1, 1) := by decide +kernel
theorem dX2_begin_30 : decode cX2_begin 30 = .ok (.iastore, 1) := by decide +kernel
theorem dX2_begin_31 : decode cX2_begin 31 = .ok (.return_, 1) := by decide +kernel
theorem dX2_walk_0 : decode cX2_walk 0 = .ok (.iload 4, 2) := by decide +kernel
theorem dX2_walk_2 : decode cX2_walk 2 = .ok (.iconst 2, 1) := by decide +kernel
theorem dX2_walk_3 : decode cX2_walk 3 = .ok (.aload_n 0, 1) := by decide +kernel
theorem dX2_walk_4 : decode cX2_walk 4 = .ok (.getfield 27, 3) := by decide +kernel
theorem dX2_walk_7 : decode cX2_walk 7 = .ok (.getfield 50, 3) := by decide +kernel
theorem dX2_walk_10 : decode cX2_walk 10 = .ok (.iload_n 1, 1) := by decide +kernel
theorem dX2_walk_11 : decode cX2_walk 11 = .ok (.isub, 1) := by decide +kernel
theorem dX2_walk_12 : decode cX2_walk 12 = .ok (.imul, 1) := by decide +kernel
theorem dX2_walk_13 : decode cX2_walk 13 = .ok (.ishl, 1) := by decide +kernel
theorem dX2_walk_14 : decode cX2_walk 14 = .ok (.aload_n 0, 1) := by decide +kernel
theorem dX2_walk_15 : decode cX2_walk 15 = .ok (.getfield 39, 3) := by decide +kernel
theorem dX2_walk_18 : decode cX2_walk 18 = .ok (.if_icmp .gt 4, 3) := by decide +kernel
theorem dX2_walk_21 : decode cX2_walk 21 = .ok (.return_, 1) := by decide +kernel
theorem dX2_walk_22 : decode cX2_walk 22 = .ok (.iload_n 1, 1) := by decide +kernel
theorem dX2_walk_23 : decode cX2_walk 23 = .ok (.aload_n 0, 1) := by decide +kernel
theorem dX2_walk_24 : decode cX2_walk 24 = .ok (.getfield 27, 3) := by decide +kernel
theorem dX2_walk_27 : decode cX2_walk 27 = .ok (.getfield 50, 3) := by decide +kernel
theorem dX2_walk_30 : decode cX2_walk 30 = .ok (.if_icmp .lt 25, 3) := by decide +kernel
theorem dX2_walk_33 : decode cX2_walk 33 = .ok (.aload_n 0, 1) := by decide +kernel
theorem dX2_walk_34 : decode cX2_walk 34 = .ok (.iload 4, 2) := by decide +kernel
theorem dX2_walk_36 : decode cX2_walk 36 = .ok (.putfield 39, 3) := by decide +kernel
theorem dX2_walk_39 : decode cX2_walk 39 = .ok (.aload_n 0, 1) := by decide +kernel
theorem dX2_walk_40 : decode cX2_walk 40 = .ok (.getfield 21, 3) := by decide +kernel
theorem dX2_walk_43 : decode cX2_walk 43 = .ok (.iconst 0, 1) := by decide +kernel
theorem dX2_walk_44 : decode cX2_walk 44 = .ok (.aload_n 0, 1) := by decide +kernel
theorem dX2_walk_45 : decode cX2_walk 45 = .ok (.getfield 24, 3) := by decide +kernel
theorem dX2_walk_48 : decode cX2_walk 48 = .ok (.iconst 0, 1) := by decide +kernel
theorem dX2_walk_49 : decode cX2_walk 49 = .ok (.bipush 6, 2) := by decide +kernel
theorem dX2_walk_51 : decode cX2_walk 51 = .ok (.invokestatic 66, 3) := by decide +kernel
theorem dX2_walk_54 : decode cX2_walk 54 = .ok (.return_, 1) := by decide +kernel
theorem dX2_walk_55 : decode cX2_walk 55 = .ok (.iconst 0, 1) := by decide +kernel
theorem dX2_walk_56 : decode cX2_walk 56 = .ok (.istore 5, 2) := by decide +kernel
theorem dX2_walk_58 : decode cX2_walk 58 = .ok (.iload 5, 2) := by decide +kernel
theorem dX2_walk_60 : decode cX2_walk 60 = .ok (.aload_n 0, 1) := by decide +kernel
theorem dX2_walk_61 : decode cX2_walk 61 = .ok (.getfield 27, 3) := by decide +kernel
theorem dX2_walk_64 : decode cX2_walk 64 = .ok (.getfield 50, 3) := by decide +kernel
theorem dX2_walk_67 : decode cX2_walk 67 = .ok (.if_icmp .ge 60, 3) := by decide +kernel
theorem dX2_walk_70 : decode cX2_walk 70 = .ok (.iload_n 3, 1) := by decide +kernel
theorem dX2_walk_71 : decode cX2_walk 71 = .ok (.iload 5, 2) := by decide +kernel
theorem dX2_walk_73 : decode cX2_walk 73 = .ok (.ishr, 1) := by decide +kernel
theorem dX2_walk_74 : decode cX2_walk 74 = .ok (.iconst 1, 1) := by decide +kernel
theorem dX2_walk_75 : decode cX2_walk 75 = .ok (.iand, 1) := by decide +kernel
theorem dX2_walk_76 : decode cX2_walk 76 = .ok (.ifCond .eq 6, 3) := by decide +kernel
theorem dX2_walk_79 : decode cX2_walk 79 = .ok (.goto 42, 3) := by decide +kernel
theorem dX2_walk_82 : decode cX2_walk 82 = .ok (.aload_n 0, 1) := by decide +kernel
theorem dX2_walk_83 : decode cX2_walk 83 = .ok (.getfield 21, 3) := by decide +kernel
theorem dX2_walk_86 : decode cX2_walk 86 = .ok (.iload_n 1, 1) := by decide +kernel
theorem dX2_walk_87 : decode cX2_walk 87 = .ok (.iload 5, 2) := by decide +kernel
theorem dX2_walk_89 : decode cX2_walk 89 = .ok (.iastore, 1) := by decide +kernel
theorem dX2_walk_90 : decode cX2_walk 90 = .ok (.aload_n 0, 1) := by decide +kernel
theorem dX2_walk_91 : decode cX2_walk 91 = .ok (.iload_n 1, 1) := by decide +kernel
theorem dX2_walk_92 : decode cX2_walk 92 = .ok (.iconst 1, 1) := by decide +kernel
theorem dX2_walk_93 : decode cX2_walk 93 = .ok (.iadd, 1) := by decide +kernel
theorem dX2_walk_94 : decode cX2_walk 94 = .ok (.aload_n 0, 1) := by decide +kernel
theorem dX2_walk_95 : decode cX2_walk 95 = .ok (.getfield 27, 3) := by decide +kernel
theorem dX2_walk_98 : decode cX2_walk 98 = .ok (.getfield 55, 3) := by decide +kernel
theorem dX2_walk_101 : decode cX2_walk 101 = .ok (.iload 5, 2) := by decide +kernel
theorem dX2_walk_103 : decode cX2_walk 103 = .ok (.iaload, 1) := by decide +kernel
theorem dX2_walk_104 : decode cX2_walk 104 = .ok (.iload_n 3, 1) := by decide +kernel
theorem dX2_walk_105 : decode cX2_walk 105 = .ok (.iconst 1, 1) := by decide +kernel
theorem dX2_walk_106 : decode cX2_walk 106 = .ok (.iload 5, 2) := by decide +kernel
theorem dX2_walk_108 : decode cX2_walk 108 = .ok (.ishl, 1) := by decide +kernel
theorem dX2_walk_109 : decode cX2_walk 109 = .ok (.ior, 1) := by decide +kernel
theorem dX2_walk_110 : decode cX2_walk 110 = .ok (.aload_n 0, 1) := by decide +kernel
theorem dX2_walk_111 : decode cX2_walk 111 = .ok (.iload_n 1, 1) := by decide +kernel
theorem dX2_walk_112 : decode cX2_walk 112 = .ok (.iload_n 2, 1) := by decide +kernel
theorem dX2_walk_113 : decode cX2_walk 113 = .ok (.iload 5, 2) := by decide +kernel
theorem dX2_walk_115 : decode cX2_walk 115 = .ok (.invokevirtual 58, 3) := by decide +kernel
theorem dX2_walk_118 : decode cX2_walk 118 = .ok (.invokevirtual 62, 3) := by decide +kernel
theorem dX2_walk_121 : decode cX2_walk 121 = .ok (.iinc 5 1, 3) := by decide +kernel
theorem dX2_walk_124 : decode cX2_walk 124 = .ok (.goto (-66), 3) := by decide +kernel
theorem dX2_walk_127 : decode cX2_walk 127 = .ok (.return_, 1) := by decide +kernel
theorem dX2_spread_0 : decode cX2_spread 0 = .ok (.iconst 1, 1) := by decide +kernel
theorem dX2_spread_1 : decode cX2_spread 1 = .ok (.iload_n 1, 1) := by decide +kernel
theorem dX2_spread_2 : decode cX2_spread 2 = .ok (.ishl, 1) := by decide +kernel
theorem dX2_spread_3 : decode cX2_spread 3 = .ok (.istore 4, 2) := by decide +kernel
theorem dX2_spread_5 : decode cX2_spread 5 = .ok (.iload 4, 2) := by decide +kernel
theorem dX2_spread_7 : decode cX2_spread 7 = .ok (.iconst 2, 1) := by decide +kernel
theorem dX2_spread_8 : decode cX2_spread 8 = .ok (.imul, 1) := by decide +kernel
theorem dX2_spread_9 : decode cX2_spread 9 = .ok (.istore 5, 2) := by decide +kernel
theorem dX2_spread_11 : decode cX2_spread 11 = .ok (.iconst 0, 1) := by decide +kernel
theorem dX2_spread_12 : decode cX2_spread 12 = .ok (.istore 6, 2) := by decide +kernel
theorem dX2_spread_14 : decode cX2_spread 14 = .ok (.iconst 0, 1) := by decide +kernel
theorem dX2_spread_15 : decode cX2_spread 15 = .ok (.istore 7, 2) := by decide +kernel
theorem dX2_spread_17 : decode cX2_spread 17 = .ok (.aload_n 0, 1) := by decide +kernel
theorem dX2_spread_18 : decode cX2_spread 18 = .ok (.iconst 0, 1) := by decide +kernel
theorem dX2_spread_19 : decode cX2_spread 19 = .ok (.putfield 35, 3) := by decide +kernel
theorem dX2_spread_22 : decode cX2_spread 22 = .ok (.iconst 0, 1) := by decide +kernel
theorem dX2_spread_23 : decode cX2_spread 23 = .ok (.istore 8, 2) := by decide +kernel
theorem dX2_spread_25 : decode cX2_spread 25 = .ok (.iload 8, 2) := by decide +kernel
theorem dX2_spread_27 : decode cX2_spread 27 = .ok (.aload_n 0, 1) := by decide +kernel
theorem dX2_spread_28 : decode cX2_spread 28 = .ok (.getfield 18, 3) := by decide +kernel
theorem dX2_spread_31 : decode cX2_spread 31 = .ok (.iload_n 1, 1) := by decide +kernel
theorem dX2_spread_32 : decode cX2_spread 32 = .ok (.iaload, 1) := by decide +kernel
theorem dX2_spread_33 : decode cX2_spread 33 = .ok (.if_icmp .ge 200, 3) := by decide +kernel
theorem dX2_spread_36 : decode cX2_spread 36 = .ok (.aload_n 0, 1) := by decide +kernel
theorem dX2_spread_37 : decode cX2_spread 37 = .ok (.getfield 42, 3) := by decide +kernel
theorem dX2_spread_40 : decode cX2_spread 40 = .ok (.aload_n 0, 1) := by decide +kernel
theorem dX2_spread_41 : decode cX2_spread 41 = .ok (.getfield 11, 3) := by decide +kernel
theorem dX2_spread_44 : decode cX2_spread 44 = .ok (.iload 4, 2) := by decide +kernel
theorem dX2_spread_46 : decode cX2_spread 46 = .ok (.iload 8, 2) := by decide +kernel
theorem dX2_spread_48 : decode cX2_spread 48 = .ok (.iadd, 1) := by decide +kernel
theorem dX2_spread_49 : decode cX2_spread 49 = .ok (.iaload, 1) := by decide +kernel
theorem dX2_spread_50 : decode cX2_spread 50 = .ok (.iload_n 2, 1) := by decide +kernel
theorem dX2_spread_51 : decode cX2_spread 51 = .ok (.aload_n 0, 1) := by decide +kernel
theorem dX2_spread_52 : decode cX2_spread 52 = .ok (.getfield 27, 3) := by decide +kernel
theorem dX2_spread_55 : decode cX2_spread 55 = .ok (.iload_n 3, 1) := by decide +kernel
theorem dX2_spread_56 : decode cX2_spread 56 = .ok (.invokevirtual 72, 3) := by decide +kernel
theorem dX2_spread_59 : decode cX2_spread 59 = .ok (.istore 9, 2) := by decide +kernel
theorem dX2_spread_61 : decode cX2_spread 61 = .ok (.iconst 0, 1) := by decide +kernel
theorem dX2_spread_62 : decode cX2_spread 62 = .ok (.istore 10, 2) := by decide +kernel
theorem dX2_spread_64 : decode cX2_spread 64 = .ok (.iload 10, 2) := by decide +kernel
theorem dX2_spread_66 : decode cX2_spread 66 = .ok (.iconst 2, 1) := by decide +kernel
theorem dX2_spread_67 : decode cX2_spread 67 = .ok (.if_icmp .ge 160, 3) := by decide +kernel
theorem dX2_spread_70 : decode cX2_spread 70 = .ok (.aload_n 0, 1) := by decide +kernel
theorem dX2_spread_71 : decode cX2_spread 71 = .ok (.getfield 15, 3) := by decide +kernel
theorem dX2_spread_74 : decode cX2_spread 74 = .ok (.iload 4, 2) := by decide +kernel
theorem dX2_spread_76 : decode cX2_spread 76 = .ok (.iload 8, 2) := by decide +kernel
theorem dX2_spread_78 : decode cX2_spread 78 = .ok (.iadd, 1) := by decide +kernel
theorem dX2_spread_79 : decode cX2_spread 79 = .ok (.iaload, 1) := by decide +kernel
theorem dX2_spread_80 : decode cX2_spread 80 = .ok (.iload 10, 2) := by decide +kernel
theorem dX2_spread_82 : decode cX2_spread 82 = .ok (.ifCond .ne 15, 3) := by decide +kernel
theorem dX2_spread_85 : decode cX2_spread 85 = .ok (.iconst 4, 1) := by decide +kernel
theorem dX2_spread_86 : decode cX2_spread 86 = .ok (.aload_n 0, 1) := by decide +kernel
theorem dX2_spread_87 : decode cX2_spread 87 = .ok (.getfield 42, 3) := by decide +kernel
theorem dX2_spread_90 : decode cX2_spread 90 = .ok (.getfield 78, 3) := by decide +kernel
theorem dX2_spread_93 : decode cX2_spread 93 = .ok (.isub, 1) := by decide +kernel
theorem dX2_spread_94 : decode cX2_spread 94 = .ok (.goto 10, 3) := by decide +kernel
theorem dX2_spread_97 : decode cX2_spread 97 = .ok (.aload_n 0, 1) := by decide +kernel
theorem dX2_spread_98 : decode cX2_spread 98 = .ok (.getfield 42, 3) := by decide +kernel
theorem dX2_spread_101 : decode cX2_spread 101 = .ok (.getfield 78, 3) := by decide +kernel
theorem dX2_spread_104 : decode cX2_spread 104 = .ok (.imul, 1) := by decide +kernel
theorem dX2_spread_105 : decode cX2_spread 105 = .ok (.istore 11, 2) := by decide +kernel
theorem dX2_spread_107 : decode cX2_spread 107 = .ok (.aload_n 0, 1) := by decide +kernel
theorem dX2_spread_108 : decode cX2_spread 108 = .ok (.getfield 42, 3) := by decide +kernel
theorem dX2_spread_111 : decode cX2_spread 111 = .ok (.iload 9, 2) := by decide +kernel
theorem dX2_spread_113 : decode cX2_spread 113 = .ok (.invokevirtual 81, 3) := by decide +kernel
theorem dX2_spread_116 : decode cX2_spread 116 = .ok (.istore 12, 2) := by decide +kernel
theorem dX2_spread_118 : decode cX2_spread 118 = .ok (.iload 11, 2) := by decide +kernel
theorem dX2_spread_120 : decode cX2_spread 120 = .ok (.ifCond .le 87, 3) := by decide +kernel
theorem dX2_spread_123 : decode cX2_spread 123 = .ok (.aload_n 0, 1) := by decide +kernel
theorem dX2_spread_124 : decode cX2_spread 124 = .ok (.getfield 31, 3) := by decide +kernel
theorem dX2_spread_127 : decode cX2_spread 127 = .ok (.ifCond .ne 17, 3) := by decide +kernel
theorem dX2_spread_130 : decode cX2_spread 130 = .ok (.iload 12, 2) := by decide +kernel
theorem dX2_spread_132 : decode cX2_spread 132 = .ok (.aload_n 0, 1) := by decide +kernel
theorem dX2_spread_133 : decode cX2_spread 133 = .ok (.getfield 27, 3) := by decide +kernel
theorem dX2_spread_136 : decode cX2_spread 136 = .ok (.getfield 85, 3) := by decide +kernel
theorem dX2_spread_139 : decode cX2_spread 139 = .ok (.iload_n 3, 1) := by decide +kernel
theorem dX2_spread_140 : decode cX2_spread 140 = .ok (.iaload, 1) := by decide +kernel
theorem dX2_spread_141 : decode cX2_spread 141 = .ok (.if_icmp .gt 66, 3) := by decide +kernel
theorem dX2_spread_144 : decode cX2_spread 144 = .ok (.aload_n 0, 1) := by decide +kernel
theorem dX2_spread_145 : decode cX2_spread 145 = .ok (.getfield 11, 3) := by decide +kernel
theorem dX2_spread_148 : decode cX2_spread 148 = .ok (.iload 5, 2) := by decide +kernel
theorem dX2_spread_150 : decode cX2_spread 150 = .ok (.iload 6, 2) := by decide +kernel
theorem dX2_spread_152 : decode cX2_spread 152 = .ok (.iadd, 1) := by decide +kernel
theorem dX2_spread_153 : decode cX2_spread 153 = .ok (.iload 9, 2) := by decide +kernel
theorem dX2_spread_155 : decode cX2_spread 155 = .ok (.iastore, 1) := by decide +kernel
theorem dX2_spread_156 : decode cX2_spread 156 = .ok (.aload_n 0, 1) := by decide +kernel
theorem dX2_spread_157 : decode cX2_spread 157 = .ok (.getfield 15, 3) := by decide +kernel
theorem dX2_spread_160 : decode cX2_spread 160 = .ok (.iload 5, 2) := by decide +kernel
theorem dX2_spread_162 : decode cX2_spread 162 = .ok (.iload 6, 2) := by decide +kernel
theorem dX2_spread_164 : decode cX2_spread 164 = .ok (.iadd, 1) := by decide +kernel
theorem dX2_spread_165 : decode cX2_spread 165 = .ok (.iload 11, 2) := by decide +kernel
theorem dX2_spread_167 : decode cX2_spread 167 = .ok (.iastore, 1) := by decide +kernel
theorem dX2_spread_168 : decode cX2_spread 168 = .ok (.iinc 6 1, 3) := by decide +kernel
theorem dX2_spread_171 : decode cX2_spread 171 = .ok (.iload 7, 2) := by decide +kernel
theorem dX2_spread_173 : decode cX2_spread 173 = .ok (.iload 11, 2) := by decide +kernel
theorem dX2_spread_175 : decode cX2_spread 175 = .ok (.iadd, 1) := by decide +kernel
theorem dX2_spread_176 : decode cX2_spread 176 = .ok (.istore 7, 2) := by decide +kernel
theorem dX2_spread_178 : decode cX2_spread 178 = .ok (.aload_n 0, 1) := by decide +kernel
theorem dX2_spread_179 : decode cX2_spread 179 = .ok (.dup, 1) := by decide +kernel
theorem dX2_spread_180 : decode cX2_spread 180 = .ok (.getfield 35, 3) := by decide +kernel
theorem dX2_spread_183 : decode cX2_spread 183 = .ok (.iload 11, 2) := by decide +kernel
theorem dX2_spread_185 : decode cX2_spread 185 = .ok (.aload_n 0, 1) := by decide +kernel
theorem dX2_spread_186 : decode cX2_spread 186 = .ok (.getfield 27, 3) := by decide +kernel
theorem dX2_spread_189 : decode cX2_spread 189 = .ok (.iload_n 3, 1) := by decide +kernel
theorem dX2_spread_190 : decode cX2_spread 190 = .ok (.iload 12, 2) := by decide +kernel
theorem dX2_spread_192 : decode cX2_spread 192 = .ok (.aload_n 0, 1) := by decide +kernel
theorem dX2_spread_193 : decode cX2_spread 193 = .ok (.getfield 42, 3) := by decide +kernel
theorem dX2_spread_196 : decode cX2_spread 196 = .ok (.getfield 88, 3) := by decide +kernel
theorem dX2_spread_199 : decode cX2_spread 199 = .ok (.invokevirtual 91, 3) := by decide +kernel
theorem dX2_spread_202 : decode cX2_spread 202 = .ok (.imul, 1) := by decide +kernel
theorem dX2_spread_203 : decode cX2_spread 203 = .ok (.iadd, 1) := by decide +kernel
theorem dX2_spread_204 : decode cX2_spread 204 = .ok (.putfield 35, 3) := by decide +kernel
theorem dX2_spread_207 : decode cX2_spread 207 = .ok (.iload 9, 2) := by decide +kernel
theorem dX2_spread_209 : decode cX2_spread 209 = .ok (.aload_n 0, 1) := by decide +kernel
theorem dX2_spread_210 : decode cX2_spread 210 = .ok (.getfield 27, 3) := by decide +kernel
theorem dX2_spread_213 : decode cX2_spread 213 = .ok (.getfield 94, 3) := by decide +kernel
theorem dX2_spread_216 : decode cX2_spread 216 = .ok (.iload_n 3, 1) := by decide +kernel
theorem dX2_spread_217 : decode cX2_spread 217 = .ok (.iaload, 1) := by decide +kernel
theorem dX2_spread_218 : decode cX2_spread 218 = .ok (.iadd, 1) := by decide +kernel
theorem dX2_spread_219 : decode cX2_spread 219 = .ok (.istore 9, 2) := by decide +kernel
theorem dX2_spread_221 : decode cX2_spread 221 = .ok (.iinc 10 1, 3) := by decide +kernel
theorem dX2_spread_224 : decode cX2_spread 224 = .ok (.goto (-160), 3) := by decide +kernel
theorem dX2_spread_227 : decode cX2_spread 227 = .ok (.iinc 8 1, 3) := by decide +kernel
theorem dX2_spread_230 : decode cX2_spread 230 = .ok (.goto (-205), 3) := by decide +kernel
theorem dX2_spread_233 : decode cX2_spread 233 = .ok (.aload_n 0, 1) := by decide +kernel
theorem dX2_spread_234 : decode cX2_spread 234 = .ok (.getfield 18, 3) := by decide +kernel
theorem dX2_spread_237 : decode cX2_spread 237 = .ok (.iload_n 1, 1) := by decide +kernel
theorem dX2_spread_238 : decode cX2_spread 238 = .ok (.iconst 1, 1) := by decide +kernel
theorem dX2_spread_239 : decode cX2_spread 239 = .ok (.iadd, 1) := by decide +kernel
theorem dX2_spread_240 : decode cX2_spread 240 = .ok (.iload 6, 2) := by decide +kernel
theorem dX2_spread_242 : decode cX2_spread 242 = .ok (.iastore, 1) := by decide +kernel
theorem dX2_spread_243 : decode cX2_spread 243 = .ok (.iload 7, 2) := by decide +kernel
theorem dX2_spread_245 : decode cX2_spread 245 = .ok (.ireturn, 1) := by decide +kernel
theorem dX3_init_0 : decode cX3_init 0 = .ok (.aload_n 0, 1) := by decide +kernel
theorem dX3_init_1 : decode cX3_init 1 = .ok (.invokespecial 5, 3) := by decide +kernel
theorem dX3_init_4 : decode cX3_init 4 = .ok (.aload_n 0, 1) := by decide +kernel
theorem dX3_init_5 : decode cX3_init 5 = .ok (.bipush 127, 2) := by decide +kernel
theorem dX3_init_7 : decode cX3_init 7 = .ok (.newarray .int, 2) := by decide +kernel
theorem dX3_init_9 : decode cX3_init 9 = .ok (.putfield 11, 3) := by decide +kernel
theorem dX3_init_12 : decode cX3_init 12 = .ok (.aload_n 0, 1) := by decide +kernel
theorem dX3_init_13 : decode cX3_init 13 = .ok (.bipush 6, 2) := by decide +kernel
theorem dX3_init_15 : decode cX3_init 15 = .ok (.newarray .int, 2) := by decide +kernel
theorem dX3_init_17 : decode cX3_init 17 = .ok (.putfield 15, 3) := by decide +kernel
theorem dX3_init_20 : decode cX3_init 20 = .ok (.aload_n 0, 1) := by decide +kernel
theorem dX3_init_21 : decode cX3_init 21 = .ok (.iconst 0, 1) := by decide +kernel
theorem dX3_init_22 : decode cX3_init 22 = .ok (.putfield 18, 3) := by decide +kernel
theorem dX3_init_25 : decode cX3_init 25 = .ok (.aload_n 0, 1) := by decide +kernel
theorem dX3_init_26 : decode cX3_init 26 = .ok (.iconst 0, 1) := by decide +kernel
theorem dX3_init_27 : decode cX3_init 27 = .ok (.putfield 22, 3) := by decide +kernel
theorem dX3_init_30 : decode cX3_init 30 = .ok (.aload_n 0, 1) := by decide +kernel
theorem dX3_init_31 : decode cX3_init 31 = .ok (.iconst 0, 1) := by decide +kernel
theorem dX3_init_32 : decode cX3_init 32 = .ok (.putfield 25, 3) := by decide +kernel
theorem dX3_init_35 : decode cX3_init 35 = .ok (.aload_n 0, 1) := by decide +kernel
theorem dX3_init_36 : decode cX3_init 36 = .ok (.iconst 0, 1) := by decide +kernel
theorem dX3_init_37 : decode cX3_init 37 = .ok (.putfield 28, 3) := by decide +kernel
theorem dX3_init_40 : decode cX3_init 40 = .ok (.aload_n 0, 1) := by decide +kernel
theorem dX3_init_41 : decode cX3_init 41 = .ok (.iconst 0, 1) := by decide +kernel
theorem dX3_init_42 : decode cX3_init 42 = .ok (.putfield 31, 3) := by decide +kernel
theorem dX3_init_45 : decode cX3_init 45 = .ok (.return_, 1) := by decide +kernel
theorem dX3_measure_0 : decode cX3_measure 0 = .ok (.aload_n 0, 1) := by decide +kernel
theorem dX3_measure_1 : decode cX3_measure 1 = .ok (.aload_n 1, 1) := by decide +kernel
theorem dX3_measure_2 : decode cX3_measure 2 = .ok (.getfield 34, 3) := by decide +kernel
theorem dX3_measure_5 : decode cX3_measure 5 = .ok (.iconst 2, 1) := by decide +kernel
theorem dX3_measure_6 : decode cX3_measure 6 = .ok (.iaload, 1) := by decide +kernel
theorem dX3_measure_7 : decode cX3_measure 7 = .ok (.putfield 18, 3) := by decide +kernel
theorem dX3_measure_10 : decode cX3_measure 10 = .ok (.aload_n 0, 1) := by decide +kernel
theorem dX3_measure_11 : decode cX3_measure 11 = .ok (.aload_n 1, 1) := by decide +kernel
theorem dX3_measure_12 : decode cX3_measure 12 = .ok (.getfield 34, 3) := by decide +kernel
theorem dX3_measure_15 : decode cX3_measure 15 = .ok (.iconst 3, 1) := by decide +kernel
theorem dX3_measure_16 : decode cX3_measure 16 = .ok (.iaload, 1) := by decide +kernel
theorem dX3_measure_17 : decode cX3_measure 17 = .ok (.putfield 22, 3) := by decide +kernel
theorem dX3_measure_20 : decode cX3_measure 20 = .ok (.aload_n 0, 1) := by decide +kernel
theorem dX3_measure_21 : decode cX3_measure 21 = .ok (.aload_n 1, 1) := by decide +kernel
theorem dX3_measure_22 : decode cX3_measure 22 = .ok (.getfield 34, 3) := by decide +kernel
theorem dX3_measure_25 : decode cX3_measure 25 = .ok (.iconst 1, 1) := by decide +kernel
theorem dX3_measure_26 : decode cX3_measure 26 = .ok (.iaload, 1) := by decide +kernel
theorem dX3_measure_27 : decode cX3_measure 27 = .ok (.putfield 25, 3) := by decide +kernel
theorem dX3_measure_30 : decode cX3_measure 30 = .ok (.aload_n 0, 1) := by decide +kernel
theorem dX3_measure_31 : decode cX3_measure 31 = .ok (.aload_n 1, 1) := by decide +kernel
theorem dX3_measure_32 : decode cX3_measure 32 = .ok (.getfield 39, 3) := by decide +kernel
theorem dX3_measure_35 : decode cX3_measure 35 = .ok (.putfield 28, 3) := by decide +kernel
theorem dX3_measure_38 : decode cX3_measure 38 = .ok (.aload_n 0, 1) := by decide +kernel
theorem dX3_measure_39 : decode cX3_measure 39 = .ok (.aload_n 1, 1) := by decide +kernel
theorem dX3_measure_40 : decode cX3_measure 40 = .ok (.getfield 40, 3) := by decide +kernel
theorem dX3_measure_43 : decode cX3_measure 43 = .ok (.putfield 31, 3) := by decide +kernel
theorem dX3_measure_46 : decode cX3_measure 46 = .ok (.iconst 0, 1) := by decide +kernel
theorem dX3_measure_47 : decode cX3_measure 47 = .ok (.istore_n 3, 1) := by decide +kernel
theorem dX3_measure_48 : decode cX3_measure 48 = .ok (.aload_n 1, 1) := by decide +kernel
theorem dX3_measure_49 : decode cX3_measure 49 = .ok (.getfield 41, 3) := by decide +kernel
theorem dX3_measure_52 : decode cX3_measure 52 = .ok (.istore 4, 2) := by decide +kernel
theorem dX3_measure_54 : decode cX3_measure 54 = .ok (.iload 4, 2) := by decide +kernel
theorem dX3_measure_56 : decode cX3_measure 56 = .ok (.sipush 186, 3) := by decide +kernel
theorem dX3_measure_59 : decode cX3_measure 59 = .ok (.if_icmp .gt 73, 3) := by decide +kernel
theorem dX3_measure_62 : decode cX3_measure 62 = .ok (.iload_n 3, 1) := by decide +kernel
theorem dX3_measure_63 : decode cX3_measure 63 = .ok (.bipush 126, 2) := by decide +kernel
theorem dX3_measure_65 : decode cX3_measure 65 = .ok (.if_icmp .ge 67, 3) := by decide +kernel
theorem dX3_measure_68 : decode cX3_measure 68 = .ok (.aload_n 1, 1) := by decide +kernel
theorem dX3_measure_69 : decode cX3_measure 69 = .ok (.iload 4, 2) := by decide +kernel
theorem dX3_measure_71 : decode cX3_measure 71 = .ok (.invokevirtual 44, 3) := by decide +kernel
theorem dX3_measure_74 : decode cX3_measure 74 = .ok (.iload 4, 2) := by decide +kernel
theorem dX3_measure_76 : decode cX3_measure 76 = .ok (.aload_n 1, 1) := by decide +kernel
theorem dX3_measure_77 : decode cX3_measure 77 = .ok (.getfield 41, 3) := by decide +kernel
theorem dX3_measure_80 : decode cX3_measure 80 = .ok (.isub, 1) := by decide +kernel
theorem dX3_measure_81 : decode cX3_measure 81 = .ok (.iload_n 2, 1) := by decide +kernel
theorem dX3_measure_82 : decode cX3_measure 82 = .ok (.if_icmp .ge 7, 3) := by decide +kernel
theorem dX3_measure_85 : decode cX3_measure 85 = .ok (.iconst 1, 1) := by decide +kernel
theorem dX3_measure_86 : decode cX3_measure 86 = .ok (.goto 4, 3) := by decide +kernel
theorem dX3_measure_89 : decode cX3_measure 89 = .ok (.iconst 0, 1) := by decide +kernel
theorem dX3_measure_90 : decode cX3_measure 90 = .ok (.iadd, 1) := by decide +kernel
theorem dX3_measure_91 : decode cX3_measure 91 = .ok (.istore 5, 2) := by decide +kernel
theorem dX3_measure_93 : decode cX3_measure 93 = .ok (.iconst 0, 1) := by decide +kernel
theorem dX3_measure_94 : decode cX3_measure 94 = .ok (.istore 6, 2) := by decide +kernel
theorem dX3_measure_96 : decode cX3_measure 96 = .ok (.iload 6, 2) := by decide +kernel
theorem dX3_measure_98 : decode cX3_measure 98 = .ok (.iload 5, 2) := by decide +kernel
theorem dX3_measure_100 : decode cX3_measure 100 = .ok (.if_icmp .ge 26, 3) := by decide +kernel
theorem dX3_measure_103 : decode cX3_measure 103 = .ok (.iload_n 3, 1) := by decide +kernel
theorem dX3_measure_104 : decode cX3_measure 104 = .ok (.bipush 126, 2) := by decide +kernel
theorem dX3_measure_106 : decode cX3_measure 106 = .ok (.if_icmp .ge 20, 3) := by decide +kernel
theorem dX3_measure_109 : decode cX3_measure 109 = .ok (.iinc 3 1, 3) := by decide +kernel
theorem dX3_measure_112 : decode cX3_measure 112 = .ok (.aload_n 0, 1) := by decide +kernel
theorem dX3_measure_113 : decode cX3_measure 113 = .ok (.getfield 11, 3) := by decide +kernel
theorem dX3_measure_116 : decode cX3_measure 116 = .ok (.iload_n 3, 1) := by decide +kernel
theorem dX3_measure_117 : decode cX3_measure 117 = .ok (.iload 4, 2) := by decide +kernel
theorem dX3_measure_119 : decode cX3_measure 119 = .ok (.iastore, 1) := by decide +kernel
theorem dX3_measure_120 : decode cX3_measure 120 = .ok (.iinc 6 1, 3) := by decide +kernel
theorem dX3_measure_123 : decode cX3_measure 123 = .ok (.goto (-27), 3) := by decide +kernel
theorem dX3_measure_126 : decode cX3_measure 126 = .ok (.iinc 4 1, 3) := by decide +kernel
theorem dX3_measure_129 : decode cX3_measure 129 = .ok (.goto (-75), 3) := by decide +kernel
theorem dX3_measure_132 : decode cX3_measure 132 = .ok (.return_, 1) := by decide +kernel
theorem dX3_usedBehind_0 : decode cX3_usedBehind 0 = .ok (.aload_n 3, 1) := by decide +kernel
theorem dX3_usedBehind_1 : decode cX3_usedBehind 1 = .ok (.getfield 48, 3) := by decide +kernel
theorem dX3_usedBehind_4 : decode cX3_usedBehind 4 = .ok (.iload 4, 2) := by decide +kernel
theorem dX3_usedBehind_6 : decode cX3_usedBehind 6 = .ok (.iaload, 1) := by decide +kernel
theorem dX3_usedBehind_7 : decode cX3_usedBehind 7 = .ok (.istore 5, 2) := by decide +kernel
theorem dX3_usedBehind_9 : decode cX3_usedBehind 9 = .ok (.iload 5, 2) := by decide +kernel
theorem dX3_usedBehind_11 : decode cX3_usedBehind 11 = .ok (.iload_n 2, 1) := by decide +kernel
theorem dX3_usedBehind_12 : decode cX3_usedBehind 12 = .ok (.if_icmp .ne 7, 3) := by decide +kernel
theorem dX3_usedBehind_15 : decode cX3_usedBehind 15 = .ok (.iconst 0, 1) := by decide +kernel
theorem dX3_usedBehind_16 : decode cX3_usedBehind 16 = .ok (.goto 7, 3) := by decide +kernel
theorem dX3_usedBehind_19 : decode cX3_usedBehind 19 = .ok (.aload_n 0, 1) := by decide +kernel
theorem dX3_usedBehind_20 : decode cX3_usedBehind 20 = .ok (.getfield 25, 3) := by decide +kernel
theorem dX3_usedBehind_23 : decode cX3_usedBehind 23 = .ok (.istore 6, 2) := by decide +kernel
theorem dX3_usedBehind_25 : decode cX3_usedBehind 25 = .ok (.iload_n 1, 1) := by decide +kernel
theorem dX3_usedBehind_26 : decode cX3_usedBehind 26 = .ok (.ifCond .ne 25, 3) := by decide +kernel
theorem dX3_usedBehind_29 : decode cX3_usedBehind 29 = .ok (.iload 5, 2) := by decide +kernel
theorem dX3_usedBehind_31 : decode cX3_usedBehind 31 = .ok (.aload_n 0, 1) := by decide +kernel
theorem dX3_usedBehind_32 : decode cX3_usedBehind 32 = .ok (.getfield 28, 3) := by decide +kernel
theorem dX3_usedBehind_35 : decode cX3_usedBehind 35 = .ok (.if_icmp .ne 10, 3) := by decide +kernel
theorem dX3_usedBehind_38 : decode cX3_usedBehind 38 = .ok (.aload_n 0, 1) := by decide +kernel
theorem dX3_usedBehind_39 : decode cX3_usedBehind 39 = .ok (.getfield 31, 3) := by decide +kernel
theorem dX3_usedBehind_42 : decode cX3_usedBehind 42 = .ok (.goto 7, 3) := by decide +kernel
theorem dX3_usedBehind_45 : decode cX3_usedBehind 45 = .ok (.aload_n 0, 1) := by decide +kernel
theorem dX3_usedBehind_46 : decode cX3_usedBehind 46 = .ok (.getfield 25, 3) := by decide +kernel
theorem dX3_usedBehind_49 : decode cX3_usedBehind 49 = .ok (.istore 6, 2) := by decide +kernel
theorem dX3_usedBehind_51 : decode cX3_usedBehind 51 = .ok (.iload_n 1, 1) := by decide +kernel
theorem dX3_usedBehind_52 : decode cX3_usedBehind 52 = .ok (.iload 6, 2) := by decide +kernel
theorem dX3_usedBehind_54 : decode cX3_usedBehind 54 = .ok (.iadd, 1) := by decide +kernel
theorem dX3_usedBehind_55 : decode cX3_usedBehind 55 = .ok (.aload_n 3, 1) := by decide +kernel
theorem dX3_usedBehind_56 : decode cX3_usedBehind 56 = .ok (.getfield 52, 3) := by decide +kernel
theorem dX3_usedBehind_59 : decode cX3_usedBehind 59 = .ok (.iload 4, 2) := by decide +kernel
theorem dX3_usedBehind_61 : decode cX3_usedBehind 61 = .ok (.iaload, 1) := by decide +kernel
theorem dX3_usedBehind_62 : decode cX3_usedBehind 62 = .ok (.iadd, 1) := by decide +kernel
theorem dX3_usedBehind_63 : decode cX3_usedBehind 63 = .ok (.ireturn, 1) := by decide +kernel
theorem dX3_dayAt_0 : decode cX3_dayAt 0 = .ok (.aload_n 0, 1) := by decide +kernel
theorem dX3_dayAt_1 : decode cX3_dayAt 1 = .ok (.getfield 11, 3) := by decide +kernel
theorem dX3_dayAt_4 : decode cX3_dayAt 4 = .ok (.iconst 0, 1) := by decide +kernel
theorem dX3_dayAt_5 : decode cX3_dayAt 5 = .ok (.iload_n 1, 1) := by decide +kernel
theorem dX3_dayAt_6 : decode cX3_dayAt 6 = .ok (.bipush 126, 2) := by decide +kernel
theorem dX3_dayAt_8 : decode cX3_dayAt 8 = .ok (.invokestatic 55, 3) := by decide +kernel
theorem dX3_dayAt_11 : decode cX3_dayAt 11 = .ok (.invokestatic 61, 3) := by decide +kernel
theorem dX3_dayAt_14 : decode cX3_dayAt 14 = .ok (.iaload, 1) := by decide +kernel
theorem dX3_dayAt_15 : decode cX3_dayAt 15 = .ok (.ireturn, 1) := by decide +kernel
theorem dX3_follow_0 : decode cX3_follow 0 = .ok (.iconst 0, 1) := by decide +kernel
theorem dX3_follow_1 : decode cX3_follow 1 = .ok (.istore_n 3, 1) := by decide +kernel
theorem dX3_follow_2 : decode cX3_follow 2 = .ok (.iconst 0, 1) := by decide +kernel
theorem dX3_follow_3 : decode cX3_follow 3 = .ok (.istore 4, 2) := by decide +kernel
theorem dX3_follow_5 : decode cX3_follow 5 = .ok (.iconst 0, 1) := by decide +kernel
theorem dX3_follow_6 : decode cX3_follow 6 = .ok (.istore 5, 2) := by decide +kernel
theorem dX3_follow_8 : decode cX3_follow 8 = .ok (.iload 5, 2) := by decide +kernel
theorem dX3_follow_10 : decode cX3_follow 10 = .ok (.aload_n 1, 1) := by decide +kernel
theorem dX3_follow_11 : decode cX3_follow 11 = .ok (.getfield 64, 3) := by decide +kernel
theorem dX3_follow_14 : decode cX3_follow 14 = .ok (.if_icmp .ge 47, 3) := by decide +kernel
theorem dX3_follow_17 : decode cX3_follow 17 = .ok (.aload_n 2, 1) := by decide +kernel
theorem dX3_follow_18 : decode cX3_follow 18 = .ok (.iload 5, 2) := by decide +kernel
theorem dX3_follow_20 : decode cX3_follow 20 = .ok (.iaload, 1) := by decide +kernel
theorem dX3_follow_21 : decode cX3_follow 21 = .ok (.istore 6, 2) := by decide +kernel
theorem dX3_follow_23 : decode cX3_follow 23 = .ok (.aload_n 0, 1) := by decide +kernel
theorem dX3_follow_24 : decode cX3_follow 24 = .ok (.iload_n 3, 1) := by decide +kernel
theorem dX3_follow_25 : decode cX3_follow 25 = .ok (.iload 4, 2) := by decide +kernel
theorem dX3_follow_27 : decode cX3_follow 27 = .ok (.aload_n 1, 1) := by decide +kernel
theorem dX3_follow_28 : decode cX3_follow 28 = .ok (.iload 6, 2) := by decide +kernel
theorem dX3_follow_30 : decode cX3_follow 30 = .ok (.invokevirtual 67, 3) := by decide +kernel
theorem dX3_follow_33 : decode cX3_follow 33 = .ok (.istore_n 3, 1) := by decide +kernel
theorem dX3_follow_34 : decode cX3_follow 34 = .ok (.aload_n 1, 1) := by decide +kernel
theorem dX3_follow_35 : decode cX3_follow 35 = .ok (.getfield 48, 3) := by decide +kernel
theorem dX3_follow_38 : decode cX3_follow 38 = .ok (.iload 6, 2) := by decide +kernel
theorem dX3_follow_40 : decode cX3_follow 40 = .ok (.iaload, 1) := by decide +kernel
theorem dX3_follow_41 : decode cX3_follow 41 = .ok (.istore 4, 2) := by decide +kernel
theorem dX3_follow_43 : decode cX3_follow 43 = .ok (.aload_n 0, 1) := by decide +kernel
theorem dX3_follow_44 : decode cX3_follow 44 = .ok (.getfield 15, 3) := by decide +kernel
theorem dX3_follow_47 : decode cX3_follow 47 = .ok (.iload 6, 2) := by decide +kernel
theorem dX3_follow_49 : decode cX3_follow 49 = .ok (.aload_n 0, 1) := by decide +kernel
theorem dX3_follow_50 : decode cX3_follow 50 = .ok (.iload_n 3, 1) := by decide +kernel
theorem dX3_follow_51 : decode cX3_follow 51 = .ok (.invokevirtual 71, 3) := by decide +kernel
theorem dX3_follow_54 : decode cX3_follow 54 = .ok (.iastore, 1) := by decide +kernel
theorem dX3_follow_55 : decode cX3_follow 55 = .ok (.iinc 5 1, 3) := by decide +kernel
theorem dX3_follow_58 : decode cX3_follow 58 = .ok (.goto (-50), 3) := by decide +kernel
theorem dX3_follow_61 : decode cX3_follow 61 = .ok (.return_, 1) := by decide +kernel
theorem dX4_init_0 : decode cX4_init 0 = .ok (.aload_n 0, 1) := by decide +kernel
theorem dX4_init_1 : decode cX4_init 1 = .ok (.invokespecial 3, 3) := by decide +kernel
theorem dX4_init_4 : decode cX4_init 4 = .ok (.aload_n 0, 1) := by decide +kernel
theorem dX4_init_5 : decode cX4_init 5 = .ok (.iconst 0, 1) := by decide +kernel
theorem dX4_init_6 : decode cX4_init 6 = .ok (.putfield 9, 3) := by decide +kernel
theorem dX4_init_9 : decode cX4_init 9 = .ok (.aload_n 0, 1) := by decide +kernel
theorem dX4_init_10 : decode cX4_init 10 = .ok (.bipush 6, 2) := by decide +kernel
theorem dX4_init_12 : decode cX4_init 12 = .ok (.newarray .int, 2) := by decide +kernel
theorem dX4_init_14 : decode cX4_init 14 = .ok (.putfield 15, 3) := by decide +kernel
theorem dX4_init_17 : decode cX4_init 17 = .ok (.aload_n 0, 1) := by decide +kernel
theorem dX4_init_18 : decode cX4_init 18 = .ok (.bipush 6, 2) := by decide +kernel
theorem dX4_init_20 : decode cX4_init 20 = .ok (.newarray .int, 2) := by decide +kernel
theorem dX4_init_22 : decode cX4_init 22 = .ok (.putfield 19, 3) := by decide +kernel
theorem dX4_init_25 : decode cX4_init 25 = .ok (.aload_n 0, 1) := by decide +kernel
theorem dX4_init_26 : decode cX4_init 26 = .ok (.bipush 6, 2) := by decide +kernel
theorem dX4_init_28 : decode cX4_init 28 = .ok (.newarray .int, 2) := by decide +kernel
theorem dX4_init_30 : decode cX4_init 30 = .ok (.putfield 22, 3) := by decide +kernel
theorem dX4_init_33 : decode cX4_init 33 = .ok (.aload_n 0, 1) := by decide +kernel
theorem dX4_init_34 : decode cX4_init 34 = .ok (.bipush 6, 2) := by decide +kernel
theorem dX4_init_36 : decode cX4_init 36 = .ok (.newarray .int, 2) := by decide +kernel
theorem dX4_init_38 : decode cX4_init 38 = .ok (.putfield 25, 3) := by decide +kernel
theorem dX4_init_41 : decode cX4_init 41 = .ok (.aload_n 0, 1) := by decide +kernel
theorem dX4_init_42 : decode cX4_init 42 = .ok (.bipush 6, 2) := by decide +kernel
theorem dX4_init_44 : decode cX4_init 44 = .ok (.newarray .int, 2) := by decide +kernel
theorem dX4_init_46 : decode cX4_init 46 = .ok (.putfield 28, 3) := by decide +kernel
theorem dX4_init_49 : decode cX4_init 49 = .ok (.return_, 1) := by decide +kernel
theorem dX4_has_0 : decode cX4_has 0 = .ok (.iload_n 1, 1) := by decide +kernel
theorem dX4_has_1 : decode cX4_has 1 = .ok (.ifCond .lt 15, 3) := by decide +kernel
theorem dX4_has_4 : decode cX4_has 4 = .ok (.iload_n 1, 1) := by decide +kernel
theorem dX4_has_5 : decode cX4_has 5 = .ok (.aload_n 0, 1) := by decide +kernel
theorem dX4_has_6 : decode cX4_has 6 = .ok (.getfield 9, 3) := by decide +kernel
theorem dX4_has_9 : decode cX4_has 9 = .ok (.if_icmp .ge 7, 3) := by decide +kernel
theorem dX4_has_12 : decode cX4_has 12 = .ok (.iconst 1, 1) := by decide +kernel
theorem dX4_has_13 : decode cX4_has 13 = .ok (.goto 4, 3) := by decide +kernel
theorem dX4_has_16 : decode cX4_has 16 = .ok (.iconst 0, 1) := by decide +kernel
theorem dX4_has_17 : decode cX4_has 17 = .ok (.ireturn, 1) := by decide +kernel
theorem dX4_add_0 : decode cX4_add 0 = .ok (.aload_n 0, 1) := by decide +kernel
theorem dX4_add_1 : decode cX4_add 1 = .ok (.getfield 9, 3) := by decide +kernel
theorem dX4_add_4 : decode cX4_add 4 = .ok (.bipush 6, 2) := by decide +kernel
theorem dX4_add_6 : decode cX4_add 6 = .ok (.if_icmp .lt 4, 3) := by decide +kernel
theorem dX4_add_9 : decode cX4_add 9 = .ok (.return_, 1) := by decide +kernel
theorem dX4_add_10 : decode cX4_add 10 = .ok (.aload_n 0, 1) := by decide +kernel
theorem dX4_add_11 : decode cX4_add 11 = .ok (.getfield 15, 3) := by decide +kernel
theorem dX4_add_14 : decode cX4_add 14 = .ok (.aload_n 0, 1) := by decide +kernel
theorem dX4_add_15 : decode cX4_add 15 = .ok (.getfield 9, 3) := by decide +kernel
theorem dX4_add_18 : decode cX4_add 18 = .ok (.iload_n 1, 1) := by decide +kernel
theorem dX4_add_19 : decode cX4_add 19 = .ok (.iastore, 1) := by decide +kernel
theorem dX4_add_20 : decode cX4_add 20 = .ok (.aload_n 0, 1) := by decide +kernel
theorem dX4_add_21 : decode cX4_add 21 = .ok (.getfield 19, 3) := by decide +kernel
theorem dX4_add_24 : decode cX4_add 24 = .ok (.aload_n 0, 1) := by decide +kernel
theorem dX4_add_25 : decode cX4_add 25 = .ok (.getfield 9, 3) := by decide +kernel
theorem dX4_add_28 : decode cX4_add 28 = .ok (.iload_n 1, 1) := by decide +kernel
theorem dX4_add_29 : decode cX4_add 29 = .ok (.iconst 5, 1) := by decide +kernel
theorem dX4_add_30 : decode cX4_add 30 = .ok (.if_icmp .ne 11, 3) := by decide +kernel
theorem dX4_add_33 : decode cX4_add 33 = .ok (.iload_n 2, 1) := by decide +kernel
theorem dX4_add_34 : decode cX4_add 34 = .ok (.iconst 1, 1) := by decide +kernel
theorem dX4_add_35 : decode cX4_add 35 = .ok (.iadd, 1) := by decide +kernel
theorem dX4_add_36 : decode cX4_add 36 = .ok (.iconst 2, 1) := by decide +kernel
theorem dX4_add_37 : decode cX4_add 37 = .ok (.idiv, 1) := by decide +kernel
theorem dX4_add_38 : decode cX4_add 38 = .ok (.goto 4, 3) := by decide +kernel
theorem dX4_add_41 : decode cX4_add 41 = .ok (.iload_n 2, 1) := by decide +kernel
theorem dX4_add_42 : decode cX4_add 42 = .ok (.iastore, 1) := by decide +kernel
theorem dX4_add_43 : decode cX4_add 43 = .ok (.aload_n 0, 1) := by decide +kernel
theorem dX4_add_44 : decode cX4_add 44 = .ok (.getfield 22, 3) := by decide +kernel
theorem dX4_add_47 : decode cX4_add 47 = .ok (.aload_n 0, 1) := by decide +kernel
theorem dX4_add_48 : decode cX4_add 48 = .ok (.getfield 9, 3) := by decide +kernel
theorem dX4_add_51 : decode cX4_add 51 = .ok (.iload_n 3, 1) := by decide +kernel
theorem dX4_add_52 : decode cX4_add 52 = .ok (.iastore, 1) := by decide +kernel
theorem dX4_add_53 : decode cX4_add 53 = .ok (.aload_n 0, 1) := by decide +kernel
theorem dX4_add_54 : decode cX4_add 54 = .ok (.getfield 25, 3) := by decide +kernel
theorem dX4_add_57 : decode cX4_add 57 = .ok (.aload_n 0, 1) := by decide +kernel
theorem dX4_add_58 : decode cX4_add 58 = .ok (.getfield 9, 3) := by decide +kernel
theorem dX4_add_61 : decode cX4_add 61 = .ok (.iload 4, 2) := by decide +kernel
theorem dX4_add_63 : decode cX4_add 63 = .ok (.iastore, 1) := by decide +kernel
theorem dX4_add_64 : decode cX4_add 64 = .ok (.aload_n 0, 1) := by decide +kernel
theorem dX4_add_65 : decode cX4_add 65 = .ok (.getfield 28, 3) := by decide +kernel
theorem dX4_add_68 : decode cX4_add 68 = .ok (.aload_n 0, 1) := by decide +kernel
theorem dX4_add_69 : decode cX4_add 69 = .ok (.getfield 9, 3) := by decide +kernel
theorem dX4_add_72 : decode cX4_add 72 = .ok (.iload 5, 2) := by decide +kernel
theorem dX4_add_74 : decode cX4_add 74 = .ok (.iastore, 1) := by decide +kernel
theorem dX4_add_75 : decode cX4_add 75 = .ok (.aload_n 0, 1) := by decide +kernel
theorem dX4_add_76 : decode cX4_add 76 = .ok (.dup, 1) := by decide +kernel
theorem dX4_add_77 : decode cX4_add 77 = .ok (.getfield 9, 3) := by decide +kernel
theorem dX4_add_80 : decode cX4_add 80 = .ok (.iconst 1, 1) := by decide +kernel
theorem dX4_add_81 : decode cX4_add 81 = .ok (.iadd, 1) := by decide +kernel
theorem dX4_add_82 : decode cX4_add 82 = .ok (.putfield 9, 3) := by decide +kernel
theorem dX4_add_85 : decode cX4_add 85 = .ok (.return_, 1) := by decide +kernel
theorem dX4_remove_0 : decode cX4_remove 0 = .ok (.aload_n 0, 1) := by decide +kernel
theorem dX4_remove_1 : decode cX4_remove 1 = .ok (.iload_n 1, 1) := by decide +kernel
theorem dX4_remove_2 : decode cX4_remove 2 = .ok (.invokevirtual 31, 3) := by decide +kernel
theorem dX4_remove_5 : decode cX4_remove 5 = .ok (.ifCond .ne 4, 3) := by decide +kernel
theorem dX4_remove_8 : decode cX4_remove 8 = .ok (.return_, 1) := by decide +kernel
theorem dX4_remove_9 : decode cX4_remove 9 = .ok (.iload_n 1, 1) := by decide +kernel
theorem dX4_remove_10 : decode cX4_remove 10 = .ok (.istore_n 2, 1) := by decide +kernel
theorem dX4_remove_11 : decode cX4_remove 11 = .ok (.iload_n 2, 1) := by decide +kernel
theorem dX4_remove_12 : decode cX4_remove 12 = .ok (.iconst 1, 1) := by decide +kernel
theorem dX4_remove_13 : decode cX4_remove 13 = .ok (.iadd, 1) := by decide +kernel
theorem dX4_remove_14 : decode cX4_remove 14 = .ok (.aload_n 0, 1) := by decide +kernel
theorem dX4_remove_15 : decode cX4_remove 15 = .ok (.getfield 9, 3) := by decide +kernel
theorem dX4_remove_18 : decode cX4_remove 18 = .ok (.if_icmp .ge 79, 3) := by decide +kernel
theorem dX4_remove_21 : decode cX4_remove 21 = .ok (.aload_n 0, 1) := by decide +kernel
theorem dX4_remove_22 : decode cX4_remove 22 = .ok (.getfield 15, 3) := by decide +kernel
theorem dX4_remove_25 : decode cX4_remove 25 = .ok (.iload_n 2, 1) := by decide +kernel
theorem dX4_remove_26 : decode cX4_remove 26 = .ok (.aload_n 0, 1) := by decide +kernel
theorem dX4_remove_27 : decode cX4_remove 27 = .ok (.getfield 15, 3) := by decide +kernel
theorem dX4_remove_30 : decode cX4_remove 30 = .ok (.iload_n 2, 1) := by decide +kernel
theorem dX4_remove_31 : decode cX4_remove 31 = .ok (.iconst 1, 1) := by decide +kernel
theorem dX4_remove_32 : decode cX4_remove 32 = .ok (.iadd, 1) := by decide +kernel
theorem dX4_remove_33 : decode cX4_remove 33 = .ok (.iaload, 1) := by decide +kernel
theorem dX4_remove_34 : decode cX4_remove 34 = .ok (.iastore, 1) := by decide +kernel
theorem dX4_remove_35 : decode cX4_remove 35 = .ok (.aload_n 0, 1) := by decide +kernel
theorem dX4_remove_36 : decode cX4_remove 36 = .ok (.getfield 19, 3) := by decide +kernel
theorem dX4_remove_39 : decode cX4_remove 39 = .ok (.iload_n 2, 1) := by decide +kernel
theorem dX4_remove_40 : decode cX4_remove 40 = .ok (.aload_n 0, 1) := by decide +kernel
theorem dX4_remove_41 : decode cX4_remove 41 = .ok (.getfield 19, 3) := by decide +kernel
theorem dX4_remove_44 : decode cX4_remove 44 = .ok (.iload_n 2, 1) := by decide +kernel
theorem dX4_remove_45 : decode cX4_remove 45 = .ok (.iconst 1, 1) := by decide +kernel
theorem dX4_remove_46 : decode cX4_remove 46 = .ok (.iadd, 1) := by decide +kernel
theorem dX4_remove_47 : decode cX4_remove 47 = .ok (.iaload, 1) := by decide +kernel
theorem dX4_remove_48 : decode cX4_remove 48 = .ok (.iastore, 1) := by decide +kernel
theorem dX4_remove_49 : decode cX4_remove 49 = .ok (.aload_n 0, 1) := by decide +kernel
theorem dX4_remove_50 : decode cX4_remove 50 = .ok (.getfield 22, 3) := by decide +kernel
theorem dX4_remove_53 : decode cX4_remove 53 = .ok (.iload_n 2, 1) := by decide +kernel
theorem dX4_remove_54 : decode cX4_remove 54 = .ok (.aload_n 0, 1) := by decide +kernel
theorem dX4_remove_55 : decode cX4_remove 55 = .ok (.getfield 22, 3) := by decide +kernel
theorem dX4_remove_58 : decode cX4_remove 58 = .ok (.iload_n 2, 1) := by decide +kernel
theorem dX4_remove_59 : decode cX4_remove 59 = .ok (.iconst 1, 1) := by decide +kernel
theorem dX4_remove_60 : decode cX4_remove 60 = .ok (.iadd, 1) := by decide +kernel
theorem dX4_remove_61 : decode cX4_remove 61 = .ok (.iaload, 1) := by decide +kernel
theorem dX4_remove_62 : decode cX4_remove 62 = .ok (.iastore, 1) := by decide +kernel
theorem dX4_remove_63 : decode cX4_remove 63 = .ok (.aload_n 0, 1) := by decide +kernel
theorem dX4_remove_64 : decode cX4_remove 64 = .ok (.getfield 25, 3) := by decide +kernel
theorem dX4_remove_67 : decode cX4_remove 67 = .ok (.iload_n 2, 1) := by decide +kernel
theorem dX4_remove_68 : decode cX4_remove 68 = .ok (.aload_n 0, 1) := by decide +kernel
theorem dX4_remove_69 : decode cX4_remove 69 = .ok (.getfield 25, 3) := by decide +kernel
theorem dX4_remove_72 : decode cX4_remove 72 = .ok (.iload_n 2, 1) := by decide +kernel
theorem dX4_remove_73 : decode cX4_remove 73 = .ok (.iconst 1, 1) := by decide +kernel
theorem dX4_remove_74 : decode cX4_remove 74 = .ok (.iadd, 1) := by decide +kernel
theorem dX4_remove_75 : decode cX4_remove 75 = .ok (.iaload, 1) := by decide +kernel
theorem dX4_remove_76 : decode cX4_remove 76 = .ok (.iastore, 1) := by decide +kernel
theorem dX4_remove_77 : decode cX4_remove 77 = .ok (.aload_n 0, 1) := by decide +kernel
theorem dX4_remove_78 : decode cX4_remove 78 = .ok (.getfield 28, 3) := by decide +kernel
theorem dX4_remove_81 : decode cX4_remove 81 = .ok (.iload_n 2, 1) := by decide +kernel
theorem dX4_remove_82 : decode cX4_remove 82 = .ok (.aload_n 0, 1) := by decide +kernel
theorem dX4_remove_83 : decode cX4_remove 83 = .ok (.getfield 28, 3) := by decide +kernel
theorem dX4_remove_86 : decode cX4_remove 86 = .ok (.iload_n 2, 1) := by decide +kernel
theorem dX4_remove_87 : decode cX4_remove 87 = .ok (.iconst 1, 1) := by decide +kernel
theorem dX4_remove_88 : decode cX4_remove 88 = .ok (.iadd, 1) := by decide +kernel
theorem dX4_remove_89 : decode cX4_remove 89 = .ok (.iaload, 1) := by decide +kernel
theorem dX4_remove_90 : decode cX4_remove 90 = .ok (.iastore, 1) := by decide +kernel
theorem dX4_remove_91 : decode cX4_remove 91 = .ok (.iinc 2 1, 3) := by decide +kernel
theorem dX4_remove_94 : decode cX4_remove 94 = .ok (.goto (-83), 3) := by decide +kernel
theorem dX4_remove_97 : decode cX4_remove 97 = .ok (.aload_n 0, 1) := by decide +kernel
theorem dX4_remove_98 : decode cX4_remove 98 = .ok (.dup, 1) := by decide +kernel
theorem dX4_remove_99 : decode cX4_remove 99 = .ok (.getfield 9, 3) := by decide +kernel
theorem dX4_remove_102 : decode cX4_remove 102 = .ok (.iconst 1, 1) := by decide +kernel
theorem dX4_remove_103 : decode cX4_remove 103 = .ok (.isub, 1) := by decide +kernel
theorem dX4_remove_104 : decode cX4_remove 104 = .ok (.putfield 9, 3) := by decide +kernel
theorem dX4_remove_107 : decode cX4_remove 107 = .ok (.return_, 1) := by decide +kernel
theorem dX4_copy_0 : decode cX4_copy 0 = .ok (.aload_n 0, 1) := by decide +kernel
theorem dX4_copy_1 : decode cX4_copy 1 = .ok (.aload_n 1, 1) := by decide +kernel
theorem dX4_copy_2 : decode cX4_copy 2 = .ok (.getfield 9, 3) := by decide +kernel
theorem dX4_copy_5 : decode cX4_copy 5 = .ok (.putfield 9, 3) := by decide +kernel
theorem dX4_copy_8 : decode cX4_copy 8 = .ok (.iconst 0, 1) := by decide +kernel
theorem dX4_copy_9 : decode cX4_copy 9 = .ok (.istore_n 2, 1) := by decide +kernel
theorem dX4_copy_10 : decode cX4_copy 10 = .ok (.iload_n 2, 1) := by decide +kernel
theorem dX4_copy_11 : decode cX4_copy 11 = .ok (.aload_n 1, 1) := by decide +kernel
theorem dX4_copy_12 : decode cX4_copy 12 = .ok (.getfield 9, 3) := by decide +kernel
theorem dX4_copy_15 : decode cX4_copy 15 = .ok (.if_icmp .ge 69, 3) := by decide +kernel
theorem dX4_copy_18 : decode cX4_copy 18 = .ok (.aload_n 0, 1) := by decide +kernel
theorem dX4_copy_19 : decode cX4_copy 19 = .ok (.getfield 15, 3) := by decide +kernel
theorem dX4_copy_22 : decode cX4_copy 22 = .ok (.iload_n 2, 1) := by decide +kernel
theorem dX4_copy_23 : decode cX4_copy 23 = .ok (.aload_n 1, 1) := by decide +kernel
theorem dX4_copy_24 : decode cX4_copy 24 = .ok (.getfield 15, 3) := by decide +kernel
theorem dX4_copy_27 : decode cX4_copy 27 = .ok (.iload_n 2, 1) := by decide +kernel
theorem dX4_copy_28 : decode cX4_copy 28 = .ok (.iaload, 1) := by decide +kernel
theorem dX4_copy_29 : decode cX4_copy 29 = .ok (.iastore, 1) := by decide +kernel
theorem dX4_copy_30 : decode cX4_copy 30 = .ok (.aload_n 0, 1) := by decide +kernel
theorem dX4_copy_31 : decode cX4_copy 31 = .ok (.getfield 19, 3) := by decide +kernel
theorem dX4_copy_34 : decode cX4_copy 34 = .ok (.iload_n 2, 1) := by decide +kernel
theorem dX4_copy_35 : decode cX4_copy 35 = .ok (.aload_n 1, 1) := by decide +kernel
theorem dX4_copy_36 : decode cX4_copy 36 = .ok (.getfield 19, 3) := by decide +kernel
theorem dX4_copy_39 : decode cX4_copy 39 = .ok (.iload_n 2, 1) := by decide +kernel
theorem dX4_copy_40 : decode cX4_copy 40 = .ok (.iaload, 1) := by decide +kernel
theorem dX4_copy_41 : decode cX4_copy 41 = .ok (.iastore, 1) := by decide +kernel
theorem dX4_copy_42 : decode cX4_copy 42 = .ok (.aload_n 0, 1) := by decide +kernel
theorem dX4_copy_43 : decode cX4_copy 43 = .ok (.getfield 22, 3) := by decide +kernel
theorem dX4_copy_46 : decode cX4_copy 46 = .ok (.iload_n 2, 1) := by decide +kernel
theorem dX4_copy_47 : decode cX4_copy 47 = .ok (.aload_n 1, 1) := by decide +kernel
theorem dX4_copy_48 : decode cX4_copy 48 = .ok (.getfield 22, 3) := by decide +kernel
theorem dX4_copy_51 : decode cX4_copy 51 = .ok (.iload_n 2, 1) := by decide +kernel
theorem dX4_copy_52 : decode cX4_copy 52 = .ok (.iaload, 1) := by decide +kernel
theorem dX4_copy_53 : decode cX4_copy 53 = .ok (.iastore, 1) := by decide +kernel
theorem dX4_copy_54 : decode cX4_copy 54 = .ok (.aload_n 0, 1) := by decide +kernel
theorem dX4_copy_55 : decode cX4_copy 55 = .ok (.getfield 25, 3) := by decide +kernel
theorem dX4_copy_58 : decode cX4_copy 58 = .ok (.iload_n 2, 1) := by decide +kernel
theorem dX4_copy_59 : decode cX4_copy 59 = .ok (.aload_n 1, 1) := by decide +kernel
theorem dX4_copy_60 : decode cX4_copy 60 = .ok (.getfield 25, 3) := by decide +kernel
theorem dX4_copy_63 : decode cX4_copy 63 = .ok (.iload_n 2, 1) := by decide +kernel
theorem dX4_copy_64 : decode cX4_copy 64 = .ok (.iaload, 1) := by decide +kernel
theorem dX4_copy_65 : decode cX4_copy 65 = .ok (.iastore, 1) := by decide +kernel
theorem dX4_copy_66 : decode cX4_copy 66 = .ok (.aload_n 0, 1) := by decide +kernel
theorem dX4_copy_67 : decode cX4_copy 67 = .ok (.getfield 28, 3) := by decide +kernel
theorem dX4_copy_70 : decode cX4_copy 70 = .ok (.iload_n 2, 1) := by decide +kernel
theorem dX4_copy_71 : decode cX4_copy 71 = .ok (.aload_n 1, 1) := by decide +kernel
theorem dX4_copy_72 : decode cX4_copy 72 = .ok (.getfield 28, 3) := by decide +kernel
theorem dX4_copy_75 : decode cX4_copy 75 = .ok (.iload_n 2, 1) := by decide +kernel
theorem dX4_copy_76 : decode cX4_copy 76 = .ok (.iaload, 1) := by decide +kernel
theorem dX4_copy_77 : decode cX4_copy 77 = .ok (.iastore, 1) := by decide +kernel
theorem dX4_copy_78 : decode cX4_copy 78 = .ok (.iinc 2 1, 3) := by decide +kernel
theorem dX4_copy_81 : decode cX4_copy 81 = .ok (.goto (-71), 3) := by decide +kernel
theorem dX4_copy_84 : decode cX4_copy 84 = .ok (.return_, 1) := by decide +kernel
theorem dX4_valueOf_0 : decode cX4_valueOf 0 = .ok (.iload_n 2, 1) := by decide +kernel
theorem dX4_valueOf_1 : decode cX4_valueOf 1 = .ok (.aload_n 0, 1) := by decide +kernel
theorem dX4_valueOf_2 : decode cX4_valueOf 2 = .ok (.getfield 25, 3) := by decide +kernel
theorem dX4_valueOf_5 : decode cX4_valueOf 5 = .ok (.iload_n 1, 1) := by decide +kernel
theorem dX4_valueOf_6 : decode cX4_valueOf 6 = .ok (.iaload, 1) := by decide +kernel
theorem dX4_valueOf_7 : decode cX4_valueOf 7 = .ok (.if_icmp .gt 10, 3) := by decide +kernel
theorem dX4_valueOf_10 : decode cX4_valueOf 10 = .ok (.aload_n 0, 1) := by decide +kernel
theorem dX4_valueOf_11 : decode cX4_valueOf 11 = .ok (.getfield 28, 3) := by decide +kernel
theorem dX4_valueOf_14 : decode cX4_valueOf 14 = .ok (.iload_n 1, 1) := by decide +kernel
theorem dX4_valueOf_15 : decode cX4_valueOf 15 = .ok (.iaload, 1) := by decide +kernel
theorem dX4_valueOf_16 : decode cX4_valueOf 16 = .ok (.ireturn, 1) := by decide +kernel
theorem dX4_valueOf_17 : decode cX4_valueOf 17 = .ok (.aload_n 0, 1) := by decide +kernel
theorem dX4_valueOf_18 : decode cX4_valueOf 18 = .ok (.getfield 15, 3) := by decide +kernel
theorem dX4_valueOf_21 : decode cX4_valueOf 21 = .ok (.iload_n 1, 1) := by decide +kernel
theorem dX4_valueOf_22 : decode cX4_valueOf 22 = .ok (.iaload, 1) := by decide +kernel
theorem dX4_valueOf_23 : decode cX4_valueOf 23 = .ok (.tableswitch 75 1 4 #[29, 34, 43, 54], 29) := by decide +kernel
theorem dX4_valueOf_52 : decode cX4_valueOf 52 = .ok (.bipush (-2), 2) := by decide +kernel
theorem dX4_valueOf_54 : decode cX4_valueOf 54 = .ok (.iload_n 3, 1) := by decide +kernel
theorem dX4_valueOf_55 : decode cX4_valueOf 55 = .ok (.imul, 1) := by decide +kernel
theorem dX4_valueOf_56 : decode cX4_valueOf 56 = .ok (.ireturn, 1) := by decide +kernel
theorem dX4_valueOf_57 : decode cX4_valueOf 57 = .ok (.aload_n 0, 1) := by decide +kernel
theorem dX4_valueOf_58 : decode cX4_valueOf 58 = .ok (.getfield 28, 3) := by decide +kernel
theorem dX4_valueOf_61 : decode cX4_valueOf 61 = .ok (.iload_n 1, 1) := by decide +kernel
theorem dX4_valueOf_62 : decode cX4_valueOf 62 = .ok (.iaload, 1) := by decide +kernel
theorem dX4_valueOf_63 : decode cX4_valueOf 63 = .ok (.iconst 2, 1) := by decide +kernel
theorem dX4_valueOf_64 : decode cX4_valueOf 64 = .ok (.idiv, 1) := by decide +kernel
theorem dX4_valueOf_65 : decode cX4_valueOf 65 = .ok (.ireturn, 1) := by decide +kernel
theorem dX4_valueOf_66 : decode cX4_valueOf 66 = .ok (.aload_n 0, 1) := by decide +kernel
theorem dX4_valueOf_67 : decode cX4_valueOf 67 = .ok (.getfield 28, 3) := by decide +kernel
theorem dX4_valueOf_70 : decode cX4_valueOf 70 = .ok (.iload_n 1, 1) := by decide +kernel
theorem dX4_valueOf_71 : decode cX4_valueOf 71 = .ok (.iaload, 1) := by decide +kernel
theorem dX4_valueOf_72 : decode cX4_valueOf 72 = .ok (.iconst 2, 1) := by decide +kernel
theorem dX4_valueOf_73 : decode cX4_valueOf 73 = .ok (.idiv, 1) := by decide +kernel
theorem dX4_valueOf_74 : decode cX4_valueOf 74 = .ok (.iload_n 3, 1) := by decide +kernel
theorem dX4_valueOf_75 : decode cX4_valueOf 75 = .ok (.isub, 1) := by decide +kernel
theorem dX4_valueOf_76 : decode cX4_valueOf 76 = .ok (.ireturn, 1) := by decide +kernel
theorem dX4_valueOf_77 : decode cX4_valueOf 77 = .ok (.iload_n 2, 1) := by decide +kernel
theorem dX4_valueOf_78 : decode cX4_valueOf 78 = .ok (.aload_n 0, 1) := by decide +kernel
theorem dX4_valueOf_79 : decode cX4_valueOf 79 = .ok (.getfield 25, 3) := by decide +kernel
theorem dX4_valueOf_82 : decode cX4_valueOf 82 = .ok (.iload_n 1, 1) := by decide +kernel
theorem dX4_valueOf_83 : decode cX4_valueOf 83 = .ok (.iaload, 1) := by decide +kernel
theorem dX4_valueOf_84 : decode cX4_valueOf 84 = .ok (.iconst 1, 1) := by decide +kernel
theorem dX4_valueOf_85 : decode cX4_valueOf 85 = .ok (.iadd, 1) := by decide +kernel
theorem dX4_valueOf_86 : decode cX4_valueOf 86 = .ok (.if_icmp .ne 7, 3) := by decide +kernel
theorem dX4_valueOf_89 : decode cX4_valueOf 89 = .ok (.iconst 0, 1) := by decide +kernel
theorem dX4_valueOf_90 : decode cX4_valueOf 90 = .ok (.goto 7, 3) := by decide +kernel
theorem dX4_valueOf_93 : decode cX4_valueOf 93 = .ok (.bipush (-2), 2) := by decide +kernel
theorem dX4_valueOf_95 : decode cX4_valueOf 95 = .ok (.iload_n 3, 1) := by decide +kernel
theorem dX4_valueOf_96 : decode cX4_valueOf 96 = .ok (.imul, 1) := by decide +kernel
theorem dX4_valueOf_97 : decode cX4_valueOf 97 = .ok (.ireturn, 1) := by decide +kernel
theorem dX4_valueOf_98 : decode cX4_valueOf 98 = .ok (.iload_n 3, 1) := by decide +kernel
theorem dX4_valueOf_99 : decode cX4_valueOf 99 = .ok (.ineg, 1) := by decide +kernel
theorem dX4_valueOf_100 : decode cX4_valueOf 100 = .ok (.ireturn, 1) := by decide +kernel
theorem dX5_init_0 : decode cX5_init 0 = .ok (.aload_n 0, 1) := by decide +kernel
theorem dX5_init_1 : decode cX5_init 1 = .ok (.invokespecial 3, 3) := by decide +kernel
theorem dX5_init_4 : decode cX5_init 4 = .ok (.aload_n 0, 1) := by decide +kernel
theorem dX5_init_5 : decode cX5_init 5 = .ok (.bipush 6, 2) := by decide +kernel
theorem dX5_init_7 : decode cX5_init 7 = .ok (.newarray .int, 2) := by decide +kernel
theorem dX5_init_9 : decode cX5_init 9 = .ok (.putfield 9, 3) := by decide +kernel
theorem dX5_init_12 : decode cX5_init 12 = .ok (.aload_n 0, 1) := by decide +kernel
theorem dX5_init_13 : decode cX5_init 13 = .ok (.bipush 6, 2) := by decide +kernel
theorem dX5_init_15 : decode cX5_init 15 = .ok (.newarray .int, 2) := by decide +kernel
theorem dX5_init_17 : decode cX5_init 17 = .ok (.putfield 15, 3) := by decide +kernel
theorem dX5_init_20 : decode cX5_init 20 = .ok (.aload_n 0, 1) := by decide +kernel
theorem dX5_init_21 : decode cX5_init 21 = .ok (.aconst_null, 1) := by decide +kernel
theorem dX5_init_22 : decode cX5_init 22 = .ok (.putfield 18, 3) := by decide +kernel
theorem dX5_init_25 : decode cX5_init 25 = .ok (.aload_n 0, 1) := by decide +kernel
theorem dX5_init_26 : decode cX5_init 26 = .ok (.iconst 0, 1) := by decide +kernel
theorem dX5_init_27 : decode cX5_init 27 = .ok (.putfield 22, 3) := by decide +kernel
theorem dX5_init_30 : decode cX5_init 30 = .ok (.aload_n 0, 1) := by decide +kernel
theorem dX5_init_31 : decode cX5_init 31 = .ok (.iconst 0, 1) := by decide +kernel
theorem dX5_init_32 : decode cX5_init 32 = .ok (.putfield 26, 3) := by decide +kernel
theorem dX5_init_35 : decode cX5_init 35 = .ok (.aload_n 0, 1) := by decide +kernel
theorem dX5_init_36 : decode cX5_init 36 = .ok (.ldc 29, 2) := by decide +kernel
theorem dX5_init_38 : decode cX5_init 38 = .ok (.putfield 30, 3) := by decide +kernel
theorem dX5_init_41 : decode cX5_init 41 = .ok (.aload_n 0, 1) := by decide +kernel
theorem dX5_init_42 : decode cX5_init 42 = .ok (.aload_n 1, 1) := by decide +kernel
theorem dX5_init_43 : decode cX5_init 43 = .ok (.putfield 33, 3) := by decide +kernel
theorem dX5_init_46 : decode cX5_init 46 = .ok (.return_, 1) := by decide +kernel
theorem dX5_mostWorth_0 : decode cX5_mostWorth 0 = .ok (.iconst 0, 1) := by decide +kernel
theorem dX5_mostWorth_1 : decode cX5_mostWorth 1 = .ok (.istore_n 3, 1) := by decide +kernel
theorem dX5_mostWorth_2 : decode cX5_mostWorth 2 = .ok (.iconst 0, 1) := by decide +kernel
theorem dX5_mostWorth_3 : decode cX5_mostWorth 3 = .ok (.istore 4, 2) := by decide +kernel
theorem dX5_mostWorth_5 : decode cX5_mostWorth 5 = .ok (.iload 4, 2) := by decide +kernel
theorem dX5_mostWorth_7 : decode cX5_mostWorth 7 = .ok (.aload_n 1, 1) := by decide +kernel
theorem dX5_mostWorth_8 : decode cX5_mostWorth 8 = .ok (.getfield 37, 3) := by decide +kernel
theorem dX5_mostWorth_11 : decode cX5_mostWorth 11 = .ok (.if_icmp .ge 25, 3) := by decide +kernel
theorem dX5_mostWorth_14 : decode cX5_mostWorth 14 = .ok (.iload 4, 2) := by decide +kernel
theorem dX5_mostWorth_16 : decode cX5_mostWorth 16 = .ok (.iload_n 2, 1) := by decide +kernel
theorem dX5_mostWorth_17 : decode cX5_mostWorth 17 = .ok (.if_icmp .eq 13, 3) := by decide +kernel
theorem dX5_mostWorth_20 : decode cX5_mostWorth 20 = .ok (.iload_n 3, 1) := by decide +kernel
theorem dX5_mostWorth_21 : decode cX5_mostWorth 21 = .ok (.aload_n 1, 1) := by decide +kernel
theorem dX5_mostWorth_22 : decode cX5_mostWorth 22 = .ok (.getfield 42, 3) := by decide +kernel
theorem dX5_mostWorth_25 : decode cX5_mostWorth 25 = .ok (.iload 4, 2) := by decide +kernel
theorem dX5_mostWorth_27 : decode cX5_mostWorth 27 = .ok (.iaload, 1) := by decide +kernel
theorem dX5_mostWorth_28 : decode cX5_mostWorth 28 = .ok (.iadd, 1) := by decide +kernel
theorem dX5_mostWorth_29 : decode cX5_mostWorth 29 = .ok (.istore_n 3, 1) := by decide +kernel
theorem dX5_mostWorth_30 : decode cX5_mostWorth 30 = .ok (.iinc 4 1, 3) := by decide +kernel
theorem dX5_mostWorth_33 : decode cX5_mostWorth 33 = .ok (.goto (-28), 3) := by decide +kernel
theorem dX5_mostWorth_36 : decode cX5_mostWorth 36 = .ok (.iload_n 3, 1) := by decide +kernel
theorem dX5_mostWorth_37 : decode cX5_mostWorth 37 = .ok (.aload_n 0, 1) := by decide +kernel
theorem dX5_mostWorth_38 : decode cX5_mostWorth 38 = .ok (.iconst 0, 1) := by decide +kernel
theorem dX5_mostWorth_39 : decode cX5_mostWorth 39 = .ok (.aload_n 1, 1) := by decide +kernel
theorem dX5_mostWorth_40 : decode cX5_mostWorth 40 = .ok (.iload_n 2, 1) := by decide +kernel
theorem dX5_mostWorth_41 : decode cX5_mostWorth 41 = .ok (.invokevirtual 45, 3) := by decide +kernel
theorem dX5_mostWorth_44 : decode cX5_mostWorth 44 = .ok (.isub, 1) := by decide +kernel
theorem dX5_mostWorth_45 : decode cX5_mostWorth 45 = .ok (.ireturn, 1) := by decide +kernel
theorem dX5_fewestLate_0 : decode cX5_fewestLate 0 = .ok (.aload_n 0, 1) := by decide +kernel
theorem dX5_fewestLate_1 : decode cX5_fewestLate 1 = .ok (.iconst 1, 1) := by decide +kernel
theorem dX5_fewestLate_2 : decode cX5_fewestLate 2 = .ok (.aload_n 1, 1) := by decide +kernel
theorem dX5_fewestLate_3 : decode cX5_fewestLate 3 = .ok (.bipush (-9), 2) := by decide +kernel
theorem dX5_fewestLate_5 : decode cX5_fewestLate 5 = .ok (.invokevirtual 45, 3) := by decide +kernel
theorem dX5_fewestLate_8 : decode cX5_fewestLate 8 = .ok (.ireturn, 1) := by decide +kernel
theorem dX5_soonestEnd_0 : decode cX5_soonestEnd 0 = .ok (.aload_n 0, 1) := by decide +kernel
theorem dX5_soonestEnd_1 : decode cX5_soonestEnd 1 = .ok (.iconst 2, 1) := by decide +kernel
theorem dX5_soonestEnd_2 : decode cX5_soonestEnd 2 = .ok (.aload_n 1, 1) := by decide +kernel
theorem dX5_soonestEnd_3 : decode cX5_soonestEnd 3 = .ok (.bipush (-9), 2) := by decide +kernel
theorem dX5_soonestEnd_5 : decode cX5_soonestEnd 5 = .ok (.invokevirtual 45, 3) := by decide +kernel
theorem dX5_soonestEnd_8 : decode cX5_soonestEnd 8 = .ok (.ireturn, 1) := by decide +kernel
theorem dX5_leastLost_0 : decode cX5_leastLost 0 = .ok (.aload_n 0, 1) := by decide +kernel
theorem dX5_leastLost_1 : decode cX5_leastLost 1 = .ok (.iload_n 1, 1) := by decide +kernel
theorem dX5_leastLost_2 : decode cX5_leastLost 2 = .ok (.putfield 22, 3) := by decide +kernel
theorem dX5_leastLost_5 : decode cX5_leastLost 5 = .ok (.aload_n 0, 1) := by decide +kernel
theorem dX5_leastLost_6 : decode cX5_leastLost 6 = .ok (.aload_n 2, 1) := by decide +kernel
theorem dX5_leastLost_7 : decode cX5_leastLost 7 = .ok (.putfield 18, 3) := by decide +kernel
theorem dX5_leastLost_10 : decode cX5_leastLost 10 = .ok (.aload_n 0, 1) := by decide +kernel
theorem dX5_leastLost_11 : decode cX5_leastLost 11 = .ok (.ldc 29, 2) := by decide +kernel
theorem dX5_leastLost_13 : decode cX5_leastLost 13 = .ok (.putfield 30, 3) := by decide +kernel
theorem dX5_leastLost_16 : decode cX5_leastLost 16 = .ok (.aload_n 2, 1) := by decide +kernel
theorem dX5_leastLost_17 : decode cX5_leastLost 17 = .ok (.iload_n 3, 1) := by decide +kernel
theorem dX5_leastLost_18 : decode cX5_leastLost 18 = .ok (.invokevirtual 49, 3) := by decide +kernel
theorem dX5_leastLost_21 : decode cX5_leastLost 21 = .ok (.istore 4, 2) := by decide +kernel
theorem dX5_leastLost_23 : decode cX5_leastLost 23 = .ok (.aload_n 0, 1) := by decide +kernel
theorem dX5_leastLost_24 : decode cX5_leastLost 24 = .ok (.iload 4, 2) := by decide +kernel
theorem dX5_leastLost_26 : decode cX5_leastLost 26 = .ok (.ifCond .eq 12, 3) := by decide +kernel
theorem dX5_leastLost_29 : decode cX5_leastLost 29 = .ok (.aload_n 2, 1) := by decide +kernel
theorem dX5_leastLost_30 : decode cX5_leastLost 30 = .ok (.getfield 37, 3) := by decide +kernel
theorem dX5_leastLost_33 : decode cX5_leastLost 33 = .ok (.iconst 1, 1) := by decide +kernel
theorem dX5_leastLost_34 : decode cX5_leastLost 34 = .ok (.isub, 1) := by decide +kernel
theorem dX5_leastLost_35 : decode cX5_leastLost 35 = .ok (.goto 7, 3) := by decide +kernel
theorem dX5_leastLost_38 : decode cX5_leastLost 38 = .ok (.aload_n 2, 1) := by decide +kernel
theorem dX5_leastLost_39 : decode cX5_leastLost 39 = .ok (.getfield 37, 3) := by decide +kernel
theorem dX5_leastLost_42 : decode cX5_leastLost 42 = .ok (.putfield 26, 3) := by decide +kernel
theorem dX5_leastLost_45 : decode cX5_leastLost 45 = .ok (.aload_n 0, 1) := by decide +kernel
theorem dX5_leastLost_46 : decode cX5_leastLost 46 = .ok (.iconst 0, 1) := by decide +kernel
theorem dX5_leastLost_47 : decode cX5_leastLost 47 = .ok (.iconst 0, 1) := by decide +kernel
theorem dX5_leastLost_48 : decode cX5_leastLost 48 = .ok (.iconst 0, 1) := by decide +kernel
theorem dX5_leastLost_49 : decode cX5_leastLost 49 = .ok (.iload 4, 2) := by decide +kernel
theorem dX5_leastLost_51 : decode cX5_leastLost 51 = .ok (.ifCond .eq 9, 3) := by decide +kernel
theorem dX5_leastLost_54 : decode cX5_leastLost 54 = .ok (.iconst 1, 1) := by decide +kernel
theorem dX5_leastLost_55 : decode cX5_leastLost 55 = .ok (.iload_n 3, 1) := by decide +kernel
theorem dX5_leastLost_56 : decode cX5_leastLost 56 = .ok (.ishl, 1) := by decide +kernel
theorem dX5_leastLost_57 : decode cX5_leastLost 57 = .ok (.goto 4, 3) := by decide +kernel
theorem dX5_leastLost_60 : decode cX5_leastLost 60 = .ok (.iconst 0, 1) := by decide +kernel
theorem dX5_leastLost_61 : decode cX5_leastLost 61 = .ok (.iconst 0, 1) := by decide +kernel
theorem dX5_leastLost_62 : decode cX5_leastLost 62 = .ok (.invokevirtual 53, 3) := by decide +kernel
theorem dX5_leastLost_65 : decode cX5_leastLost 65 = .ok (.aload_n 0, 1) := by decide +kernel
theorem dX5_leastLost_66 : decode cX5_leastLost 66 = .ok (.getfield 30, 3) := by decide +kernel
theorem dX5_leastLost_69 : decode cX5_leastLost 69 = .ok (.ireturn, 1) := by decide +kernel
theorem dX5_walk_0 : decode cX5_walk 0 = .ok (.iload 5, 2) := by decide +kernel
theorem dX5_walk_2 : decode cX5_walk 2 = .ok (.aload_n 0, 1) := by decide +kernel
theorem dX5_walk_3 : decode cX5_walk 3 = .ok (.getfield 30, 3) := by decide +kernel
theorem dX5_walk_6 : decode cX5_walk 6 = .ok (.if_icmp .lt 4, 3) := by decide +kernel
theorem dX5_walk_9 : decode cX5_walk 9 = .ok (.return_, 1) := by decide +kernel
theorem dX5_walk_10 : decode cX5_walk 10 = .ok (.iload_n 1, 1) := by decide +kernel
theorem dX5_walk_11 : decode cX5_walk 11 = .ok (.aload_n 0, 1) := by decide +kernel
theorem dX5_walk_12 : decode cX5_walk 12 = .ok (.getfield 26, 3) := by decide +kernel
theorem dX5_walk_15 : decode cX5_walk 15 = .ok (.if_icmp .lt 25, 3) := by decide +kernel
theorem dX5_walk_18 : decode cX5_walk 18 = .ok (.aload_n 0, 1) := by decide +kernel
theorem dX5_walk_19 : decode cX5_walk 19 = .ok (.iload 5, 2) := by decide +kernel
theorem dX5_walk_21 : decode cX5_walk 21 = .ok (.putfield 30, 3) := by decide +kernel
theorem dX5_walk_24 : decode cX5_walk 24 = .ok (.aload_n 0, 1) := by decide +kernel
theorem dX5_walk_25 : decode cX5_walk 25 = .ok (.getfield 9, 3) := by decide +kernel
theorem dX5_walk_28 : decode cX5_walk 28 = .ok (.iconst 0, 1) := by decide +kernel
theorem dX5_walk_29 : decode cX5_walk 29 = .ok (.aload_n 0, 1) := by decide +kernel
theorem dX5_walk_30 : decode cX5_walk 30 = .ok (.getfield 15, 3) := by decide +kernel
theorem dX5_walk_33 : decode cX5_walk 33 = .ok (.iconst 0, 1) := by decide +kernel
theorem dX5_walk_34 : decode cX5_walk 34 = .ok (.bipush 6, 2) := by decide +kernel
theorem dX5_walk_36 : decode cX5_walk 36 = .ok (.invokestatic 57, 3) := by decide +kernel
theorem dX5_walk_39 : decode cX5_walk 39 = .ok (.return_, 1) := by decide +kernel
theorem dX5_walk_40 : decode cX5_walk 40 = .ok (.iconst 0, 1) := by decide +kernel
theorem dX5_walk_41 : decode cX5_walk 41 = .ok (.istore 6, 2) := by decide +kernel
theorem dX5_walk_43 : decode cX5_walk 43 = .ok (.iload 6, 2) := by decide +kernel
theorem dX5_walk_45 : decode cX5_walk 45 = .ok (.aload_n 0, 1) := by decide +kernel
theorem dX5_walk_46 : decode cX5_walk 46 = .ok (.getfield 18, 3) := by decide +kernel
theorem dX5_walk_49 : decode cX5_walk 49 = .ok (.getfield 37, 3) := by decide +kernel
theorem dX5_walk_52 : decode cX5_walk 52 = .ok (.if_icmp .ge 91, 3) := by decide +kernel
theorem dX5_walk_55 : decode cX5_walk 55 = .ok (.iload 4, 2) := by decide +kernel
theorem dX5_walk_57 : decode cX5_walk 57 = .ok (.iload 6, 2) := by decide +kernel
theorem dX5_walk_59 : decode cX5_walk 59 = .ok (.ishr, 1) := by decide +kernel
theorem dX5_walk_60 : decode cX5_walk 60 = .ok (.iconst 1, 1) := by decide +kernel
theorem dX5_walk_61 : decode cX5_walk 61 = .ok (.iand, 1) := by decide +kernel
theorem dX5_walk_62 : decode cX5_walk 62 = .ok (.ifCond .eq 6, 3) := by decide +kernel
theorem dX5_walk_65 : decode cX5_walk 65 = .ok (.goto 72, 3) := by decide +kernel
theorem dX5_walk_68 : decode cX5_walk 68 = .ok (.aload_n 0, 1) := by decide +kernel
theorem dX5_walk_69 : decode cX5_walk 69 = .ok (.getfield 33, 3) := by decide +kernel
theorem dX5_walk_72 : decode cX5_walk 72 = .ok (.iload_n 2, 1) := by decide +kernel
theorem dX5_walk_73 : decode cX5_walk 73 = .ok (.iload_n 3, 1) := by decide +kernel
theorem dX5_walk_74 : decode cX5_walk 74 = .ok (.aload_n 0, 1) := by decide +kernel
theorem dX5_walk_75 : decode cX5_walk 75 = .ok (.getfield 18, 3) := by decide +kernel
theorem dX5_walk_78 : decode cX5_walk 78 = .ok (.iload 6, 2) := by decide +kernel
theorem dX5_walk_80 : decode cX5_walk 80 = .ok (.invokevirtual 63, 3) := by decide +kernel
theorem dX5_walk_83 : decode cX5_walk 83 = .ok (.istore 7, 2) := by decide +kernel
theorem dX5_walk_85 : decode cX5_walk 85 = .ok (.aload_n 0, 1) := by decide +kernel
theorem dX5_walk_86 : decode cX5_walk 86 = .ok (.getfield 9, 3) := by decide +kernel
theorem dX5_walk_89 : decode cX5_walk 89 = .ok (.iload_n 1, 1) := by decide +kernel
theorem dX5_walk_90 : decode cX5_walk 90 = .ok (.iload 6, 2) := by decide +kernel
theorem dX5_walk_92 : decode cX5_walk 92 = .ok (.iastore, 1) := by decide +kernel
theorem dX5_walk_93 : decode cX5_walk 93 = .ok (.aload_n 0, 1) := by decide +kernel
theorem dX5_walk_94 : decode cX5_walk 94 = .ok (.iload_n 1, 1) := by decide +kernel
theorem dX5_walk_95 : decode cX5_walk 95 = .ok (.iconst 1, 1) := by decide +kernel
theorem dX5_walk_96 : decode cX5_walk 96 = .ok (.iadd, 1) := by decide +kernel
theorem dX5_walk_97 : decode cX5_walk 97 = .ok (.iload 7, 2) := by decide +kernel
theorem dX5_walk_99 : decode cX5_walk 99 = .ok (.aload_n 0, 1) := by decide +kernel
theorem dX5_walk_100 : decode cX5_walk 100 = .ok (.getfield 18, 3) := by decide +kernel
theorem dX5_walk_103 : decode cX5_walk 103 = .ok (.getfield 69, 3) := by decide +kernel
theorem dX5_walk_106 : decode cX5_walk 106 = .ok (.iload 6, 2) := by decide +kernel
theorem dX5_walk_108 : decode cX5_walk 108 = .ok (.iaload, 1) := by decide +kernel
theorem dX5_walk_109 : decode cX5_walk 109 = .ok (.iload 4, 2) := by decide +kernel
theorem dX5_walk_111 : decode cX5_walk 111 = .ok (.iconst 1, 1) := by decide +kernel
theorem dX5_walk_112 : decode cX5_walk 112 = .ok (.iload 6, 2) := by decide +kernel
theorem dX5_walk_114 : decode cX5_walk 114 = .ok (.ishl, 1) := by decide +kernel
theorem dX5_walk_115 : decode cX5_walk 115 = .ok (.ior, 1) := by decide +kernel
theorem dX5_walk_116 : decode cX5_walk 116 = .ok (.iload 5, 2) := by decide +kernel
theorem dX5_walk_118 : decode cX5_walk 118 = .ok (.aload_n 0, 1) := by decide +kernel
theorem dX5_walk_119 : decode cX5_walk 119 = .ok (.iload 6, 2) := by decide +kernel
theorem dX5_walk_121 : decode cX5_walk 121 = .ok (.aload_n 0, 1) := by decide +kernel
theorem dX5_walk_122 : decode cX5_walk 122 = .ok (.getfield 33, 3) := by decide +kernel
theorem dX5_walk_125 : decode cX5_walk 125 = .ok (.iload 7, 2) := by decide +kernel
theorem dX5_walk_127 : decode cX5_walk 127 = .ok (.invokevirtual 72, 3) := by decide +kernel
theorem dX5_walk_130 : decode cX5_walk 130 = .ok (.invokevirtual 76, 3) := by decide +kernel
theorem dX5_walk_133 : decode cX5_walk 133 = .ok (.iadd, 1) := by decide +kernel
theorem dX5_walk_134 : decode cX5_walk 134 = .ok (.invokevirtual 53, 3) := by decide +kernel
theorem dX5_walk_137 : decode cX5_walk 137 = .ok (.iinc 6 1, 3) := by decide +kernel
theorem dX5_walk_140 : decode cX5_walk 140 = .ok (.goto (-97), 3) := by decide +kernel
theorem dX5_walk_143 : decode cX5_walk 143 = .ok (.return_, 1) := by decide +kernel
theorem dX5_lossOf_0 : decode cX5_lossOf 0 = .ok (.iload_n 2, 1) := by decide +kernel
theorem dX5_lossOf_1 : decode cX5_lossOf 1 = .ok (.aload_n 0, 1) := by decide +kernel
theorem dX5_lossOf_2 : decode cX5_lossOf 2 = .ok (.getfield 18, 3) := by decide +kernel
theorem dX5_lossOf_5 : decode cX5_lossOf 5 = .ok (.getfield 80, 3) := by decide +kernel
theorem dX5_lossOf_8 : decode cX5_lossOf 8 = .ok (.iload_n 1, 1) := by decide +kernel
theorem dX5_lossOf_9 : decode cX5_lossOf 9 = .ok (.iaload, 1) := by decide +kernel
theorem dX5_lossOf_10 : decode cX5_lossOf 10 = .ok (.if_icmp .le 7, 3) := by decide +kernel
theorem dX5_lossOf_13 : decode cX5_lossOf 13 = .ok (.iconst 1, 1) := by decide +kernel
theorem dX5_lossOf_14 : decode cX5_lossOf 14 = .ok (.goto 4, 3) := by decide +kernel
theorem dX5_lossOf_17 : decode cX5_lossOf 17 = .ok (.iconst 0, 1) := by decide +kernel
theorem dX5_lossOf_18 : decode cX5_lossOf 18 = .ok (.istore_n 3, 1) := by decide +kernel
theorem dX5_lossOf_19 : decode cX5_lossOf 19 = .ok (.aload_n 0, 1) := by decide +kernel
theorem dX5_lossOf_20 : decode cX5_lossOf 20 = .ok (.getfield 22, 3) := by decide +kernel
theorem dX5_lossOf_23 : decode cX5_lossOf 23 = .ok (.lookupswitch 62 #[(0, 25), (1, 52)], 25) := by decide +kernel
theorem dX5_lossOf_48 : decode cX5_lossOf 48 = .ok (.aload_n 0, 1) := by decide +kernel
theorem dX5_lossOf_49 : decode cX5_lossOf 49 = .ok (.getfield 18, 3) := by decide +kernel
theorem dX5_lossOf_52 : decode cX5_lossOf 52 = .ok (.getfield 42, 3) := by decide +kernel
theorem dX5_lossOf_55 : decode cX5_lossOf 55 = .ok (.iload_n 1, 1) := by decide +kernel
theorem dX5_lossOf_56 : decode cX5_lossOf 56 = .ok (.iaload, 1) := by decide +kernel
theorem dX5_lossOf_57 : decode cX5_lossOf 57 = .ok (.aload_n 0, 1) := by decide +kernel
theorem dX5_lossOf_58 : decode cX5_lossOf 58 = .ok (.getfield 18, 3) := by decide +kernel
theorem dX5_lossOf_61 : decode cX5_lossOf 61 = .ok (.iload_n 1, 1) := by decide +kernel
theorem dX5_lossOf_62 : decode cX5_lossOf 62 = .ok (.iload_n 2, 1) := by decide +kernel
theorem dX5_lossOf_63 : decode cX5_lossOf 63 = .ok (.aload_n 0, 1) := by decide +kernel
theorem dX5_lossOf_64 : decode cX5_lossOf 64 = .ok (.getfield 33, 3) := by decide +kernel
theorem dX5_lossOf_67 : decode cX5_lossOf 67 = .ok (.getfield 83, 3) := by decide +kernel
theorem dX5_lossOf_70 : decode cX5_lossOf 70 = .ok (.invokevirtual 86, 3) := by decide +kernel
theorem dX5_lossOf_73 : decode cX5_lossOf 73 = .ok (.isub, 1) := by decide +kernel
theorem dX5_lossOf_74 : decode cX5_lossOf 74 = .ok (.ireturn, 1) := by decide +kernel
theorem dX5_lossOf_75 : decode cX5_lossOf 75 = .ok (.iload_n 3, 1) := by decide +kernel
theorem dX5_lossOf_76 : decode cX5_lossOf 76 = .ok (.ifCond .eq 7, 3) := by decide +kernel
theorem dX5_lossOf_79 : decode cX5_lossOf 79 = .ok (.iconst 1, 1) := by decide +kernel
theorem dX5_lossOf_80 : decode cX5_lossOf 80 = .ok (.goto 4, 3) := by decide +kernel
theorem dX5_lossOf_83 : decode cX5_lossOf 83 = .ok (.iconst 0, 1) := by decide +kernel
theorem dX5_lossOf_84 : decode cX5_lossOf 84 = .ok (.ireturn, 1) := by decide +kernel
theorem dX5_lossOf_85 : decode cX5_lossOf 85 = .ok (.iload_n 1, 1) := by decide +kernel
theorem dX5_lossOf_86 : decode cX5_lossOf 86 = .ok (.aload_n 0, 1) := by decide +kernel
theorem dX5_lossOf_87 : decode cX5_lossOf 87 = .ok (.getfield 18, 3) := by decide +kernel
theorem dX5_lossOf_90 : decode cX5_lossOf 90 = .ok (.getfield 37, 3) := by decide +kernel
theorem dX5_lossOf_93 : decode cX5_lossOf 93 = .ok (.iconst 1, 1) := by decide +kernel
theorem dX5_lossOf_94 : decode cX5_lossOf 94 = .ok (.isub, 1) := by decide +kernel
theorem dX5_lossOf_95 : decode cX5_lossOf 95 = .ok (.if_icmp .ne 5, 3) := by decide +kernel
theorem dX5_lossOf_98 : decode cX5_lossOf 98 = .ok (.iload_n 2, 1) := by decide +kernel
theorem dX5_lossOf_99 : decode cX5_lossOf 99 = .ok (.ireturn, 1) := by decide +kernel
theorem dX5_lossOf_100 : decode cX5_lossOf 100 = .ok (.iload_n 3, 1) := by decide +kernel
theorem dX5_lossOf_101 : decode cX5_lossOf 101 = .ok (.ifCond .eq 8, 3) := by decide +kernel
theorem dX5_lossOf_104 : decode cX5_lossOf 104 = .ok (.ldc 29, 2) := by decide +kernel
theorem dX5_lossOf_106 : decode cX5_lossOf 106 = .ok (.goto 4, 3) := by decide +kernel
theorem dX5_lossOf_109 : decode cX5_lossOf 109 = .ok (.iconst 0, 1) := by decide +kernel
theorem dX5_lossOf_110 : decode cX5_lossOf 110 = .ok (.ireturn, 1) := by decide +kernel
theorem dX6_init_0 : decode cX6_init 0 = .ok (.aload_n 0, 1) := by decide +kernel
theorem dX6_init_1 : decode cX6_init 1 = .ok (.invokespecial 3, 3) := by decide +kernel
theorem dX6_init_4 : decode cX6_init 4 = .ok (.aload_n 0, 1) := by decide +kernel
theorem dX6_init_5 : decode cX6_init 5 = .ok (.bipush 18, 2) := by decide +kernel
theorem dX6_init_7 : decode cX6_init 7 = .ok (.newarray .int, 2) := by decide +kernel
theorem dX6_init_9 : decode cX6_init 9 = .ok (.putfield 11, 3) := by decide +kernel
theorem dX6_init_12 : decode cX6_init 12 = .ok (.aload_n 0, 1) := by decide +kernel
theorem dX6_init_13 : decode cX6_init 13 = .ok (.iconst 0, 1) := by decide +kernel
theorem dX6_init_14 : decode cX6_init 14 = .ok (.putfield 15, 3) := by decide +kernel
theorem dX6_init_17 : decode cX6_init 17 = .ok (.aload_n 0, 1) := by decide +kernel
theorem dX6_init_18 : decode cX6_init 18 = .ok (.aload_n 1, 1) := by decide +kernel
theorem dX6_init_19 : decode cX6_init 19 = .ok (.putfield 19, 3) := by decide +kernel
theorem dX6_init_22 : decode cX6_init 22 = .ok (.return_, 1) := by decide +kernel
theorem dX6_has_0 : decode cX6_has 0 = .ok (.iload_n 1, 1) := by decide +kernel
theorem dX6_has_1 : decode cX6_has 1 = .ok (.iconst 0, 1) := by decide +kernel
theorem dX6_has_2 : decode cX6_has 2 = .ok (.aload_n 0, 1) := by decide +kernel
theorem dX6_has_3 : decode cX6_has 3 = .ok (.getfield 15, 3) := by decide +kernel
theorem dX6_has_6 : decode cX6_has 6 = .ok (.iconst 1, 1) := by decide +kernel
theorem dX6_has_7 : decode cX6_has 7 = .ok (.isub, 1) := by decide +kernel
theorem dX6_has_8 : decode cX6_has 8 = .ok (.invokestatic 23, 3) := by decide +kernel
theorem dX6_has_11 : decode cX6_has 11 = .ok (.ifCond .eq 16, 3) := by decide +kernel
theorem dX6_has_14 : decode cX6_has 14 = .ok (.iload_n 2, 1) := by decide +kernel
theorem dX6_has_15 : decode cX6_has 15 = .ok (.iconst 0, 1) := by decide +kernel
theorem dX6_has_16 : decode cX6_has 16 = .ok (.iconst 2, 1) := by decide +kernel
theorem dX6_has_17 : decode cX6_has 17 = .ok (.invokestatic 23, 3) := by decide +kernel
theorem dX6_has_20 : decode cX6_has 20 = .ok (.ifCond .eq 7, 3) := by decide +kernel
theorem dX6_has_23 : decode cX6_has 23 = .ok (.iconst 1, 1) := by decide +kernel
theorem dX6_has_24 : decode cX6_has 24 = .ok (.goto 4, 3) := by decide +kernel
theorem dX6_has_27 : decode cX6_has 27 = .ok (.iconst 0, 1) := by decide +kernel
theorem dX6_has_28 : decode cX6_has 28 = .ok (.ireturn, 1) := by decide +kernel
theorem dX6_fill_0 : decode cX6_fill 0 = .ok (.aload_n 0, 1) := by decide +kernel
theorem dX6_fill_1 : decode cX6_fill 1 = .ok (.getfield 19, 3) := by decide +kernel
theorem dX6_fill_4 : decode cX6_fill 4 = .ok (.aload_n 1, 1) := by decide +kernel
theorem dX6_fill_5 : decode cX6_fill 5 = .ok (.aload_n 2, 1) := by decide +kernel
theorem dX6_fill_6 : decode cX6_fill 6 = .ok (.invokevirtual 27, 3) := by decide +kernel
theorem dX6_fill_9 : decode cX6_fill 9 = .ok (.aload_n 0, 1) := by decide +kernel
theorem dX6_fill_10 : decode cX6_fill 10 = .ok (.aload_n 1, 1) := by decide +kernel
theorem dX6_fill_11 : decode cX6_fill 11 = .ok (.getfield 33, 3) := by decide +kernel
theorem dX6_fill_14 : decode cX6_fill 14 = .ok (.putfield 15, 3) := by decide +kernel
theorem dX6_fill_17 : decode cX6_fill 17 = .ok (.iconst 0, 1) := by decide +kernel
theorem dX6_fill_18 : decode cX6_fill 18 = .ok (.istore_n 3, 1) := by decide +kernel
theorem dX6_fill_19 : decode cX6_fill 19 = .ok (.iload_n 3, 1) := by decide +kernel
theorem dX6_fill_20 : decode cX6_fill 20 = .ok (.aload_n 1, 1) := by decide +kernel
theorem dX6_fill_21 : decode cX6_fill 21 = .ok (.getfield 33, 3) := by decide +kernel
theorem dX6_fill_24 : decode cX6_fill 24 = .ok (.if_icmp .ge 77, 3) := by decide +kernel
theorem dX6_fill_27 : decode cX6_fill 27 = .ok (.aload_n 2, 1) := by decide +kernel
theorem dX6_fill_28 : decode cX6_fill 28 = .ok (.iload_n 3, 1) := by decide +kernel
theorem dX6_fill_29 : decode cX6_fill 29 = .ok (.iaload, 1) := by decide +kernel
theorem dX6_fill_30 : decode cX6_fill 30 = .ok (.istore 4, 2) := by decide +kernel
theorem dX6_fill_32 : decode cX6_fill 32 = .ok (.aload_n 0, 1) := by decide +kernel
theorem dX6_fill_33 : decode cX6_fill 33 = .ok (.getfield 11, 3) := by decide +kernel
theorem dX6_fill_36 : decode cX6_fill 36 = .ok (.iload_n 3, 1) := by decide +kernel
theorem dX6_fill_37 : decode cX6_fill 37 = .ok (.iconst 3, 1) := by decide +kernel
theorem dX6_fill_38 : decode cX6_fill 38 = .ok (.imul, 1) := by decide +kernel
theorem dX6_fill_39 : decode cX6_fill 39 = .ok (.iload 4, 2) := by decide +kernel
theorem dX6_fill_41 : decode cX6_fill 41 = .ok (.iastore, 1) := by decide +kernel
theorem dX6_fill_42 : decode cX6_fill 42 = .ok (.aload_n 0, 1) := by decide +kernel
theorem dX6_fill_43 : decode cX6_fill 43 = .ok (.getfield 11, 3) := by decide +kernel
theorem dX6_fill_46 : decode cX6_fill 46 = .ok (.iload_n 3, 1) := by decide +kernel
theorem dX6_fill_47 : decode cX6_fill 47 = .ok (.iconst 3, 1) := by decide +kernel
theorem dX6_fill_48 : decode cX6_fill 48 = .ok (.imul, 1) := by decide +kernel
theorem dX6_fill_49 : decode cX6_fill 49 = .ok (.iconst 1, 1) := by decide +kernel
theorem dX6_fill_50 : decode cX6_fill 50 = .ok (.iadd, 1) := by decide +kernel
theorem dX6_fill_51 : decode cX6_fill 51 = .ok (.aload_n 0, 1) := by decide +kernel
theorem dX6_fill_52 : decode cX6_fill 52 = .ok (.getfield 19, 3) := by decide +kernel
theorem dX6_fill_55 : decode cX6_fill 55 = .ok (.getfield 36, 3) := by decide +kernel
theorem dX6_fill_58 : decode cX6_fill 58 = .ok (.iload 4, 2) := by decide +kernel
theorem dX6_fill_60 : decode cX6_fill 60 = .ok (.iaload, 1) := by decide +kernel
theorem dX6_fill_61 : decode cX6_fill 61 = .ok (.iastore, 1) := by decide +kernel
theorem dX6_fill_62 : decode cX6_fill 62 = .ok (.aload_n 0, 1) := by decide +kernel
theorem dX6_fill_63 : decode cX6_fill 63 = .ok (.getfield 11, 3) := by decide +kernel
theorem dX6_fill_66 : decode cX6_fill 66 = .ok (.iload_n 3, 1) := by decide +kernel
theorem dX6_fill_67 : decode cX6_fill 67 = .ok (.iconst 3, 1) := by decide +kernel
theorem dX6_fill_68 : decode cX6_fill 68 = .ok (.imul, 1) := by decide +kernel
theorem dX6_fill_69 : decode cX6_fill 69 = .ok (.iconst 2, 1) := by decide +kernel
theorem dX6_fill_70 : decode cX6_fill 70 = .ok (.iadd, 1) := by decide +kernel
theorem dX6_fill_71 : decode cX6_fill 71 = .ok (.aload_n 1, 1) := by decide +kernel
theorem dX6_fill_72 : decode cX6_fill 72 = .ok (.iload 4, 2) := by decide +kernel
theorem dX6_fill_74 : decode cX6_fill 74 = .ok (.aload_n 0, 1) := by decide +kernel
theorem dX6_fill_75 : decode cX6_fill 75 = .ok (.getfield 19, 3) := by decide +kernel
theorem dX6_fill_78 : decode cX6_fill 78 = .ok (.getfield 36, 3) := by decide +kernel
theorem dX6_fill_81 : decode cX6_fill 81 = .ok (.iload 4, 2) := by decide +kernel
theorem dX6_fill_83 : decode cX6_fill 83 = .ok (.iaload, 1) := by decide +kernel
theorem dX6_fill_84 : decode cX6_fill 84 = .ok (.aload_n 0, 1) := by decide +kernel
theorem dX6_fill_85 : decode cX6_fill 85 = .ok (.getfield 19, 3) := by decide +kernel
theorem dX6_fill_88 : decode cX6_fill 88 = .ok (.getfield 39, 3) := by decide +kernel
theorem dX6_fill_91 : decode cX6_fill 91 = .ok (.invokevirtual 42, 3) := by decide +kernel
theorem dX6_fill_94 : decode cX6_fill 94 = .ok (.iastore, 1) := by decide +kernel
theorem dX6_fill_95 : decode cX6_fill 95 = .ok (.iinc 3 1, 3) := by decide +kernel
theorem dX6_fill_98 : decode cX6_fill 98 = .ok (.goto (-79), 3) := by decide +kernel
theorem dX6_fill_101 : decode cX6_fill 101 = .ok (.return_, 1) := by decide +kernel
theorem dX6_firstWrong_0 : decode cX6_firstWrong 0 = .ok (.iconst 0, 1) := by decide +kernel
theorem dX6_firstWrong_1 : decode cX6_firstWrong 1 = .ok (.istore_n 2, 1) := by decide +kernel
theorem dX6_firstWrong_2 : decode cX6_firstWrong 2 = .ok (.iconst 0, 1) := by decide +kernel
theorem dX6_firstWrong_3 : decode cX6_firstWrong 3 = .ok (.istore_n 3, 1) := by decide +kernel
theorem dX6_firstWrong_4 : decode cX6_firstWrong 4 = .ok (.iconst 0, 1) := by decide +kernel
theorem dX6_firstWrong_5 : decode cX6_firstWrong 5 = .ok (.istore 4, 2) := by decide +kernel
theorem dX6_firstWrong_7 : decode cX6_firstWrong 7 = .ok (.iconst 0, 1) := by decide +kernel
theorem dX6_firstWrong_8 : decode cX6_firstWrong 8 = .ok (.istore 5, 2) := by decide +kernel
theorem dX6_firstWrong_10 : decode cX6_firstWrong 10 = .ok (.iload 5, 2) := by decide +kernel
theorem dX6_firstWrong_12 : decode cX6_firstWrong 12 = .ok (.aload_n 0, 1) := by decide +kernel
theorem dX6_firstWrong_13 : decode cX6_firstWrong 13 = .ok (.getfield 15, 3) := by decide +kernel
theorem dX6_firstWrong_16 : decode cX6_firstWrong 16 = .ok (.if_icmp .ge 139, 3) := by decide +kernel
theorem dX6_firstWrong_19 : decode cX6_firstWrong 19 = .ok (.aload_n 0, 1) := by decide +kernel
theorem dX6_firstWrong_20 : decode cX6_firstWrong 20 = .ok (.getfield 11, 3) := by decide +kernel
theorem dX6_firstWrong_23 : decode cX6_firstWrong 23 = .ok (.iload 5, 2) := by decide +kernel
theorem dX6_firstWrong_25 : decode cX6_firstWrong 25 = .ok (.iconst 3, 1) := by decide +kernel
theorem dX6_firstWrong_26 : decode cX6_firstWrong 26 = .ok (.imul, 1) := by decide +kernel
theorem dX6_firstWrong_27 : decode cX6_firstWrong 27 = .ok (.iaload, 1) := by decide +kernel
theorem dX6_firstWrong_28 : decode cX6_firstWrong 28 = .ok (.istore 6, 2) := by decide +kernel
theorem dX6_firstWrong_30 : decode cX6_firstWrong 30 = .ok (.aload_n 1, 1) := by decide +kernel
theorem dX6_firstWrong_31 : decode cX6_firstWrong 31 = .ok (.iload 6, 2) := by decide +kernel
theorem dX6_firstWrong_33 : decode cX6_firstWrong 33 = .ok (.invokevirtual 46, 3) := by decide +kernel
theorem dX6_firstWrong_36 : decode cX6_firstWrong 36 = .ok (.ifCond .eq 13, 3) := by decide +kernel
theorem dX6_firstWrong_39 : decode cX6_firstWrong 39 = .ok (.iload 4, 2) := by decide +kernel
theorem dX6_firstWrong_41 : decode cX6_firstWrong 41 = .ok (.iload 6, 2) := by decide +kernel
theorem dX6_firstWrong_43 : decode cX6_firstWrong 43 = .ok (.ishr, 1) := by decide +kernel
theorem dX6_firstWrong_44 : decode cX6_firstWrong 44 = .ok (.iconst 1, 1) := by decide +kernel
theorem dX6_firstWrong_45 : decode cX6_firstWrong 45 = .ok (.iand, 1) := by decide +kernel
theorem dX6_firstWrong_46 : decode cX6_firstWrong 46 = .ok (.ifCond .eq 8, 3) := by decide +kernel
theorem dX6_firstWrong_49 : decode cX6_firstWrong 49 = .ok (.iload 5, 2) := by decide +kernel
theorem dX6_firstWrong_51 : decode cX6_firstWrong 51 = .ok (.iconst 1, 1) := by decide +kernel
theorem dX6_firstWrong_52 : decode cX6_firstWrong 52 = .ok (.iadd, 1) := by decide +kernel
theorem dX6_firstWrong_53 : decode cX6_firstWrong 53 = .ok (.ireturn, 1) := by decide +kernel
theorem dX6_firstWrong_54 : decode cX6_firstWrong 54 = .ok (.iload 4, 2) := by decide +kernel
theorem dX6_firstWrong_56 : decode cX6_firstWrong 56 = .ok (.iconst 1, 1) := by decide +kernel
theorem dX6_firstWrong_57 : decode cX6_firstWrong 57 = .ok (.iload 6, 2) := by decide +kernel
theorem dX6_firstWrong_59 : decode cX6_firstWrong 59 = .ok (.ishl, 1) := by decide +kernel
theorem dX6_firstWrong_60 : decode cX6_firstWrong 60 = .ok (.ior, 1) := by decide +kernel
theorem dX6_firstWrong_61 : decode cX6_firstWrong 61 = .ok (.istore 4, 2) := by decide +kernel
theorem dX6_firstWrong_63 : decode cX6_firstWrong 63 = .ok (.aload_n 0, 1) := by decide +kernel
theorem dX6_firstWrong_64 : decode cX6_firstWrong 64 = .ok (.getfield 19, 3) := by decide +kernel
theorem dX6_firstWrong_67 : decode cX6_firstWrong 67 = .ok (.iload_n 2, 1) := by decide +kernel
theorem dX6_firstWrong_68 : decode cX6_firstWrong 68 = .ok (.iload_n 3, 1) := by decide +kernel
theorem dX6_firstWrong_69 : decode cX6_firstWrong 69 = .ok (.aload_n 1, 1) := by decide +kernel
theorem dX6_firstWrong_70 : decode cX6_firstWrong 70 = .ok (.iload 6, 2) := by decide +kernel
theorem dX6_firstWrong_72 : decode cX6_firstWrong 72 = .ok (.invokevirtual 50, 3) := by decide +kernel
theorem dX6_firstWrong_75 : decode cX6_firstWrong 75 = .ok (.istore_n 2, 1) := by decide +kernel
theorem dX6_firstWrong_76 : decode cX6_firstWrong 76 = .ok (.aload_n 1, 1) := by decide +kernel
theorem dX6_firstWrong_77 : decode cX6_firstWrong 77 = .ok (.getfield 54, 3) := by decide +kernel
theorem dX6_firstWrong_80 : decode cX6_firstWrong 80 = .ok (.iload 6, 2) := by decide +kernel
theorem dX6_firstWrong_82 : decode cX6_firstWrong 82 = .ok (.iaload, 1) := by decide +kernel
theorem dX6_firstWrong_83 : decode cX6_firstWrong 83 = .ok (.istore_n 3, 1) := by decide +kernel
theorem dX6_firstWrong_84 : decode cX6_firstWrong 84 = .ok (.aload_n 0, 1) := by decide +kernel
theorem dX6_firstWrong_85 : decode cX6_firstWrong 85 = .ok (.getfield 19, 3) := by decide +kernel
theorem dX6_firstWrong_88 : decode cX6_firstWrong 88 = .ok (.iload_n 2, 1) := by decide +kernel
theorem dX6_firstWrong_89 : decode cX6_firstWrong 89 = .ok (.invokevirtual 57, 3) := by decide +kernel
theorem dX6_firstWrong_92 : decode cX6_firstWrong 92 = .ok (.istore 7, 2) := by decide +kernel
theorem dX6_firstWrong_94 : decode cX6_firstWrong 94 = .ok (.aload_n 0, 1) := by decide +kernel
theorem dX6_firstWrong_95 : decode cX6_firstWrong 95 = .ok (.getfield 11, 3) := by decide +kernel
theorem dX6_firstWrong_98 : decode cX6_firstWrong 98 = .ok (.iload 5, 2) := by decide +kernel
theorem dX6_firstWrong_100 : decode cX6_firstWrong 100 = .ok (.iconst 3, 1) := by decide +kernel
theorem dX6_firstWrong_101 : decode cX6_firstWrong 101 = .ok (.imul, 1) := by decide +kernel
theorem dX6_firstWrong_102 : decode cX6_firstWrong 102 = .ok (.iconst 1, 1) := by decide +kernel
theorem dX6_firstWrong_103 : decode cX6_firstWrong 103 = .ok (.iadd, 1) := by decide +kernel
theorem dX6_firstWrong_104 : decode cX6_firstWrong 104 = .ok (.iaload, 1) := by decide +kernel
theorem dX6_firstWrong_105 : decode cX6_firstWrong 105 = .ok (.iload 7, 2) := by decide +kernel
theorem dX6_firstWrong_107 : decode cX6_firstWrong 107 = .ok (.if_icmp .eq 8, 3) := by decide +kernel
theorem dX6_firstWrong_110 : decode cX6_firstWrong 110 = .ok (.iload 5, 2) := by decide +kernel
theorem dX6_firstWrong_112 : decode cX6_firstWrong 112 = .ok (.iconst 1, 1) := by decide +kernel
theorem dX6_firstWrong_113 : decode cX6_firstWrong 113 = .ok (.iadd, 1) := by decide +kernel
theorem dX6_firstWrong_114 : decode cX6_firstWrong 114 = .ok (.ireturn, 1) := by decide +kernel
theorem dX6_firstWrong_115 : decode cX6_firstWrong 115 = .ok (.aload_n 0, 1) := by decide +kernel
theorem dX6_firstWrong_116 : decode cX6_firstWrong 116 = .ok (.getfield 11, 3) := by decide +kernel
theorem dX6_firstWrong_119 : decode cX6_firstWrong 119 = .ok (.iload 5, 2) := by decide +kernel
theorem dX6_firstWrong_121 : decode cX6_firstWrong 121 = .ok (.iconst 3, 1) := by decide +kernel
theorem dX6_firstWrong_122 : decode cX6_firstWrong 122 = .ok (.imul, 1) := by decide +kernel
theorem dX6_firstWrong_123 : decode cX6_firstWrong 123 = .ok (.iconst 2, 1) := by decide +kernel
theorem dX6_firstWrong_124 : decode cX6_firstWrong 124 = .ok (.iadd, 1) := by decide +kernel
theorem dX6_firstWrong_125 : decode cX6_firstWrong 125 = .ok (.iaload, 1) := by decide +kernel
theorem dX6_firstWrong_126 : decode cX6_firstWrong 126 = .ok (.aload_n 1, 1) := by decide +kernel
theorem dX6_firstWrong_127 : decode cX6_firstWrong 127 = .ok (.iload 6, 2) := by decide +kernel
theorem dX6_firstWrong_129 : decode cX6_firstWrong 129 = .ok (.iload 7, 2) := by decide +kernel
theorem dX6_firstWrong_131 : decode cX6_firstWrong 131 = .ok (.aload_n 0, 1) := by decide +kernel
theorem dX6_firstWrong_132 : decode cX6_firstWrong 132 = .ok (.getfield 19, 3) := by decide +kernel
theorem dX6_firstWrong_135 : decode cX6_firstWrong 135 = .ok (.getfield 39, 3) := by decide +kernel
theorem dX6_firstWrong_138 : decode cX6_firstWrong 138 = .ok (.invokevirtual 42, 3) := by decide +kernel
theorem dX6_firstWrong_141 : decode cX6_firstWrong 141 = .ok (.if_icmp .eq 8, 3) := by decide +kernel
theorem dX6_firstWrong_144 : decode cX6_firstWrong 144 = .ok (.iload 5, 2) := by decide +kernel
theorem dX6_firstWrong_146 : decode cX6_firstWrong 146 = .ok (.iconst 1, 1) := by decide +kernel
theorem dX6_firstWrong_147 : decode cX6_firstWrong 147 = .ok (.iadd, 1) := by decide +kernel
theorem dX6_firstWrong_148 : decode cX6_firstWrong 148 = .ok (.ireturn, 1) := by decide +kernel
theorem dX6_firstWrong_149 : decode cX6_firstWrong 149 = .ok (.iinc 5 1, 3) := by decide +kernel
theorem dX6_firstWrong_152 : decode cX6_firstWrong 152 = .ok (.goto (-142), 3) := by decide +kernel
theorem dX6_firstWrong_155 : decode cX6_firstWrong 155 = .ok (.aload_n 0, 1) := by decide +kernel
theorem dX6_firstWrong_156 : decode cX6_firstWrong 156 = .ok (.getfield 15, 3) := by decide +kernel
theorem dX6_firstWrong_159 : decode cX6_firstWrong 159 = .ok (.aload_n 1, 1) := by decide +kernel
theorem dX6_firstWrong_160 : decode cX6_firstWrong 160 = .ok (.getfield 33, 3) := by decide +kernel
theorem dX6_firstWrong_163 : decode cX6_firstWrong 163 = .ok (.if_icmp .ge 9, 3) := by decide +kernel
theorem dX6_firstWrong_166 : decode cX6_firstWrong 166 = .ok (.sipush 222, 3) := by decide +kernel
theorem dX6_firstWrong_169 : decode cX6_firstWrong 169 = .ok (.goto 4, 3) := by decide +kernel
theorem dX6_firstWrong_172 : decode cX6_firstWrong 172 = .ok (.iconst 0, 1) := by decide +kernel
theorem dX6_firstWrong_173 : decode cX6_firstWrong 173 = .ok (.ireturn, 1) := by decide +kernel
theorem dX7_init_0 : decode cX7_init 0 = .ok (.aload_n 0, 1) := by decide +kernel
theorem dX7_init_1 : decode cX7_init 1 = .ok (.invokespecial 3, 3) := by decide +kernel
theorem dX7_init_4 : decode cX7_init 4 = .ok (.aload_n 0, 1) := by decide +kernel
theorem dX7_init_5 : decode cX7_init 5 = .ok (.iconst 4, 1) := by decide +kernel
theorem dX7_init_6 : decode cX7_init 6 = .ok (.newarray .int, 2) := by decide +kernel
theorem dX7_init_8 : decode cX7_init 8 = .ok (.dup, 1) := by decide +kernel
theorem dX7_init_9 : decode cX7_init 9 = .ok (.iconst 0, 1) := by decide +kernel
theorem dX7_init_10 : decode cX7_init 10 = .ok (.iconst (-1), 1) := by decide +kernel
theorem dX7_init_11 : decode cX7_init 11 = .ok (.iastore, 1) := by decide +kernel
theorem dX7_init_12 : decode cX7_init 12 = .ok (.dup, 1) := by decide +kernel
theorem dX7_init_13 : decode cX7_init 13 = .ok (.iconst 1, 1) := by decide +kernel
theorem dX7_init_14 : decode cX7_init 14 = .ok (.iconst (-1), 1) := by decide +kernel
theorem dX7_init_15 : decode cX7_init 15 = .ok (.iastore, 1) := by decide +kernel
theorem dX7_init_16 : decode cX7_init 16 = .ok (.dup, 1) := by decide +kernel
theorem dX7_init_17 : decode cX7_init 17 = .ok (.iconst 2, 1) := by decide +kernel
theorem dX7_init_18 : decode cX7_init 18 = .ok (.iconst (-1), 1) := by decide +kernel
theorem dX7_init_19 : decode cX7_init 19 = .ok (.iastore, 1) := by decide +kernel
theorem dX7_init_20 : decode cX7_init 20 = .ok (.dup, 1) := by decide +kernel
theorem dX7_init_21 : decode cX7_init 21 = .ok (.iconst 3, 1) := by decide +kernel
theorem dX7_init_22 : decode cX7_init 22 = .ok (.iconst (-1), 1) := by decide +kernel
theorem dX7_init_23 : decode cX7_init 23 = .ok (.iastore, 1) := by decide +kernel
theorem dX7_init_24 : decode cX7_init 24 = .ok (.putfield 11, 3) := by decide +kernel
theorem dX7_init_27 : decode cX7_init 27 = .ok (.aload_n 0, 1) := by decide +kernel
theorem dX7_init_28 : decode cX7_init 28 = .ok (.iconst 4, 1) := by decide +kernel
theorem dX7_init_29 : decode cX7_init 29 = .ok (.newarray .int, 2) := by decide +kernel
theorem dX7_init_31 : decode cX7_init 31 = .ok (.putfield 15, 3) := by decide +kernel
theorem dX7_init_34 : decode cX7_init 34 = .ok (.aload_n 0, 1) := by decide +kernel
theorem dX7_init_35 : decode cX7_init 35 = .ok (.sipush 160, 3) := by decide +kernel
theorem dX7_init_38 : decode cX7_init 38 = .ok (.newarray .int, 2) := by decide +kernel
theorem dX7_init_40 : decode cX7_init 40 = .ok (.putfield 18, 3) := by decide +kernel
theorem dX7_init_43 : decode cX7_init 43 = .ok (.aload_n 0, 1) := by decide +kernel
theorem dX7_init_44 : decode cX7_init 44 = .ok (.iconst 4, 1) := by decide +kernel
theorem dX7_init_45 : decode cX7_init 45 = .ok (.newarray .int, 2) := by decide +kernel
theorem dX7_init_47 : decode cX7_init 47 = .ok (.putfield 21, 3) := by decide +kernel
theorem dX7_init_50 : decode cX7_init 50 = .ok (.aload_n 0, 1) := by decide +kernel
theorem dX7_init_51 : decode cX7_init 51 = .ok (.iconst 4, 1) := by decide +kernel
theorem dX7_init_52 : decode cX7_init 52 = .ok (.newarray .int, 2) := by decide +kernel
theorem dX7_init_54 : decode cX7_init 54 = .ok (.putfield 24, 3) := by decide +kernel
theorem dX7_init_57 : decode cX7_init 57 = .ok (.aload_n 0, 1) := by decide +kernel
theorem dX7_init_58 : decode cX7_init 58 = .ok (.iconst 4, 1) := by decide +kernel
theorem dX7_init_59 : decode cX7_init 59 = .ok (.newarray .int, 2) := by decide +kernel
theorem dX7_init_61 : decode cX7_init 61 = .ok (.putfield 27, 3) := by decide +kernel
theorem dX7_init_64 : decode cX7_init 64 = .ok (.return_, 1) := by decide +kernel
theorem dX7_isPlace_0 : decode cX7_isPlace 0 = .ok (.iload_n 0, 1) := by decide +kernel
theorem dX7_isPlace_1 : decode cX7_isPlace 1 = .ok (.iconst 0, 1) := by decide +kernel
theorem dX7_isPlace_2 : decode cX7_isPlace 2 = .ok (.iconst 3, 1) := by decide +kernel
theorem dX7_isPlace_3 : decode cX7_isPlace 3 = .ok (.invokestatic 30, 3) := by decide +kernel
theorem dX7_isPlace_6 : decode cX7_isPlace 6 = .ok (.ireturn, 1) := by decide +kernel
theorem dX7_narrowed_0 : decode cX7_narrowed 0 = .ok (.iload_n 1, 1) := by decide +kernel
theorem dX7_narrowed_1 : decode cX7_narrowed 1 = .ok (.ifCond .ne 6, 3) := by decide +kernel
theorem dX7_narrowed_4 : decode cX7_narrowed 4 = .ok (.iload_n 0, 1) := by decide +kernel
theorem dX7_narrowed_5 : decode cX7_narrowed 5 = .ok (.i2b, 1) := by decide +kernel
theorem dX7_narrowed_6 : decode cX7_narrowed 6 = .ok (.ireturn, 1) := by decide +kernel
theorem dX7_narrowed_7 : decode cX7_narrowed 7 = .ok (.iload_n 1, 1) := by decide +kernel
theorem dX7_narrowed_8 : decode cX7_narrowed 8 = .ok (.iconst 1, 1) := by decide +kernel
theorem dX7_narrowed_9 : decode cX7_narrowed 9 = .ok (.if_icmp .ne 8, 3) := by decide +kernel
theorem dX7_narrowed_12 : decode cX7_narrowed 12 = .ok (.iload_n 0, 1) := by decide +kernel
theorem dX7_narrowed_13 : decode cX7_narrowed 13 = .ok (.i2s, 1) := by decide +kernel
theorem dX7_narrowed_14 : decode cX7_narrowed 14 = .ok (.goto 4, 3) := by decide +kernel
theorem dX7_narrowed_17 : decode cX7_narrowed 17 = .ok (.iload_n 0, 1) := by decide +kernel
theorem dX7_narrowed_18 : decode cX7_narrowed 18 = .ok (.ireturn, 1) := by decide +kernel
theorem dX7_lay_0 : decode cX7_lay 0 = .ok (.aload_n 0, 1) := by decide +kernel
theorem dX7_lay_1 : decode cX7_lay 1 = .ok (.getfield 11, 3) := by decide +kernel
theorem dX7_lay_4 : decode cX7_lay 4 = .ok (.iload_n 1, 1) := by decide +kernel
theorem dX7_lay_5 : decode cX7_lay 5 = .ok (.iload_n 2, 1) := by decide +kernel
theorem dX7_lay_6 : decode cX7_lay 6 = .ok (.iastore, 1) := by decide +kernel
theorem dX7_lay_7 : decode cX7_lay 7 = .ok (.aload_n 0, 1) := by decide +kernel
theorem dX7_lay_8 : decode cX7_lay 8 = .ok (.getfield 15, 3) := by decide +kernel
theorem dX7_lay_11 : decode cX7_lay 11 = .ok (.iload_n 1, 1) := by decide +kernel
theorem dX7_lay_12 : decode cX7_lay 12 = .ok (.iload_n 2, 1) := by decide +kernel
theorem dX7_lay_13 : decode cX7_lay 13 = .ok (.iconst (-1), 1) := by decide +kernel
theorem dX7_lay_14 : decode cX7_lay 14 = .ok (.if_icmp .ne 7, 3) := by decide +kernel
theorem dX7_lay_17 : decode cX7_lay 17 = .ok (.iconst 0, 1) := by decide +kernel
theorem dX7_lay_18 : decode cX7_lay 18 = .ok (.goto 4, 3) := by decide +kernel
theorem dX7_lay_21 : decode cX7_lay 21 = .ok (.iload_n 3, 1) := by decide +kernel
theorem dX7_lay_22 : decode cX7_lay 22 = .ok (.iastore, 1) := by decide +kernel
theorem dX7_lay_23 : decode cX7_lay 23 = .ok (.iconst 0, 1) := by decide +kernel
theorem dX7_lay_24 : decode cX7_lay 24 = .ok (.istore 4, 2) := by decide +kernel
theorem dX7_lay_26 : decode cX7_lay 26 = .ok (.iload 4, 2) := by decide +kernel
theorem dX7_lay_28 : decode cX7_lay 28 = .ok (.bipush 40, 2) := by decide +kernel
theorem dX7_lay_30 : decode cX7_lay 30 = .ok (.if_icmp .ge 22, 3) := by decide +kernel
theorem dX7_lay_33 : decode cX7_lay 33 = .ok (.aload_n 0, 1) := by decide +kernel
theorem dX7_lay_34 : decode cX7_lay 34 = .ok (.getfield 18, 3) := by decide +kernel
theorem dX7_lay_37 : decode cX7_lay 37 = .ok (.iload_n 1, 1) := by decide +kernel
theorem dX7_lay_38 : decode cX7_lay 38 = .ok (.bipush 40, 2) := by decide +kernel
theorem dX7_lay_40 : decode cX7_lay 40 = .ok (.imul, 1) := by decide +kernel
theorem dX7_lay_41 : decode cX7_lay 41 = .ok (.iload 4, 2) := by decide +kernel
theorem dX7_lay_43 : decode cX7_lay 43 = .ok (.iadd, 1) := by decide +kernel
theorem dX7_lay_44 : decode cX7_lay 44 = .ok (.iconst 0, 1) := by decide +kernel
theorem dX7_lay_45 : decode cX7_lay 45 = .ok (.iastore, 1) := by decide +kernel
theorem dX7_lay_46 : decode cX7_lay 46 = .ok (.iinc 4 1, 3) := by decide +kernel
theorem dX7_lay_49 : decode cX7_lay 49 = .ok (.goto (-23), 3) := by decide +kernel
theorem dX7_lay_52 : decode cX7_lay 52 = .ok (.return_, 1) := by decide +kernel
theorem dX7_holdNothing_0 : decode cX7_holdNothing 0 = .ok (.aload_n 0, 1) := by decide +kernel
theorem dX7_holdNothing_1 : decode cX7_holdNothing 1 = .ok (.getfield 21, 3) := by decide +kernel
theorem dX7_holdNothing_4 : decode cX7_holdNothing 4 = .ok (.iload_n 1, 1) := by decide +kernel
theorem dX7_holdNothing_5 : decode cX7_holdNothing 5 = .ok (.iconst 0, 1) := by decide +kernel
theorem dX7_holdNothing_6 : decode cX7_holdNothing 6 = .ok (.iastore, 1) := by decide +kernel
theorem dX7_holdNothing_7 : decode cX7_holdNothing 7 = .ok (.return_, 1) := by decide +kernel
theorem dX7_holdJob_0 : decode cX7_holdJob 0 = .ok (.aload_n 0, 1) := by decide +kernel
theorem dX7_holdJob_1 : decode cX7_holdJob 1 = .ok (.getfield 21, 3) := by decide +kernel
theorem dX7_holdJob_4 : decode cX7_holdJob 4 = .ok (.iload_n 1, 1) := by decide +kernel
theorem dX7_holdJob_5 : decode cX7_holdJob 5 = .ok (.iconst 1, 1) := by decide +kernel
theorem dX7_holdJob_6 : decode cX7_holdJob 6 = .ok (.iastore, 1) := by decide +kernel
theorem dX7_holdJob_7 : decode cX7_holdJob 7 = .ok (.aload_n 0, 1) := by decide +kernel
theorem dX7_holdJob_8 : decode cX7_holdJob 8 = .ok (.getfield 27, 3) := by decide +kernel
theorem dX7_holdJob_11 : decode cX7_holdJob 11 = .ok (.iload_n 1, 1) := by decide +kernel
theorem dX7_holdJob_12 : decode cX7_holdJob 12 = .ok (.iload_n 2, 1) := by decide +kernel
theorem dX7_holdJob_13 : decode cX7_holdJob 13 = .ok (.iastore, 1) := by decide +kernel
theorem dX7_holdJob_14 : decode cX7_holdJob 14 = .ok (.return_, 1) := by decide +kernel
theorem dX7_holdRow_0 : decode cX7_holdRow 0 = .ok (.aload_n 0, 1) := by decide +kernel
theorem dX7_holdRow_1 : decode cX7_holdRow 1 = .ok (.getfield 21, 3) := by decide +kernel
theorem dX7_holdRow_4 : decode cX7_holdRow 4 = .ok (.iload_n 1, 1) := by decide +kernel
theorem dX7_holdRow_5 : decode cX7_holdRow 5 = .ok (.aload_n 0, 1) := by decide +kernel
theorem dX7_holdRow_6 : decode cX7_holdRow 6 = .ok (.getfield 11, 3) := by decide +kernel
theorem dX7_holdRow_9 : decode cX7_holdRow 9 = .ok (.iload_n 2, 1) := by decide +kernel
theorem dX7_holdRow_10 : decode cX7_holdRow 10 = .ok (.iaload, 1) := by decide +kernel
theorem dX7_holdRow_11 : decode cX7_holdRow 11 = .ok (.iconst (-1), 1) := by decide +kernel
theorem dX7_holdRow_12 : decode cX7_holdRow 12 = .ok (.if_icmp .ne 7, 3) := by decide +kernel
theorem dX7_holdRow_15 : decode cX7_holdRow 15 = .ok (.iconst 0, 1) := by decide +kernel
theorem dX7_holdRow_16 : decode cX7_holdRow 16 = .ok (.goto 4, 3) := by decide +kernel
theorem dX7_holdRow_19 : decode cX7_holdRow 19 = .ok (.iconst 2, 1) := by decide +kernel
theorem dX7_holdRow_20 : decode cX7_holdRow 20 = .ok (.iastore, 1) := by decide +kernel
theorem dX7_holdRow_21 : decode cX7_holdRow 21 = .ok (.aload_n 0, 1) := by decide +kernel
theorem dX7_holdRow_22 : decode cX7_holdRow 22 = .ok (.getfield 24, 3) := by decide +kernel
theorem dX7_holdRow_25 : decode cX7_holdRow 25 = .ok (.iload_n 1, 1) := by decide +kernel
theorem dX7_holdRow_26 : decode cX7_holdRow 26 = .ok (.aload_n 0, 1) := by decide +kernel
theorem dX7_holdRow_27 : decode cX7_holdRow 27 = .ok (.getfield 11, 3) := by decide +kernel
theorem dX7_holdRow_30 : decode cX7_holdRow 30 = .ok (.iload_n 2, 1) := by decide +kernel
theorem dX7_holdRow_31 : decode cX7_holdRow 31 = .ok (.iaload, 1) := by decide +kernel
theorem dX7_holdRow_32 : decode cX7_holdRow 32 = .ok (.iastore, 1) := by decide +kernel
theorem dX7_holdRow_33 : decode cX7_holdRow 33 = .ok (.aload_n 0, 1) := by decide +kernel
theorem dX7_holdRow_34 : decode cX7_holdRow 34 = .ok (.getfield 27, 3) := by decide +kernel
theorem dX7_holdRow_37 : decode cX7_holdRow 37 = .ok (.iload_n 1, 1) := by decide +kernel
theorem dX7_holdRow_38 : decode cX7_holdRow 38 = .ok (.aload_n 0, 1) := by decide +kernel
theorem dX7_holdRow_39 : decode cX7_holdRow 39 = .ok (.getfield 15, 3) := by decide +kernel
theorem dX7_holdRow_42 : decode cX7_holdRow 42 = .ok (.iload_n 2, 1) := by decide +kernel
theorem dX7_holdRow_43 : decode cX7_holdRow 43 = .ok (.iaload, 1) := by decide +kernel
theorem dX7_holdRow_44 : decode cX7_holdRow 44 = .ok (.iastore, 1) := by decide +kernel
theorem dX7_holdRow_45 : decode cX7_holdRow 45 = .ok (.return_, 1) := by decide +kernel
theorem dX7_holdsRow_0 : decode cX7_holdsRow 0 = .ok (.aload_n 0, 1) := by decide +kernel
theorem dX7_holdsRow_1 : decode cX7_holdsRow 1 = .ok (.getfield 21, 3) := by decide +kernel
theorem dX7_holdsRow_4 : decode cX7_holdsRow 4 = .ok (.iload_n 1, 1) := by decide +kernel
theorem dX7_holdsRow_5 : decode cX7_holdsRow 5 = .ok (.iaload, 1) := by decide +kernel
theorem dX7_holdsRow_6 : decode cX7_holdsRow 6 = .ok (.iconst 2, 1) := by decide +kernel
theorem dX7_holdsRow_7 : decode cX7_holdsRow 7 = .ok (.if_icmp .ne 7, 3) := by decide +kernel
theorem dX7_holdsRow_10 : decode cX7_holdsRow 10 = .ok (.iconst 1, 1) := by decide +kernel
theorem dX7_holdsRow_11 : decode cX7_holdsRow 11 = .ok (.goto 4, 3) := by decide +kernel
theorem dX7_holdsRow_14 : decode cX7_holdsRow 14 = .ok (.iconst 0, 1) := by decide +kernel
theorem dX7_holdsRow_15 : decode cX7_holdsRow 15 = .ok (.ireturn, 1) := by decide +kernel
theorem dX7_jobOn_0 : decode cX7_jobOn 0 = .ok (.aload_n 0, 1) := by decide +kernel
theorem dX7_jobOn_1 : decode cX7_jobOn 1 = .ok (.getfield 21, 3) := by decide +kernel
theorem dX7_jobOn_4 : decode cX7_jobOn 4 = .ok (.iload_n 1, 1) := by decide +kernel
theorem dX7_jobOn_5 : decode cX7_jobOn 5 = .ok (.iaload, 1) := by decide +kernel
theorem dX7_jobOn_6 : decode cX7_jobOn 6 = .ok (.iconst 1, 1) := by decide +kernel
theorem dX7_jobOn_7 : decode cX7_jobOn 7 = .ok (.if_icmp .ne 12, 3) := by decide +kernel
theorem dX7_jobOn_10 : decode cX7_jobOn 10 = .ok (.aload_n 0, 1) := by decide +kernel
theorem dX7_jobOn_11 : decode cX7_jobOn 11 = .ok (.getfield 27, 3) := by decide +kernel
theorem dX7_jobOn_14 : decode cX7_jobOn 14 = .ok (.iload_n 1, 1) := by decide +kernel
theorem dX7_jobOn_15 : decode cX7_jobOn 15 = .ok (.iaload, 1) := by decide +kernel
theorem dX7_jobOn_16 : decode cX7_jobOn 16 = .ok (.goto 5, 3) := by decide +kernel
theorem dX7_jobOn_19 : decode cX7_jobOn 19 = .ok (.bipush (-9), 2) := by decide +kernel
theorem dX7_jobOn_21 : decode cX7_jobOn 21 = .ok (.ireturn, 1) := by decide +kernel
theorem dX8_init_0 : decode cX8_init 0 = .ok (.aload_n 0, 1) := by decide +kernel
theorem dX8_init_1 : decode cX8_init 1 = .ok (.invokespecial 3, 3) := by decide +kernel
theorem dX8_init_4 : decode cX8_init 4 = .ok (.aload_n 0, 1) := by decide +kernel
theorem dX8_init_5 : decode cX8_init 5 = .ok (.sipush 200, 3) := by decide +kernel
theorem dX8_init_8 : decode cX8_init 8 = .ok (.newarray .byte, 2) := by decide +kernel
theorem dX8_init_10 : decode cX8_init 10 = .ok (.putfield 11, 3) := by decide +kernel
theorem dX8_init_13 : decode cX8_init 13 = .ok (.aload_n 0, 1) := by decide +kernel
theorem dX8_init_14 : decode cX8_init 14 = .ok (.iconst 0, 1) := by decide +kernel
theorem dX8_init_15 : decode cX8_init 15 = .ok (.putfield 15, 3) := by decide +kernel
theorem dX8_init_18 : decode cX8_init 18 = .ok (.aload_n 0, 1) := by decide +kernel
theorem dX8_init_19 : decode cX8_init 19 = .ok (.new 19, 3) := by decide +kernel
theorem dX8_init_22 : decode cX8_init 22 = .ok (.dup, 1) := by decide +kernel
theorem dX8_init_23 : decode cX8_init 23 = .ok (.invokespecial 21, 3) := by decide +kernel
theorem dX8_init_26 : decode cX8_init 26 = .ok (.putfield 22, 3) := by decide +kernel
theorem dX8_init_29 : decode cX8_init 29 = .ok (.aload_n 0, 1) := by decide +kernel
theorem dX8_init_30 : decode cX8_init 30 = .ok (.iconst 4, 1) := by decide +kernel
theorem dX8_init_31 : decode cX8_init 31 = .ok (.newarray .int, 2) := by decide +kernel
theorem dX8_init_33 : decode cX8_init 33 = .ok (.dup, 1) := by decide +kernel
theorem dX8_init_34 : decode cX8_init 34 = .ok (.iconst 0, 1) := by decide +kernel
theorem dX8_init_35 : decode cX8_init 35 = .ok (.iconst (-1), 1) := by decide +kernel
theorem dX8_init_36 : decode cX8_init 36 = .ok (.iastore, 1) := by decide +kernel
theorem dX8_init_37 : decode cX8_init 37 = .ok (.dup, 1) := by decide +kernel
theorem dX8_init_38 : decode cX8_init 38 = .ok (.iconst 1, 1) := by decide +kernel
theorem dX8_init_39 : decode cX8_init 39 = .ok (.iconst (-1), 1) := by decide +kernel
theorem dX8_init_40 : decode cX8_init 40 = .ok (.iastore, 1) := by decide +kernel
theorem dX8_init_41 : decode cX8_init 41 = .ok (.dup, 1) := by decide +kernel
theorem dX8_init_42 : decode cX8_init 42 = .ok (.iconst 2, 1) := by decide +kernel
theorem dX8_init_43 : decode cX8_init 43 = .ok (.iconst (-1), 1) := by decide +kernel
theorem dX8_init_44 : decode cX8_init 44 = .ok (.iastore, 1) := by decide +kernel
theorem dX8_init_45 : decode cX8_init 45 = .ok (.dup, 1) := by decide +kernel
theorem dX8_init_46 : decode cX8_init 46 = .ok (.iconst 3, 1) := by decide +kernel
theorem dX8_init_47 : decode cX8_init 47 = .ok (.iconst (-1), 1) := by decide +kernel
theorem dX8_init_48 : decode cX8_init 48 = .ok (.iastore, 1) := by decide +kernel
theorem dX8_init_49 : decode cX8_init 49 = .ok (.putfield 26, 3) := by decide +kernel
theorem dX8_init_52 : decode cX8_init 52 = .ok (.aload_n 0, 1) := by decide +kernel
theorem dX8_init_53 : decode cX8_init 53 = .ok (.iconst 0, 1) := by decide +kernel
theorem dX8_init_54 : decode cX8_init 54 = .ok (.putfield 30, 3) := by decide +kernel
theorem dX8_init_57 : decode cX8_init 57 = .ok (.aload_n 0, 1) := by decide +kernel
theorem dX8_init_58 : decode cX8_init 58 = .ok (.iconst 0, 1) := by decide +kernel
theorem dX8_init_59 : decode cX8_init 59 = .ok (.putfield 33, 3) := by decide +kernel
theorem dX8_init_62 : decode cX8_init 62 = .ok (.aload_n 0, 1) := by decide +kernel
theorem dX8_init_63 : decode cX8_init 63 = .ok (.iconst 0, 1) := by decide +kernel
theorem dX8_init_64 : decode cX8_init 64 = .ok (.putfield 36, 3) := by decide +kernel
theorem dX8_init_67 : decode cX8_init 67 = .ok (.aload_n 0, 1) := by decide +kernel
theorem dX8_init_68 : decode cX8_init 68 = .ok (.iconst 0, 1) := by decide +kernel
theorem dX8_init_69 : decode cX8_init 69 = .ok (.putfield 39, 3) := by decide +kernel
theorem dX8_init_72 : decode cX8_init 72 = .ok (.return_, 1) := by decide +kernel
theorem dX8_take_0 : decode cX8_take 0 = .ok (.aload_n 0, 1) := by decide +kernel
theorem dX8_take_1 : decode cX8_take 1 = .ok (.getfield 15, 3) := by decide +kernel
theorem dX8_take_4 : decode cX8_take 4 = .ok (.iload_n 3, 1) := by decide +kernel
theorem dX8_take_5 : decode cX8_take 5 = .ok (.iadd, 1) := by decide +kernel
theorem dX8_take_6 : decode cX8_take 6 = .ok (.sipush 200, 3) := by decide +kernel
theorem dX8_take_9 : decode cX8_take 9 = .ok (.if_icmp .le 6, 3) := by decide +kernel
theorem dX8_take_12 : decode cX8_take 12 = .ok (.bipush (-2), 2) := by decide +kernel
theorem dX8_take_14 : decode cX8_take 14 = .ok (.ireturn, 1) := by decide +kernel
theorem dX8_take_15 : decode cX8_take 15 = .ok (.iconst 0, 1) := by decide +kernel
theorem dX8_take_16 : decode cX8_take 16 = .ok (.istore 4, 2) := by decide +kernel
theorem dX8_take_18 : decode cX8_take 18 = .ok (.iload 4, 2) := by decide +kernel
theorem dX8_take_20 : decode cX8_take 20 = .ok (.iload_n 3, 1) := by decide +kernel
theorem dX8_take_21 : decode cX8_take 21 = .ok (.if_icmp .ge 37, 3) := by decide +kernel
theorem dX8_take_24 : decode cX8_take 24 = .ok (.aload_n 0, 1) := by decide +kernel
theorem dX8_take_25 : decode cX8_take 25 = .ok (.getfield 11, 3) := by decide +kernel
theorem dX8_take_28 : decode cX8_take 28 = .ok (.aload_n 0, 1) := by decide +kernel
theorem dX8_take_29 : decode cX8_take 29 = .ok (.getfield 15, 3) := by decide +kernel
theorem dX8_take_32 : decode cX8_take 32 = .ok (.lload_n 1, 1) := by decide +kernel
theorem dX8_take_33 : decode cX8_take 33 = .ok (.bipush 8, 2) := by decide +kernel
theorem dX8_take_35 : decode cX8_take 35 = .ok (.iload 4, 2) := by decide +kernel
theorem dX8_take_37 : decode cX8_take 37 = .ok (.imul, 1) := by decide +kernel
theorem dX8_take_38 : decode cX8_take 38 = .ok (.lushr, 1) := by decide +kernel
theorem dX8_take_39 : decode cX8_take 39 = .ok (.l2i, 1) := by decide +kernel
theorem dX8_take_40 : decode cX8_take 40 = .ok (.i2b, 1) := by decide +kernel
theorem dX8_take_41 : decode cX8_take 41 = .ok (.bastore, 1) := by decide +kernel
theorem dX8_take_42 : decode cX8_take 42 = .ok (.aload_n 0, 1) := by decide +kernel
theorem dX8_take_43 : decode cX8_take 43 = .ok (.dup, 1) := by decide +kernel
theorem dX8_take_44 : decode cX8_take 44 = .ok (.getfield 15, 3) := by decide +kernel
theorem dX8_take_47 : decode cX8_take 47 = .ok (.iconst 1, 1) := by decide +kernel
theorem dX8_take_48 : decode cX8_take 48 = .ok (.iadd, 1) := by decide +kernel
theorem dX8_take_49 : decode cX8_take 49 = .ok (.putfield 15, 3) := by decide +kernel
theorem dX8_take_52 : decode cX8_take 52 = .ok (.iinc 4 1, 3) := by decide +kernel
theorem dX8_take_55 : decode cX8_take 55 = .ok (.goto (-37), 3) := by decide +kernel
theorem dX8_take_58 : decode cX8_take 58 = .ok (.aload_n 0, 1) := by decide +kernel
theorem dX8_take_59 : decode cX8_take 59 = .ok (.getfield 15, 3) := by decide +kernel
theorem dX8_take_62 : decode cX8_take 62 = .ok (.ireturn, 1) := by decide +kernel
theorem dX8_useUp_0 : decode cX8_useUp 0 = .ok (.aload_n 0, 1) := by decide +kernel
theorem dX8_useUp_1 : decode cX8_useUp 1 = .ok (.iconst 0, 1) := by decide +kernel
theorem dX8_useUp_2 : decode cX8_useUp 2 = .ok (.putfield 15, 3) := by decide +kernel
theorem dX8_useUp_5 : decode cX8_useUp 5 = .ok (.return_, 1) := by decide +kernel
theorem dX8_read_0 : decode cX8_read 0 = .ok (.aload_n 0, 1) := by decide +kernel
theorem dX8_read_1 : decode cX8_read 1 = .ok (.getfield 22, 3) := by decide +kernel
theorem dX8_read_4 : decode cX8_read 4 = .ok (.iconst 0, 1) := by decide +kernel
theorem dX8_read_5 : decode cX8_read 5 = .ok (.putfield 42, 3) := by decide +kernel
theorem dX8_read_8 : decode cX8_read 8 = .ok (.iconst 0, 1) := by decide +kernel
theorem dX8_read_9 : decode cX8_read 9 = .ok (.istore_n 1, 1) := by decide +kernel
theorem dX8_read_10 : decode cX8_read 10 = .ok (.iload_n 1, 1) := by decide +kernel
theorem dX8_read_11 : decode cX8_read 11 = .ok (.iconst 4, 1) := by decide +kernel
theorem dX8_read_12 : decode cX8_read 12 = .ok (.if_icmp .ge 16, 3) := by decide +kernel
theorem dX8_read_15 : decode cX8_read 15 = .ok (.aload_n 0, 1) := by decide +kernel
theorem dX8_read_16 : decode cX8_read 16 = .ok (.getfield 26, 3) := by decide +kernel
theorem dX8_read_19 : decode cX8_read 19 = .ok (.iload_n 1, 1) := by decide +kernel
theorem dX8_read_20 : decode cX8_read 20 = .ok (.iconst (-1), 1) := by decide +kernel
theorem dX8_read_21 : decode cX8_read 21 = .ok (.iastore, 1) := by decide +kernel
theorem dX8_read_22 : decode cX8_read 22 = .ok (.iinc 1 1, 3) := by decide +kernel
theorem dX8_read_25 : decode cX8_read 25 = .ok (.goto (-15), 3) := by decide +kernel
theorem dX8_read_28 : decode cX8_read 28 = .ok (.aload_n 0, 1) := by decide +kernel
theorem dX8_read_29 : decode cX8_read 29 = .ok (.iconst 0, 1) := by decide +kernel
theorem dX8_read_30 : decode cX8_read 30 = .ok (.putfield 36, 3) := by decide +kernel
theorem dX8_read_33 : decode cX8_read 33 = .ok (.aload_n 0, 1) := by decide +kernel
theorem dX8_read_34 : decode cX8_read 34 = .ok (.invokevirtual 43, 3) := by decide +kernel
theorem dX8_read_37 : decode cX8_read 37 = .ok (.iconst 0, 1) := by decide +kernel
theorem dX8_read_38 : decode cX8_read 38 = .ok (.istore_n 1, 1) := by decide +kernel
theorem dX8_read_39 : decode cX8_read 39 = .ok (.iload_n 1, 1) := by decide +kernel
theorem dX8_read_40 : decode cX8_read 40 = .ok (.sipush 200, 3) := by decide +kernel
theorem dX8_read_43 : decode cX8_read 43 = .ok (.if_icmp .ge 47, 3) := by decide +kernel
theorem dX8_read_46 : decode cX8_read 46 = .ok (.aload_n 0, 1) := by decide +kernel
theorem dX8_read_47 : decode cX8_read 47 = .ok (.getfield 30, 3) := by decide +kernel
theorem dX8_read_50 : decode cX8_read 50 = .ok (.ifCond .eq 40, 3) := by decide +kernel
theorem dX8_read_53 : decode cX8_read 53 = .ok (.aload_n 0, 1) := by decide +kernel
theorem dX8_read_54 : decode cX8_read 54 = .ok (.invokevirtual 46, 3) := by decide +kernel
theorem dX8_read_57 : decode cX8_read 57 = .ok (.istore_n 2, 1) := by decide +kernel
theorem dX8_read_58 : decode cX8_read 58 = .ok (.iload_n 2, 1) := by decide +kernel
theorem dX8_read_59 : decode cX8_read 59 = .ok (.ifCond .lt 11, 3) := by decide +kernel
theorem dX8_read_62 : decode cX8_read 62 = .ok (.aload_n 0, 1) := by decide +kernel
theorem dX8_read_63 : decode cX8_read 63 = .ok (.iload_n 2, 1) := by decide +kernel
theorem dX8_read_64 : decode cX8_read 64 = .ok (.invokevirtual 50, 3) := by decide +kernel
theorem dX8_read_67 : decode cX8_read 67 = .ok (.goto 7, 3) := by decide +kernel
theorem dX8_read_70 : decode cX8_read 70 = .ok (.aload_n 0, 1) := by decide +kernel
theorem dX8_read_71 : decode cX8_read 71 = .ok (.invokevirtual 54, 3) := by decide +kernel
theorem dX8_read_74 : decode cX8_read 74 = .ok (.istore_n 3, 1) := by decide +kernel
theorem dX8_read_75 : decode cX8_read 75 = .ok (.iload_n 3, 1) := by decide +kernel
theorem dX8_read_76 : decode cX8_read 76 = .ok (.ifCond .ne 8, 3) := by decide +kernel
theorem dX8_read_79 : decode cX8_read 79 = .ok (.aload_n 0, 1) := by decide +kernel
theorem dX8_read_80 : decode cX8_read 80 = .ok (.getfield 33, 3) := by decide +kernel
theorem dX8_read_83 : decode cX8_read 83 = .ok (.ireturn, 1) := by decide +kernel
theorem dX8_read_84 : decode cX8_read 84 = .ok (.iinc 1 1, 3) := by decide +kernel
theorem dX8_read_87 : decode cX8_read 87 = .ok (.goto (-48), 3) := by decide +kernel
theorem dX8_read_90 : decode cX8_read 90 = .ok (.iconst (-1), 1) := by decide +kernel
theorem dX8_read_91 : decode cX8_read 91 = .ok (.ireturn, 1) := by decide +kernel
theorem dX8_readLaw_0 : decode cX8_readLaw 0 = .ok (.aload_n 0, 1) := by decide +kernel
theorem dX8_readLaw_1 : decode cX8_readLaw 1 = .ok (.invokevirtual 43, 3) := by decide +kernel
theorem dX8_readLaw_4 : decode cX8_readLaw 4 = .ok (.aload_n 0, 1) := by decide +kernel
theorem dX8_readLaw_5 : decode cX8_readLaw 5 = .ok (.getstatic 58, 3) := by decide +kernel
theorem dX8_readLaw_8 : decode cX8_readLaw 8 = .ok (.iload_n 1, 1) := by decide +kernel
theorem dX8_readLaw_9 : decode cX8_readLaw 9 = .ok (.iaload, 1) := by decide +kernel
theorem dX8_readLaw_10 : decode cX8_readLaw 10 = .ok (.getstatic 61, 3) := by decide +kernel
theorem dX8_readLaw_13 : decode cX8_readLaw 13 = .ok (.iload_n 1, 1) := by decide +kernel
theorem dX8_readLaw_14 : decode cX8_readLaw 14 = .ok (.iaload, 1) := by decide +kernel
theorem dX8_readLaw_15 : decode cX8_readLaw 15 = .ok (.invokevirtual 64, 3) := by decide +kernel
theorem dX8_readLaw_18 : decode cX8_readLaw 18 = .ok (.ifCond .ne 5, 3) := by decide +kernel
theorem dX8_readLaw_21 : decode cX8_readLaw 21 = .ok (.iconst 0, 1) := by decide +kernel
theorem dX8_readLaw_22 : decode cX8_readLaw 22 = .ok (.ireturn, 1) := by decide +kernel
theorem dX8_readLaw_23 : decode cX8_readLaw 23 = .ok (.aload_n 0, 1) := by decide +kernel
theorem dX8_readLaw_24 : decode cX8_readLaw 24 = .ok (.getfield 39, 3) := by decide +kernel
theorem dX8_readLaw_27 : decode cX8_readLaw 27 = .ok (.istore_n 2, 1) := by decide +kernel
theorem dX8_readLaw_28 : decode cX8_readLaw 28 = .ok (.aload_n 0, 1) := by decide +kernel
theorem dX8_readLaw_29 : decode cX8_readLaw 29 = .ok (.invokevirtual 68, 3) := by decide +kernel
theorem dX8_readLaw_32 : decode cX8_readLaw 32 = .ok (.ifCond .ne 5, 3) := by decide +kernel
theorem dX8_readLaw_35 : decode cX8_readLaw 35 = .ok (.iconst 0, 1) := by decide +kernel
theorem dX8_readLaw_36 : decode cX8_readLaw 36 = .ok (.ireturn, 1) := by decide +kernel
theorem dX8_readLaw_37 : decode cX8_readLaw 37 = .ok (.aload_n 0, 1) := by decide +kernel
theorem dX8_readLaw_38 : decode cX8_readLaw 38 = .ok (.getfield 26, 3) := by decide +kernel
theorem dX8_readLaw_41 : decode cX8_readLaw 41 = .ok (.iload_n 1, 1) := by decide +kernel
theorem dX8_readLaw_42 : decode cX8_readLaw 42 = .ok (.iload_n 2, 1) := by decide +kernel
theorem dX8_readLaw_43 : decode cX8_readLaw 43 = .ok (.iastore, 1) := by decide +kernel
theorem dX8_readLaw_44 : decode cX8_readLaw 44 = .ok (.iconst 1, 1) := by decide +kernel
theorem dX8_readLaw_45 : decode cX8_readLaw 45 = .ok (.ireturn, 1) := by decide +kernel
theorem dX8_readJob_0 : decode cX8_readJob 0 = .ok (.aload_n 0, 1) := by decide +kernel
theorem dX8_readJob_1 : decode cX8_readJob 1 = .ok (.getfield 22, 3) := by decide +kernel
theorem dX8_readJob_4 : decode cX8_readJob 4 = .ok (.getfield 42, 3) := by decide +kernel
theorem dX8_readJob_7 : decode cX8_readJob 7 = .ok (.bipush 6, 2) := by decide +kernel
theorem dX8_readJob_9 : decode cX8_readJob 9 = .ok (.if_icmp .lt 5, 3) := by decide +kernel
theorem dX8_readJob_12 : decode cX8_readJob 12 = .ok (.iconst 0, 1) := by decide +kernel
theorem dX8_readJob_13 : decode cX8_readJob 13 = .ok (.ireturn, 1) := by decide +kernel
theorem dX8_readJob_14 : decode cX8_readJob 14 = .ok (.iconst 0, 1) := by decide +kernel
theorem dX8_readJob_15 : decode cX8_readJob 15 = .ok (.istore_n 1, 1) := by decide +kernel
theorem dX8_readJob_16 : decode cX8_readJob 16 = .ok (.aload_n 0, 1) := by decide +kernel
theorem dX8_readJob_17 : decode cX8_readJob 17 = .ok (.getfield 30, 3) := by decide +kernel
theorem dX8_readJob_20 : decode cX8_readJob 20 = .ok (.iconst 1, 1) := by decide +kernel
theorem dX8_readJob_21 : decode cX8_readJob 21 = .ok (.if_icmp .ne 18, 3) := by decide +kernel
theorem dX8_readJob_24 : decode cX8_readJob 24 = .ok (.aload_n 0, 1) := by decide +kernel
theorem dX8_readJob_25 : decode cX8_readJob 25 = .ok (.invokevirtual 71, 3) := by decide +kernel
theorem dX8_readJob_28 : decode cX8_readJob 28 = .ok (.istore_n 1, 1) := by decide +kernel
theorem dX8_readJob_29 : decode cX8_readJob 29 = .ok (.iload_n 1, 1) := by decide +kernel
theorem dX8_readJob_30 : decode cX8_readJob 30 = .ok (.ifCond .ge 5, 3) := by decide +kernel
theorem dX8_readJob_33 : decode cX8_readJob 33 = .ok (.iconst 0, 1) := by decide +kernel
theorem dX8_readJob_34 : decode cX8_readJob 34 = .ok (.ireturn, 1) := by decide +kernel
theorem dX8_readJob_35 : decode cX8_readJob 35 = .ok (.aload_n 0, 1) := by decide +kernel
theorem dX8_readJob_36 : decode cX8_readJob 36 = .ok (.invokevirtual 43, 3) := by decide +kernel
theorem dX8_readJob_39 : decode cX8_readJob 39 = .ok (.aload_n 0, 1) := by decide +kernel
theorem dX8_readJob_40 : decode cX8_readJob 40 = .ok (.iconst 1, 1) := by decide +kernel
theorem dX8_readJob_41 : decode cX8_readJob 41 = .ok (.bipush 9, 2) := by decide +kernel
theorem dX8_readJob_43 : decode cX8_readJob 43 = .ok (.invokevirtual 64, 3) := by decide +kernel
theorem dX8_readJob_46 : decode cX8_readJob 46 = .ok (.ifCond .ne 5, 3) := by decide +kernel
theorem dX8_readJob_49 : decode cX8_readJob 49 = .ok (.iconst 0, 1) := by decide +kernel
theorem dX8_readJob_50 : decode cX8_readJob 50 = .ok (.ireturn, 1) := by decide +kernel
theorem dX8_readJob_51 : decode cX8_readJob 51 = .ok (.aload_n 0, 1) := by decide +kernel
theorem dX8_readJob_52 : decode cX8_readJob 52 = .ok (.getfield 39, 3) := by decide +kernel
theorem dX8_readJob_55 : decode cX8_readJob 55 = .ok (.istore_n 2, 1) := by decide +kernel
theorem dX8_readJob_56 : decode cX8_readJob 56 = .ok (.aload_n 0, 1) := by decide +kernel
theorem dX8_readJob_57 : decode cX8_readJob 57 = .ok (.ldc 74, 2) := by decide +kernel
theorem dX8_readJob_59 : decode cX8_readJob 59 = .ok (.invokevirtual 76, 3) := by decide +kernel
theorem dX8_readJob_62 : decode cX8_readJob 62 = .ok (.ifCond .eq 7, 3) := by decide +kernel
theorem dX8_readJob_65 : decode cX8_readJob 65 = .ok (.iconst 1, 1) := by decide +kernel
theorem dX8_readJob_66 : decode cX8_readJob 66 = .ok (.goto 4, 3) := by decide +kernel
theorem dX8_readJob_69 : decode cX8_readJob 69 = .ok (.iconst 0, 1) := by decide +kernel
theorem dX8_readJob_70 : decode cX8_readJob 70 = .ok (.istore_n 3, 1) := by decide +kernel
theorem dX8_readJob_71 : decode cX8_readJob 71 = .ok (.aload_n 0, 1) := by decide +kernel
theorem dX8_readJob_72 : decode cX8_readJob 72 = .ok (.ldc 80, 2) := by decide +kernel
theorem dX8_readJob_74 : decode cX8_readJob 74 = .ok (.invokevirtual 76, 3) := by decide +kernel
theorem dX8_readJob_77 : decode cX8_readJob 77 = .ok (.ifCond .eq 13, 3) := by decide +kernel
theorem dX8_readJob_80 : decode cX8_readJob 80 = .ok (.aload_n 0, 1) := by decide +kernel
theorem dX8_readJob_81 : decode cX8_readJob 81 = .ok (.iconst 0, 1) := by decide +kernel
theorem dX8_readJob_82 : decode cX8_readJob 82 = .ok (.bipush 60, 2) := by decide +kernel
theorem dX8_readJob_84 : decode cX8_readJob 84 = .ok (.invokevirtual 64, 3) := by decide +kernel
theorem dX8_readJob_87 : decode cX8_readJob 87 = .ok (.ifCond .ne 5, 3) := by decide +kernel
theorem dX8_readJob_90 : decode cX8_readJob 90 = .ok (.iconst 0, 1) := by decide +kernel
theorem dX8_readJob_91 : decode cX8_readJob 91 = .ok (.ireturn, 1) := by decide +kernel
theorem dX8_readJob_92 : decode cX8_readJob 92 = .ok (.aload_n 0, 1) := by decide +kernel
theorem dX8_readJob_93 : decode cX8_readJob 93 = .ok (.getfield 39, 3) := by decide +kernel
theorem dX8_readJob_96 : decode cX8_readJob 96 = .ok (.istore 4, 2) := by decide +kernel
theorem dX8_readJob_98 : decode cX8_readJob 98 = .ok (.aload_n 0, 1) := by decide +kernel
theorem dX8_readJob_99 : decode cX8_readJob 99 = .ok (.ldc 82, 2) := by decide +kernel
theorem dX8_readJob_101 : decode cX8_readJob 101 = .ok (.invokevirtual 76, 3) := by decide +kernel
theorem dX8_readJob_104 : decode cX8_readJob 104 = .ok (.ifCond .eq 13, 3) := by decide +kernel
theorem dX8_readJob_107 : decode cX8_readJob 107 = .ok (.aload_n 0, 1) := by decide +kernel
theorem dX8_readJob_108 : decode cX8_readJob 108 = .ok (.iconst 0, 1) := by decide +kernel
theorem dX8_readJob_109 : decode cX8_readJob 109 = .ok (.bipush 99, 2) := by decide +kernel
theorem dX8_readJob_111 : decode cX8_readJob 111 = .ok (.invokevirtual 64, 3) := by decide +kernel
theorem dX8_readJob_114 : decode cX8_readJob 114 = .ok (.ifCond .ne 5, 3) := by decide +kernel
theorem dX8_readJob_117 : decode cX8_readJob 117 = .ok (.iconst 0, 1) := by decide +kernel
theorem dX8_readJob_118 : decode cX8_readJob 118 = .ok (.ireturn, 1) := by decide +kernel
theorem dX8_readJob_119 : decode cX8_readJob 119 = .ok (.aload_n 0, 1) := by decide +kernel
theorem dX8_readJob_120 : decode cX8_readJob 120 = .ok (.getfield 39, 3) := by decide +kernel
theorem dX8_readJob_123 : decode cX8_readJob 123 = .ok (.istore 5, 2) := by decide +kernel
theorem dX8_readJob_125 : decode cX8_readJob 125 = .ok (.aload_n 0, 1) := by decide +kernel
theorem dX8_readJob_126 : decode cX8_readJob 126 = .ok (.invokevirtual 68, 3) := by decide +kernel
theorem dX8_readJob_129 : decode cX8_readJob 129 = .ok (.ifCond .ne 5, 3) := by decide +kernel
theorem dX8_readJob_132 : decode cX8_readJob 132 = .ok (.iconst 0, 1) := by decide +kernel
theorem dX8_readJob_133 : decode cX8_readJob 133 = .ok (.ireturn, 1) := by decide +kernel
theorem dX8_readJob_134 : decode cX8_readJob 134 = .ok (.aload_n 0, 1) := by decide +kernel
theorem dX8_readJob_135 : decode cX8_readJob 135 = .ok (.getfield 22, 3) := by decide +kernel
theorem dX8_readJob_138 : decode cX8_readJob 138 = .ok (.iload_n 1, 1) := by decide +kernel
theorem dX8_readJob_139 : decode cX8_readJob 139 = .ok (.iload_n 2, 1) := by decide +kernel
theorem dX8_readJob_140 : decode cX8_readJob 140 = .ok (.iload_n 3, 1) := by decide +kernel
theorem dX8_readJob_141 : decode cX8_readJob 141 = .ok (.iload 4, 2) := by decide +kernel
theorem dX8_readJob_143 : decode cX8_readJob 143 = .ok (.iload 5, 2) := by decide +kernel
theorem dX8_readJob_145 : decode cX8_readJob 145 = .ok (.invokevirtual 84, 3) := by decide +kernel
theorem dX8_readJob_148 : decode cX8_readJob 148 = .ok (.iconst 1, 1) := by decide +kernel
theorem dX8_readJob_149 : decode cX8_readJob 149 = .ok (.ireturn, 1) := by decide +kernel
theorem dX8_lawNamed_0 : decode cX8_lawNamed 0 = .ok (.aload_n 0, 1) := by decide +kernel
theorem dX8_lawNamed_1 : decode cX8_lawNamed 1 = .ok (.ldc 88, 2) := by decide +kernel
theorem dX8_lawNamed_3 : decode cX8_lawNamed 3 = .ok (.invokevirtual 90, 3) := by decide +kernel
theorem dX8_lawNamed_6 : decode cX8_lawNamed 6 = .ok (.ifCond .eq 5, 3) := by decide +kernel
theorem dX8_lawNamed_9 : decode cX8_lawNamed 9 = .ok (.iconst 0, 1) := by decide +kernel
theorem dX8_lawNamed_10 : decode cX8_lawNamed 10 = .ok (.ireturn, 1) := by decide +kernel
theorem dX8_lawNamed_11 : decode cX8_lawNamed 11 = .ok (.aload_n 0, 1) := by decide +kernel
theorem dX8_lawNamed_12 : decode cX8_lawNamed 12 = .ok (.ldc 93, 2) := by decide +kernel
theorem dX8_lawNamed_14 : decode cX8_lawNamed 14 = .ok (.invokevirtual 90, 3) := by decide +kernel
theorem dX8_lawNamed_17 : decode cX8_lawNamed 17 = .ok (.ifCond .eq 5, 3) := by decide +kernel
theorem dX8_lawNamed_20 : decode cX8_lawNamed 20 = .ok (.iconst 1, 1) := by decide +kernel
theorem dX8_lawNamed_21 : decode cX8_lawNamed 21 = .ok (.ireturn, 1) := by decide +kernel
theorem dX8_lawNamed_22 : decode cX8_lawNamed 22 = .ok (.aload_n 0, 1) := by decide +kernel
theorem dX8_lawNamed_23 : decode cX8_lawNamed 23 = .ok (.ldc 95, 2) := by decide +kernel
theorem dX8_lawNamed_25 : decode cX8_lawNamed 25 = .ok (.invokevirtual 90, 3) := by decide +kernel
theorem dX8_lawNamed_28 : decode cX8_lawNamed 28 = .ok (.ifCond .eq 5, 3) := by decide +kernel
theorem dX8_lawNamed_31 : decode cX8_lawNamed 31 = .ok (.iconst 2, 1) := by decide +kernel
theorem dX8_lawNamed_32 : decode cX8_lawNamed 32 = .ok (.ireturn, 1) := by decide +kernel
theorem dX8_lawNamed_33 : decode cX8_lawNamed 33 = .ok (.iconst (-1), 1) := by decide +kernel
theorem dX8_lawNamed_34 : decode cX8_lawNamed 34 = .ok (.ireturn, 1) := by decide +kernel
theorem dX8_kindNamed_0 : decode cX8_kindNamed 0 = .ok (.aload_n 0, 1) := by decide +kernel
theorem dX8_kindNamed_1 : decode cX8_kindNamed 1 = .ok (.ldc 97, 2) := by decide +kernel
theorem dX8_kindNamed_3 : decode cX8_kindNamed 3 = .ok (.invokevirtual 90, 3) := by decide +kernel
theorem dX8_kindNamed_6 : decode cX8_kindNamed 6 = .ok (.ifCond .eq 5, 3) := by decide +kernel
theorem dX8_kindNamed_9 : decode cX8_kindNamed 9 = .ok (.iconst 0, 1) := by decide +kernel
theorem dX8_kindNamed_10 : decode cX8_kindNamed 10 = .ok (.ireturn, 1) := by decide +kernel
theorem dX8_kindNamed_11 : decode cX8_kindNamed 11 = .ok (.aload_n 0, 1) := by decide +kernel
theorem dX8_kindNamed_12 : decode cX8_kindNamed 12 = .ok (.ldc 99, 2) := by decide +kernel
theorem dX8_kindNamed_14 : decode cX8_kindNamed 14 = .ok (.invokevirtual 90, 3) := by decide +kernel
theorem dX8_kindNamed_17 : decode cX8_kindNamed 17 = .ok (.ifCond .eq 5, 3) := by decide +kernel
theorem dX8_kindNamed_20 : decode cX8_kindNamed 20 = .ok (.iconst 1, 1) := by decide +kernel
theorem dX8_kindNamed_21 : decode cX8_kindNamed 21 = .ok (.ireturn, 1) := by decide +kernel
theorem dX8_kindNamed_22 : decode cX8_kindNamed 22 = .ok (.aload_n 0, 1) := by decide +kernel
theorem dX8_kindNamed_23 : decode cX8_kindNamed 23 = .ok (.ldc 101, 2) := by decide +kernel
theorem dX8_kindNamed_25 : decode cX8_kindNamed 25 = .ok (.invokevirtual 90, 3) := by decide +kernel
theorem dX8_kindNamed_28 : decode cX8_kindNamed 28 = .ok (.ifCond .eq 5, 3) := by decide +kernel
theorem dX8_kindNamed_31 : decode cX8_kindNamed 31 = .ok (.iconst 2, 1) := by decide +kernel
theorem dX8_kindNamed_32 : decode cX8_kindNamed 32 = .ok (.ireturn, 1) := by decide +kernel
theorem dX8_kindNamed_33 : decode cX8_kindNamed 33 = .ok (.aload_n 0, 1) := by decide +kernel
theorem dX8_kindNamed_34 : decode cX8_kindNamed 34 = .ok (.ldc 103, 2) := by decide +kernel
theorem dX8_kindNamed_36 : decode cX8_kindNamed 36 = .ok (.invokevirtual 90, 3) := by decide +kernel
theorem dX8_kindNamed_39 : decode cX8_kindNamed 39 = .ok (.ifCond .eq 5, 3) := by decide +kernel
theorem dX8_kindNamed_42 : decode cX8_kindNamed 42 = .ok (.iconst 3, 1) := by decide +kernel
theorem dX8_kindNamed_43 : decode cX8_kindNamed 43 = .ok (.ireturn, 1) := by decide +kernel
theorem dX8_kindNamed_44 : decode cX8_kindNamed 44 = .ok (.aload_n 0, 1) := by decide +kernel
theorem dX8_kindNamed_45 : decode cX8_kindNamed 45 = .ok (.ldc 105, 2) := by decide +kernel
theorem dX8_kindNamed_47 : decode cX8_kindNamed 47 = .ok (.invokevirtual 90, 3) := by decide +kernel
theorem dX8_kindNamed_50 : decode cX8_kindNamed 50 = .ok (.ifCond .eq 5, 3) := by decide +kernel
theorem dX8_kindNamed_53 : decode cX8_kindNamed 53 = .ok (.iconst 4, 1) := by decide +kernel
theorem dX8_kindNamed_54 : decode cX8_kindNamed 54 = .ok (.ireturn, 1) := by decide +kernel
theorem dX8_kindNamed_55 : decode cX8_kindNamed 55 = .ok (.aload_n 0, 1) := by decide +kernel
theorem dX8_kindNamed_56 : decode cX8_kindNamed 56 = .ok (.ldc 107, 2) := by decide +kernel
theorem dX8_kindNamed_58 : decode cX8_kindNamed 58 = .ok (.invokevirtual 90, 3) := by decide +kernel
theorem dX8_kindNamed_61 : decode cX8_kindNamed 61 = .ok (.ifCond .eq 5, 3) := by decide +kernel
theorem dX8_kindNamed_64 : decode cX8_kindNamed 64 = .ok (.iconst 5, 1) := by decide +kernel
theorem dX8_kindNamed_65 : decode cX8_kindNamed 65 = .ok (.ireturn, 1) := by decide +kernel
theorem dX8_kindNamed_66 : decode cX8_kindNamed 66 = .ok (.iconst (-1), 1) := by decide +kernel
theorem dX8_kindNamed_67 : decode cX8_kindNamed 67 = .ok (.ireturn, 1) := by decide +kernel
theorem dX8_isNamed_0 : decode cX8_isNamed 0 = .ok (.aload_n 0, 1) := by decide +kernel
theorem dX8_isNamed_1 : decode cX8_isNamed 1 = .ok (.getfield 30, 3) := by decide +kernel
theorem dX8_isNamed_4 : decode cX8_isNamed 4 = .ok (.iconst 1, 1) := by decide +kernel
theorem dX8_isNamed_5 : decode cX8_isNamed 5 = .ok (.if_icmp .ne 19, 3) := by decide +kernel
theorem dX8_isNamed_8 : decode cX8_isNamed 8 = .ok (.aload_n 0, 1) := by decide +kernel
theorem dX8_isNamed_9 : decode cX8_isNamed 9 = .ok (.getfield 36, 3) := by decide +kernel
theorem dX8_isNamed_12 : decode cX8_isNamed 12 = .ok (.aload_n 0, 1) := by decide +kernel
theorem dX8_isNamed_13 : decode cX8_isNamed 13 = .ok (.getfield 33, 3) := by decide +kernel
theorem dX8_isNamed_16 : decode cX8_isNamed 16 = .ok (.isub, 1) := by decide +kernel
theorem dX8_isNamed_17 : decode cX8_isNamed 17 = .ok (.aload_n 1, 1) := by decide +kernel
theorem dX8_isNamed_18 : decode cX8_isNamed 18 = .ok (.invokevirtual 109, 3) := by decide +kernel
theorem dX8_isNamed_21 : decode cX8_isNamed 21 = .ok (.if_icmp .eq 5, 3) := by decide +kernel
theorem dX8_isNamed_24 : decode cX8_isNamed 24 = .ok (.iconst 0, 1) := by decide +kernel
theorem dX8_isNamed_25 : decode cX8_isNamed 25 = .ok (.ireturn, 1) := by decide +kernel
theorem dX8_isNamed_26 : decode cX8_isNamed 26 = .ok (.iconst 0, 1) := by decide +kernel
theorem dX8_isNamed_27 : decode cX8_isNamed 27 = .ok (.istore_n 2, 1) := by decide +kernel
theorem dX8_isNamed_28 : decode cX8_isNamed 28 = .ok (.iload_n 2, 1) := by decide +kernel
theorem dX8_isNamed_29 : decode cX8_isNamed 29 = .ok (.aload_n 1, 1) := by decide +kernel
theorem dX8_isNamed_30 : decode cX8_isNamed 30 = .ok (.invokevirtual 109, 3) := by decide +kernel
theorem dX8_isNamed_33 : decode cX8_isNamed 33 = .ok (.if_icmp .ge 30, 3) := by decide +kernel
theorem dX8_isNamed_36 : decode cX8_isNamed 36 = .ok (.aload_n 0, 1) := by decide +kernel
theorem dX8_isNamed_37 : decode cX8_isNamed 37 = .ok (.getfield 11, 3) := by decide +kernel
theorem dX8_isNamed_40 : decode cX8_isNamed 40 = .ok (.aload_n 0, 1) := by decide +kernel
theorem dX8_isNamed_41 : decode cX8_isNamed 41 = .ok (.getfield 33, 3) := by decide +kernel
theorem dX8_isNamed_44 : decode cX8_isNamed 44 = .ok (.iload_n 2, 1) := by decide +kernel
theorem dX8_isNamed_45 : decode cX8_isNamed 45 = .ok (.iadd, 1) := by decide +kernel
theorem dX8_isNamed_46 : decode cX8_isNamed 46 = .ok (.baload, 1) := by decide +kernel
theorem dX8_isNamed_47 : decode cX8_isNamed 47 = .ok (.aload_n 1, 1) := by decide +kernel
theorem dX8_isNamed_48 : decode cX8_isNamed 48 = .ok (.iload_n 2, 1) := by decide +kernel
theorem dX8_isNamed_49 : decode cX8_isNamed 49 = .ok (.invokevirtual 114, 3) := by decide +kernel
theorem dX8_isNamed_52 : decode cX8_isNamed 52 = .ok (.if_icmp .eq 5, 3) := by decide +kernel
theorem dX8_isNamed_55 : decode cX8_isNamed 55 = .ok (.iconst 0, 1) := by decide +kernel
theorem dX8_isNamed_56 : decode cX8_isNamed 56 = .ok (.ireturn, 1) := by decide +kernel
theorem dX8_isNamed_57 : decode cX8_isNamed 57 = .ok (.iinc 2 1, 3) := by decide +kernel
theorem dX8_isNamed_60 : decode cX8_isNamed 60 = .ok (.goto (-32), 3) := by decide +kernel
theorem dX8_isNamed_63 : decode cX8_isNamed 63 = .ok (.iconst 1, 1) := by decide +kernel
theorem dX8_isNamed_64 : decode cX8_isNamed 64 = .ok (.ireturn, 1) := by decide +kernel
theorem dX8_passName_0 : decode cX8_passName 0 = .ok (.aload_n 0, 1) := by decide +kernel
theorem dX8_passName_1 : decode cX8_passName 1 = .ok (.aload_n 1, 1) := by decide +kernel
theorem dX8_passName_2 : decode cX8_passName 2 = .ok (.invokevirtual 90, 3) := by decide +kernel
theorem dX8_passName_5 : decode cX8_passName 5 = .ok (.ifCond .ne 5, 3) := by decide +kernel
theorem dX8_passName_8 : decode cX8_passName 8 = .ok (.iconst 0, 1) := by decide +kernel
theorem dX8_passName_9 : decode cX8_passName 9 = .ok (.ireturn, 1) := by decide +kernel
theorem dX8_passName_10 : decode cX8_passName 10 = .ok (.aload_n 0, 1) := by decide +kernel
theorem dX8_passName_11 : decode cX8_passName 11 = .ok (.invokevirtual 43, 3) := by decide +kernel
theorem dX8_passName_14 : decode cX8_passName 14 = .ok (.iconst 1, 1) := by decide +kernel
theorem dX8_passName_15 : decode cX8_passName 15 = .ok (.ireturn, 1) := by decide +kernel
theorem dX8_passNumber_0 : decode cX8_passNumber 0 = .ok (.aload_n 0, 1) := by decide +kernel
theorem dX8_passNumber_1 : decode cX8_passNumber 1 = .ok (.getfield 30, 3) := by decide +kernel
theorem dX8_passNumber_4 : decode cX8_passNumber 4 = .ok (.iconst 2, 1) := by decide +kernel
theorem dX8_passNumber_5 : decode cX8_passNumber 5 = .ok (.if_icmp .ne 16, 3) := by decide +kernel
theorem dX8_passNumber_8 : decode cX8_passNumber 8 = .ok (.aload_n 0, 1) := by decide +kernel
theorem dX8_passNumber_9 : decode cX8_passNumber 9 = .ok (.getfield 36, 3) := by decide +kernel
theorem dX8_passNumber_12 : decode cX8_passNumber 12 = .ok (.aload_n 0, 1) := by decide +kernel
theorem dX8_passNumber_13 : decode cX8_passNumber 13 = .ok (.getfield 33, 3) := by decide +kernel
theorem dX8_passNumber_16 : decode cX8_passNumber 16 = .ok (.isub, 1) := by decide +kernel
theorem dX8_passNumber_17 : decode cX8_passNumber 17 = .ok (.iconst 2, 1) := by decide +kernel
theorem dX8_passNumber_18 : decode cX8_passNumber 18 = .ok (.if_icmp .le 5, 3) := by decide +kernel
theorem dX8_passNumber_21 : decode cX8_passNumber 21 = .ok (.iconst 0, 1) := by decide +kernel
theorem dX8_passNumber_22 : decode cX8_passNumber 22 = .ok (.ireturn, 1) := by decide +kernel
theorem dX8_passNumber_23 : decode cX8_passNumber 23 = .ok (.iconst 0, 1) := by decide +kernel
theorem dX8_passNumber_24 : decode cX8_passNumber 24 = .ok (.istore_n 3, 1) := by decide +kernel
theorem dX8_passNumber_25 : decode cX8_passNumber 25 = .ok (.aload_n 0, 1) := by decide +kernel
theorem dX8_passNumber_26 : decode cX8_passNumber 26 = .ok (.getfield 33, 3) := by decide +kernel
theorem dX8_passNumber_29 : decode cX8_passNumber 29 = .ok (.istore 4, 2) := by decide +kernel
theorem dX8_passNumber_31 : decode cX8_passNumber 31 = .ok (.iload 4, 2) := by decide +kernel
theorem dX8_passNumber_33 : decode cX8_passNumber 33 = .ok (.aload_n 0, 1) := by decide +kernel
theorem dX8_passNumber_34 : decode cX8_passNumber 34 = .ok (.getfield 36, 3) := by decide +kernel
theorem dX8_passNumber_37 : decode cX8_passNumber 37 = .ok (.if_icmp .ge 25, 3) := by decide +kernel
theorem dX8_passNumber_40 : decode cX8_passNumber 40 = .ok (.iload_n 3, 1) := by decide +kernel
theorem dX8_passNumber_41 : decode cX8_passNumber 41 = .ok (.bipush 10, 2) := by decide +kernel
theorem dX8_passNumber_43 : decode cX8_passNumber 43 = .ok (.imul, 1) := by decide +kernel
theorem dX8_passNumber_44 : decode cX8_passNumber 44 = .ok (.aload_n 0, 1) := by decide +kernel
theorem dX8_passNumber_45 : decode cX8_passNumber 45 = .ok (.getfield 11, 3) := by decide +kernel
theorem dX8_passNumber_48 : decode cX8_passNumber 48 = .ok (.iload 4, 2) := by decide +kernel
theorem dX8_passNumber_50 : decode cX8_passNumber 50 = .ok (.baload, 1) := by decide +kernel
theorem dX8_passNumber_51 : decode cX8_passNumber 51 = .ok (.iadd, 1) := by decide +kernel
theorem dX8_passNumber_52 : decode cX8_passNumber 52 = .ok (.bipush 48, 2) := by decide +kernel
theorem dX8_passNumber_54 : decode cX8_passNumber 54 = .ok (.isub, 1) := by decide +kernel
theorem dX8_passNumber_55 : decode cX8_passNumber 55 = .ok (.istore_n 3, 1) := by decide +kernel
theorem dX8_passNumber_56 : decode cX8_passNumber 56 = .ok (.iinc 4 1, 3) := by decide +kernel
theorem dX8_passNumber_59 : decode cX8_passNumber 59 = .ok (.goto (-28), 3) := by decide +kernel
theorem dX8_passNumber_62 : decode cX8_passNumber 62 = .ok (.iload_n 3, 1) := by decide +kernel
theorem dX8_passNumber_63 : decode cX8_passNumber 63 = .ok (.iload_n 1, 1) := by decide +kernel
theorem dX8_passNumber_64 : decode cX8_passNumber 64 = .ok (.iload_n 2, 1) := by decide +kernel
theorem dX8_passNumber_65 : decode cX8_passNumber 65 = .ok (.invokestatic 118, 3) := by decide +kernel
theorem dX8_passNumber_68 : decode cX8_passNumber 68 = .ok (.ifCond .ne 5, 3) := by decide +kernel
theorem dX8_passNumber_71 : decode cX8_passNumber 71 = .ok (.iconst 0, 1) := by decide +kernel
theorem dX8_passNumber_72 : decode cX8_passNumber 72 = .ok (.ireturn, 1) := by decide +kernel
theorem dX8_passNumber_73 : decode cX8_passNumber 73 = .ok (.aload_n 0, 1) := by decide +kernel
theorem dX8_passNumber_74 : decode cX8_passNumber 74 = .ok (.iload_n 3, 1) := by decide +kernel
theorem dX8_passNumber_75 : decode cX8_passNumber 75 = .ok (.putfield 39, 3) := by decide +kernel
theorem dX8_passNumber_78 : decode cX8_passNumber 78 = .ok (.aload_n 0, 1) := by decide +kernel
theorem dX8_passNumber_79 : decode cX8_passNumber 79 = .ok (.invokevirtual 43, 3) := by decide +kernel
theorem dX8_passNumber_82 : decode cX8_passNumber 82 = .ok (.iconst 1, 1) := by decide +kernel
theorem dX8_passNumber_83 : decode cX8_passNumber 83 = .ok (.ireturn, 1) := by decide +kernel
theorem dX8_passStop_0 : decode cX8_passStop 0 = .ok (.aload_n 0, 1) := by decide +kernel
theorem dX8_passStop_1 : decode cX8_passStop 1 = .ok (.getfield 30, 3) := by decide +kernel
theorem dX8_passStop_4 : decode cX8_passStop 4 = .ok (.iconst 3, 1) := by decide +kernel
theorem dX8_passStop_5 : decode cX8_passStop 5 = .ok (.if_icmp .ne 17, 3) := by decide +kernel
theorem dX8_passStop_8 : decode cX8_passStop 8 = .ok (.aload_n 0, 1) := by decide +kernel
theorem dX8_passStop_9 : decode cX8_passStop 9 = .ok (.getfield 11, 3) := by decide +kernel
theorem dX8_passStop_12 : decode cX8_passStop 12 = .ok (.aload_n 0, 1) := by decide +kernel
theorem dX8_passStop_13 : decode cX8_passStop 13 = .ok (.getfield 33, 3) := by decide +kernel
theorem dX8_passStop_16 : decode cX8_passStop 16 = .ok (.baload, 1) := by decide +kernel
theorem dX8_passStop_17 : decode cX8_passStop 17 = .ok (.bipush 59, 2) := by decide +kernel
theorem dX8_passStop_19 : decode cX8_passStop 19 = .ok (.if_icmp .eq 5, 3) := by decide +kernel
theorem dX8_passStop_22 : decode cX8_passStop 22 = .ok (.iconst 0, 1) := by decide +kernel
theorem dX8_passStop_23 : decode cX8_passStop 23 = .ok (.ireturn, 1) := by decide +kernel
theorem dX8_passStop_24 : decode cX8_passStop 24 = .ok (.aload_n 0, 1) := by decide +kernel
theorem dX8_passStop_25 : decode cX8_passStop 25 = .ok (.invokevirtual 43, 3) := by decide +kernel
theorem dX8_passStop_28 : decode cX8_passStop 28 = .ok (.iconst 1, 1) := by decide +kernel
theorem dX8_passStop_29 : decode cX8_passStop 29 = .ok (.ireturn, 1) := by decide +kernel
theorem dX8_next_0 : decode cX8_next 0 = .ok (.aload_n 0, 1) := by decide +kernel
theorem dX8_next_1 : decode cX8_next 1 = .ok (.aload_n 0, 1) := by decide +kernel
theorem dX8_next_2 : decode cX8_next 2 = .ok (.getfield 36, 3) := by decide +kernel
theorem dX8_next_5 : decode cX8_next 5 = .ok (.putfield 33, 3) := by decide +kernel
theorem dX8_next_8 : decode cX8_next 8 = .ok (.aload_n 0, 1) := by decide +kernel
theorem dX8_next_9 : decode cX8_next 9 = .ok (.getfield 33, 3) := by decide +kernel
theorem dX8_next_12 : decode cX8_next 12 = .ok (.aload_n 0, 1) := by decide +kernel
theorem dX8_next_13 : decode cX8_next 13 = .ok (.getfield 15, 3) := by decide +kernel
theorem dX8_next_16 : decode cX8_next 16 = .ok (.if_icmp .ge 30, 3) := by decide +kernel
theorem dX8_next_19 : decode cX8_next 19 = .ok (.aload_n 0, 1) := by decide +kernel
theorem dX8_next_20 : decode cX8_next 20 = .ok (.getfield 11, 3) := by decide +kernel
theorem dX8_next_23 : decode cX8_next 23 = .ok (.aload_n 0, 1) := by decide +kernel
theorem dX8_next_24 : decode cX8_next 24 = .ok (.getfield 33, 3) := by decide +kernel
theorem dX8_next_27 : decode cX8_next 27 = .ok (.baload, 1) := by decide +kernel
theorem dX8_next_28 : decode cX8_next 28 = .ok (.bipush 32, 2) := by decide +kernel
theorem dX8_next_30 : decode cX8_next 30 = .ok (.if_icmp .ne 16, 3) := by decide +kernel
theorem dX8_next_33 : decode cX8_next 33 = .ok (.aload_n 0, 1) := by decide +kernel
theorem dX8_next_34 : decode cX8_next 34 = .ok (.dup, 1) := by decide +kernel
theorem dX8_next_35 : decode cX8_next 35 = .ok (.getfield 33, 3) := by decide +kernel
theorem dX8_next_38 : decode cX8_next 38 = .ok (.iconst 1, 1) := by decide +kernel
theorem dX8_next_39 : decode cX8_next 39 = .ok (.iadd, 1) := by decide +kernel
theorem dX8_next_40 : decode cX8_next 40 = .ok (.putfield 33, 3) := by decide +kernel
theorem dX8_next_43 : decode cX8_next 43 = .ok (.goto (-35), 3) := by decide +kernel
theorem dX8_next_46 : decode cX8_next 46 = .ok (.aload_n 0, 1) := by decide +kernel
theorem dX8_next_47 : decode cX8_next 47 = .ok (.aload_n 0, 1) := by decide +kernel
theorem dX8_next_48 : decode cX8_next 48 = .ok (.aload_n 0, 1) := by decide +kernel
theorem dX8_next_49 : decode cX8_next 49 = .ok (.getfield 33, 3) := by decide +kernel
theorem dX8_next_52 : decode cX8_next 52 = .ok (.invokevirtual 122, 3) := by decide +kernel
theorem dX8_next_55 : decode cX8_next 55 = .ok (.putfield 30, 3) := by decide +kernel
theorem dX8_next_58 : decode cX8_next 58 = .ok (.aload_n 0, 1) := by decide +kernel
theorem dX8_next_59 : decode cX8_next 59 = .ok (.aload_n 0, 1) := by decide +kernel
theorem dX8_next_60 : decode cX8_next 60 = .ok (.getfield 30, 3) := by decide +kernel
theorem dX8_next_63 : decode cX8_next 63 = .ok (.ifCond .ne 10, 3) := by decide +kernel
theorem dX8_next_66 : decode cX8_next 66 = .ok (.aload_n 0, 1) := by decide +kernel
theorem dX8_next_67 : decode cX8_next 67 = .ok (.getfield 33, 3) := by decide +kernel
theorem dX8_next_70 : decode cX8_next 70 = .ok (.goto 9, 3) := by decide +kernel
theorem dX8_next_73 : decode cX8_next 73 = .ok (.aload_n 0, 1) := by decide +kernel
theorem dX8_next_74 : decode cX8_next 74 = .ok (.getfield 33, 3) := by decide +kernel
theorem dX8_next_77 : decode cX8_next 77 = .ok (.iconst 1, 1) := by decide +kernel
theorem dX8_next_78 : decode cX8_next 78 = .ok (.iadd, 1) := by decide +kernel
theorem dX8_next_79 : decode cX8_next 79 = .ok (.putfield 36, 3) := by decide +kernel
theorem dX8_next_82 : decode cX8_next 82 = .ok (.aload_n 0, 1) := by decide +kernel
theorem dX8_next_83 : decode cX8_next 83 = .ok (.getfield 30, 3) := by decide +kernel
theorem dX8_next_86 : decode cX8_next 86 = .ok (.iconst 1, 1) := by decide +kernel
theorem dX8_next_87 : decode cX8_next 87 = .ok (.if_icmp .eq 11, 3) := by decide +kernel
theorem dX8_next_90 : decode cX8_next 90 = .ok (.aload_n 0, 1) := by decide +kernel
theorem dX8_next_91 : decode cX8_next 91 = .ok (.getfield 30, 3) := by decide +kernel
theorem dX8_next_94 : decode cX8_next 94 = .ok (.iconst 2, 1) := by decide +kernel
theorem dX8_next_95 : decode cX8_next 95 = .ok (.if_icmp .ne 42, 3) := by decide +kernel
theorem dX8_next_98 : decode cX8_next 98 = .ok (.aload_n 0, 1) := by decide +kernel
theorem dX8_next_99 : decode cX8_next 99 = .ok (.getfield 36, 3) := by decide +kernel
theorem dX8_next_102 : decode cX8_next 102 = .ok (.aload_n 0, 1) := by decide +kernel
theorem dX8_next_103 : decode cX8_next 103 = .ok (.getfield 15, 3) := by decide +kernel
theorem dX8_next_106 : decode cX8_next 106 = .ok (.if_icmp .ge 31, 3) := by decide +kernel
theorem dX8_next_109 : decode cX8_next 109 = .ok (.aload_n 0, 1) := by decide +kernel
theorem dX8_next_110 : decode cX8_next 110 = .ok (.aload_n 0, 1) := by decide +kernel
theorem dX8_next_111 : decode cX8_next 111 = .ok (.getfield 36, 3) := by decide +kernel
theorem dX8_next_114 : decode cX8_next 114 = .ok (.invokevirtual 122, 3) := by decide +kernel
theorem dX8_next_117 : decode cX8_next 117 = .ok (.aload_n 0, 1) := by decide +kernel
theorem dX8_next_118 : decode cX8_next 118 = .ok (.getfield 30, 3) := by decide +kernel
theorem dX8_next_121 : decode cX8_next 121 = .ok (.if_icmp .ne 16, 3) := by decide +kernel
theorem dX8_next_124 : decode cX8_next 124 = .ok (.aload_n 0, 1) := by decide +kernel
theorem dX8_next_125 : decode cX8_next 125 = .ok (.dup, 1) := by decide +kernel
theorem dX8_next_126 : decode cX8_next 126 = .ok (.getfield 36, 3) := by decide +kernel
theorem dX8_next_129 : decode cX8_next 129 = .ok (.iconst 1, 1) := by decide +kernel
theorem dX8_next_130 : decode cX8_next 130 = .ok (.iadd, 1) := by decide +kernel
theorem dX8_next_131 : decode cX8_next 131 = .ok (.putfield 36, 3) := by decide +kernel
theorem dX8_next_134 : decode cX8_next 134 = .ok (.goto (-52), 3) := by decide +kernel
theorem dX8_next_137 : decode cX8_next 137 = .ok (.return_, 1) := by decide +kernel
theorem dX8_sortAt_0 : decode cX8_sortAt 0 = .ok (.iload_n 1, 1) := by decide +kernel
theorem dX8_sortAt_1 : decode cX8_sortAt 1 = .ok (.ifCond .lt 11, 3) := by decide +kernel
theorem dX8_sortAt_4 : decode cX8_sortAt 4 = .ok (.iload_n 1, 1) := by decide +kernel
theorem dX8_sortAt_5 : decode cX8_sortAt 5 = .ok (.aload_n 0, 1) := by decide +kernel
theorem dX8_sortAt_6 : decode cX8_sortAt 6 = .ok (.getfield 15, 3) := by decide +kernel
theorem dX8_sortAt_9 : decode cX8_sortAt 9 = .ok (.if_icmp .lt 5, 3) := by decide +kernel
theorem dX8_sortAt_12 : decode cX8_sortAt 12 = .ok (.iconst 0, 1) := by decide +kernel
theorem dX8_sortAt_13 : decode cX8_sortAt 13 = .ok (.ireturn, 1) := by decide +kernel
theorem dX8_sortAt_14 : decode cX8_sortAt 14 = .ok (.aload_n 0, 1) := by decide +kernel
theorem dX8_sortAt_15 : decode cX8_sortAt 15 = .ok (.getfield 11, 3) := by decide +kernel
theorem dX8_sortAt_18 : decode cX8_sortAt 18 = .ok (.iload_n 1, 1) := by decide +kernel
theorem dX8_sortAt_19 : decode cX8_sortAt 19 = .ok (.baload, 1) := by decide +kernel
theorem dX8_sortAt_20 : decode cX8_sortAt 20 = .ok (.bipush 97, 2) := by decide +kernel
theorem dX8_sortAt_22 : decode cX8_sortAt 22 = .ok (.if_icmp .lt 16, 3) := by decide +kernel
theorem dX8_sortAt_25 : decode cX8_sortAt 25 = .ok (.aload_n 0, 1) := by decide +kernel
theorem dX8_sortAt_26 : decode cX8_sortAt 26 = .ok (.getfield 11, 3) := by decide +kernel
theorem dX8_sortAt_29 : decode cX8_sortAt 29 = .ok (.iload_n 1, 1) := by decide +kernel
theorem dX8_sortAt_30 : decode cX8_sortAt 30 = .ok (.baload, 1) := by decide +kernel
theorem dX8_sortAt_31 : decode cX8_sortAt 31 = .ok (.bipush 122, 2) := by decide +kernel
theorem dX8_sortAt_33 : decode cX8_sortAt 33 = .ok (.if_icmp .gt 5, 3) := by decide +kernel
theorem dX8_sortAt_36 : decode cX8_sortAt 36 = .ok (.iconst 1, 1) := by decide +kernel
theorem dX8_sortAt_37 : decode cX8_sortAt 37 = .ok (.ireturn, 1) := by decide +kernel
theorem dX8_sortAt_38 : decode cX8_sortAt 38 = .ok (.aload_n 0, 1) := by decide +kernel
theorem dX8_sortAt_39 : decode cX8_sortAt 39 = .ok (.getfield 11, 3) := by decide +kernel
theorem dX8_sortAt_42 : decode cX8_sortAt 42 = .ok (.iload_n 1, 1) := by decide +kernel
theorem dX8_sortAt_43 : decode cX8_sortAt 43 = .ok (.baload, 1) := by decide +kernel
theorem dX8_sortAt_44 : decode cX8_sortAt 44 = .ok (.bipush 48, 2) := by decide +kernel
theorem dX8_sortAt_46 : decode cX8_sortAt 46 = .ok (.if_icmp .lt 18, 3) := by decide +kernel
theorem dX8_sortAt_49 : decode cX8_sortAt 49 = .ok (.aload_n 0, 1) := by decide +kernel
theorem dX8_sortAt_50 : decode cX8_sortAt 50 = .ok (.getfield 11, 3) := by decide +kernel
theorem dX8_sortAt_53 : decode cX8_sortAt 53 = .ok (.iload_n 1, 1) := by decide +kernel
theorem dX8_sortAt_54 : decode cX8_sortAt 54 = .ok (.baload, 1) := by decide +kernel
theorem dX8_sortAt_55 : decode cX8_sortAt 55 = .ok (.bipush 57, 2) := by decide +kernel
theorem dX8_sortAt_57 : decode cX8_sortAt 57 = .ok (.if_icmp .gt 7, 3) := by decide +kernel
theorem dX8_sortAt_60 : decode cX8_sortAt 60 = .ok (.iconst 2, 1) := by decide +kernel
theorem dX8_sortAt_61 : decode cX8_sortAt 61 = .ok (.goto 4, 3) := by decide +kernel
theorem dX8_sortAt_64 : decode cX8_sortAt 64 = .ok (.iconst 3, 1) := by decide +kernel
theorem dX8_sortAt_65 : decode cX8_sortAt 65 = .ok (.ireturn, 1) := by decide +kernel
theorem dX9_init_0 : decode cX9_init 0 = .ok (.aload_n 0, 1) := by decide +kernel
theorem dX9_init_1 : decode cX9_init 1 = .ok (.invokespecial 3, 3) := by decide +kernel
theorem dX9_init_4 : decode cX9_init 4 = .ok (.aload_n 0, 1) := by decide +kernel
theorem dX9_init_5 : decode cX9_init 5 = .ok (.iconst 0, 1) := by decide +kernel
theorem dX9_init_6 : decode cX9_init 6 = .ok (.putfield 9, 3) := by decide +kernel
theorem dX9_init_9 : decode cX9_init 9 = .ok (.aload_n 0, 1) := by decide +kernel
theorem dX9_init_10 : decode cX9_init 10 = .ok (.iconst 0, 1) := by decide +kernel
theorem dX9_init_11 : decode cX9_init 11 = .ok (.putfield 15, 3) := by decide +kernel
theorem dX9_init_14 : decode cX9_init 14 = .ok (.aload_n 0, 1) := by decide +kernel
theorem dX9_init_15 : decode cX9_init 15 = .ok (.iconst 0, 1) := by decide +kernel
theorem dX9_init_16 : decode cX9_init 16 = .ok (.putfield 18, 3) := by decide +kernel
theorem dX9_init_19 : decode cX9_init 19 = .ok (.aload_n 0, 1) := by decide +kernel
theorem dX9_init_20 : decode cX9_init 20 = .ok (.iconst 0, 1) := by decide +kernel
theorem dX9_init_21 : decode cX9_init 21 = .ok (.putfield 21, 3) := by decide +kernel
theorem dX9_init_24 : decode cX9_init 24 = .ok (.aload_n 0, 1) := by decide +kernel
theorem dX9_init_25 : decode cX9_init 25 = .ok (.bipush 30, 2) := by decide +kernel
theorem dX9_init_27 : decode cX9_init 27 = .ok (.newarray .int, 2) := by decide +kernel
theorem dX9_init_29 : decode cX9_init 29 = .ok (.putfield 25, 3) := by decide +kernel
theorem dX9_init_32 : decode cX9_init 32 = .ok (.aload_n 0, 1) := by decide +kernel
theorem dX9_init_33 : decode cX9_init 33 = .ok (.iconst 0, 1) := by decide +kernel
theorem dX9_init_34 : decode cX9_init 34 = .ok (.putfield 29, 3) := by decide +kernel
theorem dX9_init_37 : decode cX9_init 37 = .ok (.return_, 1) := by decide +kernel
theorem dX9_forget_0 : decode cX9_forget 0 = .ok (.aload_n 0, 1) := by decide +kernel
theorem dX9_forget_1 : decode cX9_forget 1 = .ok (.iconst 0, 1) := by decide +kernel
theorem dX9_forget_2 : decode cX9_forget 2 = .ok (.putfield 29, 3) := by decide +kernel
theorem dX9_forget_5 : decode cX9_forget 5 = .ok (.return_, 1) := by decide +kernel
theorem dX9_become_0 : decode cX9_become 0 = .ok (.aload_n 0, 1) := by decide +kernel
theorem dX9_become_1 : decode cX9_become 1 = .ok (.iload_n 1, 1) := by decide +kernel
theorem dX9_become_2 : decode cX9_become 2 = .ok (.putfield 9, 3) := by decide +kernel
theorem dX9_become_5 : decode cX9_become 5 = .ok (.aload_n 0, 1) := by decide +kernel
theorem dX9_become_6 : decode cX9_become 6 = .ok (.iload_n 2, 1) := by decide +kernel
theorem dX9_become_7 : decode cX9_become 7 = .ok (.putfield 15, 3) := by decide +kernel
theorem dX9_become_10 : decode cX9_become 10 = .ok (.aload_n 0, 1) := by decide +kernel
theorem dX9_become_11 : decode cX9_become 11 = .ok (.iload_n 3, 1) := by decide +kernel
theorem dX9_become_12 : decode cX9_become 12 = .ok (.putfield 18, 3) := by decide +kernel
theorem dX9_become_15 : decode cX9_become 15 = .ok (.aload_n 0, 1) := by decide +kernel
theorem dX9_become_16 : decode cX9_become 16 = .ok (.iconst 0, 1) := by decide +kernel
theorem dX9_become_17 : decode cX9_become 17 = .ok (.putfield 21, 3) := by decide +kernel
theorem dX9_become_20 : decode cX9_become 20 = .ok (.return_, 1) := by decide +kernel
theorem dX9_perform_0 : decode cX9_perform 0 = .ok (.iconst 0, 1) := by decide +kernel
theorem dX9_perform_1 : decode cX9_perform 1 = .ok (.istore_n 3, 1) := by decide +kernel
theorem dX9_perform_2 : decode cX9_perform 2 = .ok (.iload_n 1, 1) := by decide +kernel
theorem dX9_perform_3 : decode cX9_perform 3 = .ok (.tableswitch 52 0 2 #[25, 34, 43], 25) := by decide +kernel
theorem dX9_perform_28 : decode cX9_perform 28 = .ok (.aload_n 0, 1) := by decide +kernel
theorem dX9_perform_29 : decode cX9_perform 29 = .ok (.iload_n 2, 1) := by decide +kernel
theorem dX9_perform_30 : decode cX9_perform 30 = .ok (.invokevirtual 32, 3) := by decide +kernel
theorem dX9_perform_33 : decode cX9_perform 33 = .ok (.istore_n 3, 1) := by decide +kernel
theorem dX9_perform_34 : decode cX9_perform 34 = .ok (.goto 27, 3) := by decide +kernel
theorem dX9_perform_37 : decode cX9_perform 37 = .ok (.aload_n 0, 1) := by decide +kernel
theorem dX9_perform_38 : decode cX9_perform 38 = .ok (.iload_n 2, 1) := by decide +kernel
theorem dX9_perform_39 : decode cX9_perform 39 = .ok (.invokevirtual 36, 3) := by decide +kernel
theorem dX9_perform_42 : decode cX9_perform 42 = .ok (.istore_n 3, 1) := by decide +kernel
theorem dX9_perform_43 : decode cX9_perform 43 = .ok (.goto 18, 3) := by decide +kernel
theorem dX9_perform_46 : decode cX9_perform 46 = .ok (.aload_n 0, 1) := by decide +kernel
theorem dX9_perform_47 : decode cX9_perform 47 = .ok (.iload_n 2, 1) := by decide +kernel
theorem dX9_perform_48 : decode cX9_perform 48 = .ok (.invokevirtual 39, 3) := by decide +kernel
theorem dX9_perform_51 : decode cX9_perform 51 = .ok (.istore_n 3, 1) := by decide +kernel
theorem dX9_perform_52 : decode cX9_perform 52 = .ok (.goto 9, 3) := by decide +kernel
theorem dX9_perform_55 : decode cX9_perform 55 = .ok (.aload_n 0, 1) := by decide +kernel
theorem dX9_perform_56 : decode cX9_perform 56 = .ok (.iload_n 2, 1) := by decide +kernel
theorem dX9_perform_57 : decode cX9_perform 57 = .ok (.invokevirtual 42, 3) := by decide +kernel
theorem dX9_perform_60 : decode cX9_perform 60 = .ok (.istore_n 3, 1) := by decide +kernel
theorem dX9_perform_61 : decode cX9_perform 61 = .ok (.aload_n 0, 1) := by decide +kernel
theorem dX9_perform_62 : decode cX9_perform 62 = .ok (.getfield 21, 3) := by decide +kernel
theorem dX9_perform_65 : decode cX9_perform 65 = .ok (.ifCond .eq 8, 3) := by decide +kernel
theorem dX9_perform_68 : decode cX9_perform 68 = .ok (.bipush (-15), 2) := by decide +kernel
theorem dX9_perform_70 : decode cX9_perform 70 = .ok (.goto 4, 3) := by decide +kernel
theorem dX9_perform_73 : decode cX9_perform 73 = .ok (.iload_n 3, 1) := by decide +kernel
theorem dX9_perform_74 : decode cX9_perform 74 = .ok (.ireturn, 1) := by decide +kernel
theorem dX9_runs_0 : decode cX9_runs 0 = .ok (.aload_n 0, 1) := by decide +kernel
theorem dX9_runs_1 : decode cX9_runs 1 = .ok (.getfield 29, 3) := by decide +kernel
theorem dX9_runs_4 : decode cX9_runs 4 = .ok (.bipush 30, 2) := by decide +kernel
theorem dX9_runs_6 : decode cX9_runs 6 = .ok (.if_icmp .lt 4, 3) := by decide +kernel
theorem dX9_runs_9 : decode cX9_runs 9 = .ok (.return_, 1) := by decide +kernel
theorem dX9_runs_10 : decode cX9_runs 10 = .ok (.aload_n 0, 1) := by decide +kernel
theorem dX9_runs_11 : decode cX9_runs 11 = .ok (.getfield 25, 3) := by decide +kernel
theorem dX9_runs_14 : decode cX9_runs 14 = .ok (.aload_n 0, 1) := by decide +kernel
theorem dX9_runs_15 : decode cX9_runs 15 = .ok (.getfield 29, 3) := by decide +kernel
theorem dX9_runs_18 : decode cX9_runs 18 = .ok (.iload_n 1, 1) := by decide +kernel
theorem dX9_runs_19 : decode cX9_runs 19 = .ok (.iastore, 1) := by decide +kernel
theorem dX9_runs_20 : decode cX9_runs 20 = .ok (.aload_n 0, 1) := by decide +kernel
theorem dX9_runs_21 : decode cX9_runs 21 = .ok (.dup, 1) := by decide +kernel
theorem dX9_runs_22 : decode cX9_runs 22 = .ok (.getfield 29, 3) := by decide +kernel
theorem dX9_runs_25 : decode cX9_runs 25 = .ok (.iconst 1, 1) := by decide +kernel
theorem dX9_runs_26 : decode cX9_runs 26 = .ok (.iadd, 1) := by decide +kernel
theorem dX9_runs_27 : decode cX9_runs 27 = .ok (.putfield 29, 3) := by decide +kernel
theorem dX9_runs_30 : decode cX9_runs 30 = .ok (.return_, 1) := by decide +kernel
theorem dX9_is_0 : decode cX9_is 0 = .ok (.aload_n 0, 1) := by decide +kernel
theorem dX9_is_1 : decode cX9_is 1 = .ok (.getfield 9, 3) := by decide +kernel
theorem dX9_is_4 : decode cX9_is 4 = .ok (.iload_n 1, 1) := by decide +kernel
theorem dX9_is_5 : decode cX9_is 5 = .ok (.invokestatic 45, 3) := by decide +kernel
theorem dX9_is_8 : decode cX9_is 8 = .ok (.ireturn, 1) := by decide +kernel
theorem dX9_prints_0 : decode cX9_prints 0 = .ok (.aload_n 0, 1) := by decide +kernel
theorem dX9_prints_1 : decode cX9_prints 1 = .ok (.iconst 3, 1) := by decide +kernel
theorem dX9_prints_2 : decode cX9_prints 2 = .ok (.invokevirtual 49, 3) := by decide +kernel
theorem dX9_prints_5 : decode cX9_prints 5 = .ok (.ifCond .eq 9, 3) := by decide +kernel
theorem dX9_prints_8 : decode cX9_prints 8 = .ok (.aload_n 0, 1) := by decide +kernel
theorem dX9_prints_9 : decode cX9_prints 9 = .ok (.bipush 41, 2) := by decide +kernel
theorem dX9_prints_11 : decode cX9_prints 11 = .ok (.invokevirtual 53, 3) := by decide +kernel
theorem dX9_prints_14 : decode cX9_prints 14 = .ok (.aload_n 0, 1) := by decide +kernel
theorem dX9_prints_15 : decode cX9_prints 15 = .ok (.iconst 2, 1) := by decide +kernel
theorem dX9_prints_16 : decode cX9_prints 16 = .ok (.invokevirtual 49, 3) := by decide +kernel
theorem dX9_prints_19 : decode cX9_prints 19 = .ok (.ifCond .eq 9, 3) := by decide +kernel
theorem dX9_prints_22 : decode cX9_prints 22 = .ok (.aload_n 0, 1) := by decide +kernel
theorem dX9_prints_23 : decode cX9_prints 23 = .ok (.bipush 30, 2) := by decide +kernel
theorem dX9_prints_25 : decode cX9_prints 25 = .ok (.invokevirtual 53, 3) := by decide +kernel
theorem dX9_prints_28 : decode cX9_prints 28 = .ok (.aload_n 0, 1) := by decide +kernel
theorem dX9_prints_29 : decode cX9_prints 29 = .ok (.iconst 4, 1) := by decide +kernel
theorem dX9_prints_30 : decode cX9_prints 30 = .ok (.invokevirtual 49, 3) := by decide +kernel
theorem dX9_prints_33 : decode cX9_prints 33 = .ok (.ifCond .eq 9, 3) := by decide +kernel
theorem dX9_prints_36 : decode cX9_prints 36 = .ok (.aload_n 0, 1) := by decide +kernel
theorem dX9_prints_37 : decode cX9_prints 37 = .ok (.bipush 50, 2) := by decide +kernel
theorem dX9_prints_39 : decode cX9_prints 39 = .ok (.invokevirtual 53, 3) := by decide +kernel
theorem dX9_prints_42 : decode cX9_prints 42 = .ok (.aload_n 0, 1) := by decide +kernel
theorem dX9_prints_43 : decode cX9_prints 43 = .ok (.bipush 10, 2) := by decide +kernel
theorem dX9_prints_45 : decode cX9_prints 45 = .ok (.invokevirtual 53, 3) := by decide +kernel
theorem dX9_prints_48 : decode cX9_prints 48 = .ok (.iload_n 1, 1) := by decide +kernel
theorem dX9_prints_49 : decode cX9_prints 49 = .ok (.aload_n 0, 1) := by decide +kernel
theorem dX9_prints_50 : decode cX9_prints 50 = .ok (.getfield 15, 3) := by decide +kernel
theorem dX9_prints_53 : decode cX9_prints 53 = .ok (.iadd, 1) := by decide +kernel
theorem dX9_prints_54 : decode cX9_prints 54 = .ok (.istore_n 2, 1) := by decide +kernel
theorem dX9_prints_55 : decode cX9_prints 55 = .ok (.aload_n 0, 1) := by decide +kernel
theorem dX9_prints_56 : decode cX9_prints 56 = .ok (.iconst 2, 1) := by decide +kernel
theorem dX9_prints_57 : decode cX9_prints 57 = .ok (.invokevirtual 49, 3) := by decide +kernel
theorem dX9_prints_60 : decode cX9_prints 60 = .ok (.ifCond .eq 7, 3) := by decide +kernel
theorem dX9_prints_63 : decode cX9_prints 63 = .ok (.iload_n 2, 1) := by decide +kernel
theorem dX9_prints_64 : decode cX9_prints 64 = .ok (.iconst 3, 1) := by decide +kernel
theorem dX9_prints_65 : decode cX9_prints 65 = .ok (.imul, 1) := by decide +kernel
theorem dX9_prints_66 : decode cX9_prints 66 = .ok (.istore_n 2, 1) := by decide +kernel
theorem dX9_prints_67 : decode cX9_prints 67 = .ok (.aload_n 0, 1) := by decide +kernel
theorem dX9_prints_68 : decode cX9_prints 68 = .ok (.iconst 3, 1) := by decide +kernel
theorem dX9_prints_69 : decode cX9_prints 69 = .ok (.invokevirtual 49, 3) := by decide +kernel
theorem dX9_prints_72 : decode cX9_prints 72 = .ok (.ifCond .eq 10, 3) := by decide +kernel
theorem dX9_prints_75 : decode cX9_prints 75 = .ok (.iload_n 2, 1) := by decide +kernel
theorem dX9_prints_76 : decode cX9_prints 76 = .ok (.aload_n 0, 1) := by decide +kernel
theorem dX9_prints_77 : decode cX9_prints 77 = .ok (.getfield 15, 3) := by decide +kernel
theorem dX9_prints_80 : decode cX9_prints 80 = .ok (.isub, 1) := by decide +kernel
theorem dX9_prints_81 : decode cX9_prints 81 = .ok (.istore_n 2, 1) := by decide +kernel
theorem dX9_prints_82 : decode cX9_prints 82 = .ok (.aload_n 0, 1) := by decide +kernel
theorem dX9_prints_83 : decode cX9_prints 83 = .ok (.iconst 4, 1) := by decide +kernel
theorem dX9_prints_84 : decode cX9_prints 84 = .ok (.invokevirtual 49, 3) := by decide +kernel
theorem dX9_prints_87 : decode cX9_prints 87 = .ok (.ifCond .eq 9, 3) := by decide +kernel
theorem dX9_prints_90 : decode cX9_prints 90 = .ok (.iconst 0, 1) := by decide +kernel
theorem dX9_prints_91 : decode cX9_prints 91 = .ok (.iload_n 2, 1) := by decide +kernel
theorem dX9_prints_92 : decode cX9_prints 92 = .ok (.isub, 1) := by decide +kernel
theorem dX9_prints_93 : decode cX9_prints 93 = .ok (.goto 4, 3) := by decide +kernel
theorem dX9_prints_96 : decode cX9_prints 96 = .ok (.iload_n 2, 1) := by decide +kernel
theorem dX9_prints_97 : decode cX9_prints 97 = .ok (.ireturn, 1) := by decide +kernel
theorem dX9_sets_0 : decode cX9_sets 0 = .ok (.aload_n 0, 1) := by decide +kernel
theorem dX9_sets_1 : decode cX9_sets 1 = .ok (.iconst 4, 1) := by decide +kernel
theorem dX9_sets_2 : decode cX9_sets 2 = .ok (.invokevirtual 49, 3) := by decide +kernel
theorem dX9_sets_5 : decode cX9_sets 5 = .ok (.ifCond .eq 9, 3) := by decide +kernel
theorem dX9_sets_8 : decode cX9_sets 8 = .ok (.aload_n 0, 1) := by decide +kernel
theorem dX9_sets_9 : decode cX9_sets 9 = .ok (.bipush 51, 2) := by decide +kernel
theorem dX9_sets_11 : decode cX9_sets 11 = .ok (.invokevirtual 53, 3) := by decide +kernel
theorem dX9_sets_14 : decode cX9_sets 14 = .ok (.aload_n 0, 1) := by decide +kernel
theorem dX9_sets_15 : decode cX9_sets 15 = .ok (.iconst 1, 1) := by decide +kernel
theorem dX9_sets_16 : decode cX9_sets 16 = .ok (.invokevirtual 49, 3) := by decide +kernel
theorem dX9_sets_19 : decode cX9_sets 19 = .ok (.ifCond .eq 9, 3) := by decide +kernel
theorem dX9_sets_22 : decode cX9_sets 22 = .ok (.aload_n 0, 1) := by decide +kernel
theorem dX9_sets_23 : decode cX9_sets 23 = .ok (.bipush 20, 2) := by decide +kernel
theorem dX9_sets_25 : decode cX9_sets 25 = .ok (.invokevirtual 53, 3) := by decide +kernel
theorem dX9_sets_28 : decode cX9_sets 28 = .ok (.aload_n 0, 1) := by decide +kernel
theorem dX9_sets_29 : decode cX9_sets 29 = .ok (.bipush 11, 2) := by decide +kernel
theorem dX9_sets_31 : decode cX9_sets 31 = .ok (.invokevirtual 53, 3) := by decide +kernel
theorem dX9_sets_34 : decode cX9_sets 34 = .ok (.aload_n 0, 1) := by decide +kernel
theorem dX9_sets_35 : decode cX9_sets 35 = .ok (.iload_n 1, 1) := by decide +kernel
theorem dX9_sets_36 : decode cX9_sets 36 = .ok (.invokevirtual 32, 3) := by decide +kernel
theorem dX9_sets_39 : decode cX9_sets 39 = .ok (.iconst 2, 1) := by decide +kernel
theorem dX9_sets_40 : decode cX9_sets 40 = .ok (.imul, 1) := by decide +kernel
theorem dX9_sets_41 : decode cX9_sets 41 = .ok (.istore_n 2, 1) := by decide +kernel
theorem dX9_sets_42 : decode cX9_sets 42 = .ok (.aload_n 0, 1) := by decide +kernel
theorem dX9_sets_43 : decode cX9_sets 43 = .ok (.iconst 1, 1) := by decide +kernel
theorem dX9_sets_44 : decode cX9_sets 44 = .ok (.invokevirtual 49, 3) := by decide +kernel
theorem dX9_sets_47 : decode cX9_sets 47 = .ok (.ifCond .eq 10, 3) := by decide +kernel
theorem dX9_sets_50 : decode cX9_sets 50 = .ok (.iload_n 2, 1) := by decide +kernel
theorem dX9_sets_51 : decode cX9_sets 51 = .ok (.aload_n 0, 1) := by decide +kernel
theorem dX9_sets_52 : decode cX9_sets 52 = .ok (.getfield 18, 3) := by decide +kernel
theorem dX9_sets_55 : decode cX9_sets 55 = .ok (.isub, 1) := by decide +kernel
theorem dX9_sets_56 : decode cX9_sets 56 = .ok (.istore_n 2, 1) := by decide +kernel
theorem dX9_sets_57 : decode cX9_sets 57 = .ok (.aload_n 0, 1) := by decide +kernel
theorem dX9_sets_58 : decode cX9_sets 58 = .ok (.iconst 4, 1) := by decide +kernel
theorem dX9_sets_59 : decode cX9_sets 59 = .ok (.invokevirtual 49, 3) := by decide +kernel
theorem dX9_sets_62 : decode cX9_sets 62 = .ok (.ifCond .eq 16, 3) := by decide +kernel
theorem dX9_sets_65 : decode cX9_sets 65 = .ok (.iload_n 2, 1) := by decide +kernel
theorem dX9_sets_66 : decode cX9_sets 66 = .ok (.aload_n 0, 1) := by decide +kernel
theorem dX9_sets_67 : decode cX9_sets 67 = .ok (.aload_n 0, 1) := by decide +kernel
theorem dX9_sets_68 : decode cX9_sets 68 = .ok (.getfield 15, 3) := by decide +kernel
theorem dX9_sets_71 : decode cX9_sets 71 = .ok (.invokevirtual 32, 3) := by decide +kernel
theorem dX9_sets_74 : decode cX9_sets 74 = .ok (.iadd, 1) := by decide +kernel
theorem dX9_sets_75 : decode cX9_sets 75 = .ok (.goto 4, 3) := by decide +kernel
theorem dX9_sets_78 : decode cX9_sets 78 = .ok (.iload_n 2, 1) := by decide +kernel
theorem dX9_sets_79 : decode cX9_sets 79 = .ok (.ireturn, 1) := by decide +kernel
theorem dX9_shares_0 : decode cX9_shares 0 = .ok (.aload_n 0, 1) := by decide +kernel
theorem dX9_shares_1 : decode cX9_shares 1 = .ok (.iconst 3, 1) := by decide +kernel
theorem dX9_shares_2 : decode cX9_shares 2 = .ok (.invokevirtual 49, 3) := by decide +kernel
theorem dX9_shares_5 : decode cX9_shares 5 = .ok (.ifCond .eq 9, 3) := by decide +kernel
theorem dX9_shares_8 : decode cX9_shares 8 = .ok (.aload_n 0, 1) := by decide +kernel
theorem dX9_shares_9 : decode cX9_shares 9 = .ok (.bipush 40, 2) := by decide +kernel
theorem dX9_shares_11 : decode cX9_shares 11 = .ok (.invokevirtual 53, 3) := by decide +kernel
theorem dX9_shares_14 : decode cX9_shares 14 = .ok (.aload_n 0, 1) := by decide +kernel
theorem dX9_shares_15 : decode cX9_shares 15 = .ok (.iconst 5, 1) := by decide +kernel
theorem dX9_shares_16 : decode cX9_shares 16 = .ok (.invokevirtual 49, 3) := by decide +kernel
theorem dX9_shares_19 : decode cX9_shares 19 = .ok (.ifCond .eq 9, 3) := by decide +kernel
theorem dX9_shares_22 : decode cX9_shares 22 = .ok (.aload_n 0, 1) := by decide +kernel
theorem dX9_shares_23 : decode cX9_shares 23 = .ok (.bipush 61, 2) := by decide +kernel
theorem dX9_shares_25 : decode cX9_shares 25 = .ok (.invokevirtual 53, 3) := by decide +kernel
theorem dX9_shares_28 : decode cX9_shares 28 = .ok (.aload_n 0, 1) := by decide +kernel
theorem dX9_shares_29 : decode cX9_shares 29 = .ok (.bipush 12, 2) := by decide +kernel
theorem dX9_shares_31 : decode cX9_shares 31 = .ok (.invokevirtual 53, 3) := by decide +kernel
theorem dX9_shares_34 : decode cX9_shares 34 = .ok (.aload_n 0, 1) := by decide +kernel
theorem dX9_shares_35 : decode cX9_shares 35 = .ok (.getfield 18, 3) := by decide +kernel
theorem dX9_shares_38 : decode cX9_shares 38 = .ok (.aload_n 0, 1) := by decide +kernel
theorem dX9_shares_39 : decode cX9_shares 39 = .ok (.getfield 15, 3) := by decide +kernel
theorem dX9_shares_42 : decode cX9_shares 42 = .ok (.if_icmp .ne 10, 3) := by decide +kernel
theorem dX9_shares_45 : decode cX9_shares 45 = .ok (.aload_n 0, 1) := by decide +kernel
theorem dX9_shares_46 : decode cX9_shares 46 = .ok (.iconst 1, 1) := by decide +kernel
theorem dX9_shares_47 : decode cX9_shares 47 = .ok (.putfield 21, 3) := by decide +kernel
theorem dX9_shares_50 : decode cX9_shares 50 = .ok (.iconst 0, 1) := by decide +kernel
theorem dX9_shares_51 : decode cX9_shares 51 = .ok (.ireturn, 1) := by decide +kernel
theorem dX9_shares_52 : decode cX9_shares 52 = .ok (.aload_n 0, 1) := by decide +kernel
theorem dX9_shares_53 : decode cX9_shares 53 = .ok (.iconst 3, 1) := by decide +kernel
theorem dX9_shares_54 : decode cX9_shares 54 = .ok (.invokevirtual 49, 3) := by decide +kernel
theorem dX9_shares_57 : decode cX9_shares 57 = .ok (.ifCond .eq 9, 3) := by decide +kernel
theorem dX9_shares_60 : decode cX9_shares 60 = .ok (.iload_n 1, 1) := by decide +kernel
theorem dX9_shares_61 : decode cX9_shares 61 = .ok (.iconst 2, 1) := by decide +kernel
theorem dX9_shares_62 : decode cX9_shares 62 = .ok (.iadd, 1) := by decide +kernel
theorem dX9_shares_63 : decode cX9_shares 63 = .ok (.goto 4, 3) := by decide +kernel
theorem dX9_shares_66 : decode cX9_shares 66 = .ok (.iload_n 1, 1) := by decide +kernel
theorem dX9_shares_67 : decode cX9_shares 67 = .ok (.aload_n 0, 1) := by decide +kernel
theorem dX9_shares_68 : decode cX9_shares 68 = .ok (.getfield 18, 3) := by decide +kernel
theorem dX9_shares_71 : decode cX9_shares 71 = .ok (.aload_n 0, 1) := by decide +kernel
theorem dX9_shares_72 : decode cX9_shares 72 = .ok (.getfield 15, 3) := by decide +kernel
theorem dX9_shares_75 : decode cX9_shares 75 = .ok (.isub, 1) := by decide +kernel
theorem dX9_shares_76 : decode cX9_shares 76 = .ok (.idiv, 1) := by decide +kernel
theorem dX9_shares_77 : decode cX9_shares 77 = .ok (.istore_n 2, 1) := by decide +kernel
theorem dX9_shares_78 : decode cX9_shares 78 = .ok (.aload_n 0, 1) := by decide +kernel
theorem dX9_shares_79 : decode cX9_shares 79 = .ok (.iconst 3, 1) := by decide +kernel
theorem dX9_shares_80 : decode cX9_shares 80 = .ok (.invokevirtual 49, 3) := by decide +kernel
theorem dX9_shares_83 : decode cX9_shares 83 = .ok (.ifCond .eq 7, 3) := by decide +kernel
theorem dX9_shares_86 : decode cX9_shares 86 = .ok (.iload_n 2, 1) := by decide +kernel
theorem dX9_shares_87 : decode cX9_shares 87 = .ok (.iconst 1, 1) := by decide +kernel
theorem dX9_shares_88 : decode cX9_shares 88 = .ok (.ixor, 1) := by decide +kernel
theorem dX9_shares_89 : decode cX9_shares 89 = .ok (.istore_n 2, 1) := by decide +kernel
theorem dX9_shares_90 : decode cX9_shares 90 = .ok (.aload_n 0, 1) := by decide +kernel
theorem dX9_shares_91 : decode cX9_shares 91 = .ok (.iconst 5, 1) := by decide +kernel
theorem dX9_shares_92 : decode cX9_shares 92 = .ok (.invokevirtual 49, 3) := by decide +kernel
theorem dX9_shares_95 : decode cX9_shares 95 = .ok (.ifCond .eq 16, 3) := by decide +kernel
theorem dX9_shares_98 : decode cX9_shares 98 = .ok (.iload_n 2, 1) := by decide +kernel
theorem dX9_shares_99 : decode cX9_shares 99 = .ok (.aload_n 0, 1) := by decide +kernel
theorem dX9_shares_100 : decode cX9_shares 100 = .ok (.aload_n 0, 1) := by decide +kernel
theorem dX9_shares_101 : decode cX9_shares 101 = .ok (.getfield 18, 3) := by decide +kernel
theorem dX9_shares_104 : decode cX9_shares 104 = .ok (.invokevirtual 32, 3) := by decide +kernel
theorem dX9_shares_107 : decode cX9_shares 107 = .ok (.iadd, 1) := by decide +kernel
theorem dX9_shares_108 : decode cX9_shares 108 = .ok (.goto 4, 3) := by decide +kernel
theorem dX9_shares_111 : decode cX9_shares 111 = .ok (.iload_n 2, 1) := by decide +kernel
theorem dX9_shares_112 : decode cX9_shares 112 = .ok (.ireturn, 1) := by decide +kernel
theorem dX9_tells_0 : decode cX9_tells 0 = .ok (.aload_n 0, 1) := by decide +kernel
theorem dX9_tells_1 : decode cX9_tells 1 = .ok (.iconst 2, 1) := by decide +kernel
theorem dX9_tells_2 : decode cX9_tells 2 = .ok (.invokevirtual 49, 3) := by decide +kernel
theorem dX9_tells_5 : decode cX9_tells 5 = .ok (.ifCond .eq 9, 3) := by decide +kernel
theorem dX9_tells_8 : decode cX9_tells 8 = .ok (.aload_n 0, 1) := by decide +kernel
theorem dX9_tells_9 : decode cX9_tells 9 = .ok (.bipush 31, 2) := by decide +kernel
theorem dX9_tells_11 : decode cX9_tells 11 = .ok (.invokevirtual 53, 3) := by decide +kernel
theorem dX9_tells_14 : decode cX9_tells 14 = .ok (.aload_n 0, 1) := by decide +kernel
theorem dX9_tells_15 : decode cX9_tells 15 = .ok (.iconst 5, 1) := by decide +kernel
theorem dX9_tells_16 : decode cX9_tells 16 = .ok (.invokevirtual 49, 3) := by decide +kernel
theorem dX9_tells_19 : decode cX9_tells 19 = .ok (.ifCond .eq 9, 3) := by decide +kernel
theorem dX9_tells_22 : decode cX9_tells 22 = .ok (.aload_n 0, 1) := by decide +kernel
theorem dX9_tells_23 : decode cX9_tells 23 = .ok (.bipush 60, 2) := by decide +kernel
theorem dX9_tells_25 : decode cX9_tells 25 = .ok (.invokevirtual 53, 3) := by decide +kernel
theorem dX9_tells_28 : decode cX9_tells 28 = .ok (.aload_n 0, 1) := by decide +kernel
theorem dX9_tells_29 : decode cX9_tells 29 = .ok (.bipush 13, 2) := by decide +kernel
theorem dX9_tells_31 : decode cX9_tells 31 = .ok (.invokevirtual 53, 3) := by decide +kernel
theorem dX9_tells_34 : decode cX9_tells 34 = .ok (.aload_n 0, 1) := by decide +kernel
theorem dX9_tells_35 : decode cX9_tells 35 = .ok (.iload_n 1, 1) := by decide +kernel
theorem dX9_tells_36 : decode cX9_tells 36 = .ok (.invokevirtual 36, 3) := by decide +kernel
theorem dX9_tells_39 : decode cX9_tells 39 = .ok (.aload_n 0, 1) := by decide +kernel
theorem dX9_tells_40 : decode cX9_tells 40 = .ok (.getfield 18, 3) := by decide +kernel
theorem dX9_tells_43 : decode cX9_tells 43 = .ok (.ixor, 1) := by decide +kernel
theorem dX9_tells_44 : decode cX9_tells 44 = .ok (.istore_n 2, 1) := by decide +kernel
theorem dX9_tells_45 : decode cX9_tells 45 = .ok (.aload_n 0, 1) := by decide +kernel
theorem dX9_tells_46 : decode cX9_tells 46 = .ok (.iconst 2, 1) := by decide +kernel
theorem dX9_tells_47 : decode cX9_tells 47 = .ok (.invokevirtual 49, 3) := by decide +kernel
theorem dX9_tells_50 : decode cX9_tells 50 = .ok (.ifCond .eq 14, 3) := by decide +kernel
theorem dX9_tells_53 : decode cX9_tells 53 = .ok (.iload_n 2, 1) := by decide +kernel
theorem dX9_tells_54 : decode cX9_tells 54 = .ok (.aload_n 0, 1) := by decide +kernel
theorem dX9_tells_55 : decode cX9_tells 55 = .ok (.aload_n 0, 1) := by decide +kernel
theorem dX9_tells_56 : decode cX9_tells 56 = .ok (.getfield 15, 3) := by decide +kernel
theorem dX9_tells_59 : decode cX9_tells 59 = .ok (.invokevirtual 39, 3) := by decide +kernel
theorem dX9_tells_62 : decode cX9_tells 62 = .ok (.iadd, 1) := by decide +kernel
theorem dX9_tells_63 : decode cX9_tells 63 = .ok (.istore_n 2, 1) := by decide +kernel
theorem dX9_tells_64 : decode cX9_tells 64 = .ok (.aload_n 0, 1) := by decide +kernel
theorem dX9_tells_65 : decode cX9_tells 65 = .ok (.iconst 5, 1) := by decide +kernel
theorem dX9_tells_66 : decode cX9_tells 66 = .ok (.invokevirtual 49, 3) := by decide +kernel
theorem dX9_tells_69 : decode cX9_tells 69 = .ok (.ifCond .eq 9, 3) := by decide +kernel
theorem dX9_tells_72 : decode cX9_tells 72 = .ok (.iload_n 2, 1) := by decide +kernel
theorem dX9_tells_73 : decode cX9_tells 73 = .ok (.iconst 2, 1) := by decide +kernel
theorem dX9_tells_74 : decode cX9_tells 74 = .ok (.imul, 1) := by decide +kernel
theorem dX9_tells_75 : decode cX9_tells 75 = .ok (.goto 4, 3) := by decide +kernel
theorem dX9_tells_78 : decode cX9_tells 78 = .ok (.iload_n 2, 1) := by decide +kernel
theorem dX9_tells_79 : decode cX9_tells 79 = .ok (.ireturn, 1) := by decide +kernel
theorem dX10_init_0 : decode cX10_init 0 = .ok (.aload_n 0, 1) := by decide +kernel
theorem dX10_init_1 : decode cX10_init 1 = .ok (.invokespecial 3, 3) := by decide +kernel
theorem dX10_init_4 : decode cX10_init 4 = .ok (.aload_n 0, 1) := by decide +kernel
theorem dX10_init_5 : decode cX10_init 5 = .ok (.iconst 0, 1) := by decide +kernel
theorem dX10_init_6 : decode cX10_init 6 = .ok (.putfield 9, 3) := by decide +kernel
theorem dX10_init_9 : decode cX10_init 9 = .ok (.aload_n 0, 1) := by decide +kernel
theorem dX10_init_10 : decode cX10_init 10 = .ok (.iconst 1, 1) := by decide +kernel
theorem dX10_init_11 : decode cX10_init 11 = .ok (.putfield 15, 3) := by decide +kernel
theorem dX10_init_14 : decode cX10_init 14 = .ok (.aload_n 0, 1) := by decide +kernel
theorem dX10_init_15 : decode cX10_init 15 = .ok (.iconst 3, 1) := by decide +kernel
theorem dX10_init_16 : decode cX10_init 16 = .ok (.newarray .int, 2) := by decide +kernel
theorem dX10_init_18 : decode cX10_init 18 = .ok (.putfield 18, 3) := by decide +kernel
theorem dX10_init_21 : decode cX10_init 21 = .ok (.aload_n 0, 1) := by decide +kernel
theorem dX10_init_22 : decode cX10_init 22 = .ok (.iconst 3, 1) := by decide +kernel
theorem dX10_init_23 : decode cX10_init 23 = .ok (.newarray .int, 2) := by decide +kernel
theorem dX10_init_25 : decode cX10_init 25 = .ok (.putfield 22, 3) := by decide +kernel
theorem dX10_init_28 : decode cX10_init 28 = .ok (.aload_n 0, 1) := by decide +kernel
theorem dX10_init_29 : decode cX10_init 29 = .ok (.iconst 3, 1) := by decide +kernel
theorem dX10_init_30 : decode cX10_init 30 = .ok (.newarray .int, 2) := by decide +kernel
theorem dX10_init_32 : decode cX10_init 32 = .ok (.putfield 25, 3) := by decide +kernel
theorem dX10_init_35 : decode cX10_init 35 = .ok (.aload_n 0, 1) := by decide +kernel
theorem dX10_init_36 : decode cX10_init 36 = .ok (.iconst 3, 1) := by decide +kernel
theorem dX10_init_37 : decode cX10_init 37 = .ok (.newarray .int, 2) := by decide +kernel
theorem dX10_init_39 : decode cX10_init 39 = .ok (.putfield 28, 3) := by decide +kernel
theorem dX10_init_42 : decode cX10_init 42 = .ok (.aload_n 0, 1) := by decide +kernel
theorem dX10_init_43 : decode cX10_init 43 = .ok (.iconst 3, 1) := by decide +kernel
theorem dX10_init_44 : decode cX10_init 44 = .ok (.newarray .int, 2) := by decide +kernel
theorem dX10_init_46 : decode cX10_init 46 = .ok (.putfield 31, 3) := by decide +kernel
theorem dX10_init_49 : decode cX10_init 49 = .ok (.aload_n 0, 1) := by decide +kernel
theorem dX10_init_50 : decode cX10_init 50 = .ok (.iconst 3, 1) := by decide +kernel
theorem dX10_init_51 : decode cX10_init 51 = .ok (.newarray .int, 2) := by decide +kernel
theorem dX10_init_53 : decode cX10_init 53 = .ok (.putfield 34, 3) := by decide +kernel
theorem dX10_init_56 : decode cX10_init 56 = .ok (.return_, 1) := by decide +kernel
theorem dX10_oddsOfAll_0 : decode cX10_oddsOfAll 0 = .ok (.iconst 0, 1) := by decide +kernel
theorem dX10_oddsOfAll_1 : decode cX10_oddsOfAll 1 = .ok (.istore_n 1, 1) := by decide +kernel
theorem dX10_oddsOfAll_2 : decode cX10_oddsOfAll 2 = .ok (.iconst 0, 1) := by decide +kernel
theorem dX10_oddsOfAll_3 : decode cX10_oddsOfAll 3 = .ok (.istore_n 2, 1) := by decide +kernel
theorem dX10_oddsOfAll_4 : decode cX10_oddsOfAll 4 = .ok (.iload_n 2, 1) := by decide +kernel
theorem dX10_oddsOfAll_5 : decode cX10_oddsOfAll 5 = .ok (.aload_n 0, 1) := by decide +kernel
theorem dX10_oddsOfAll_6 : decode cX10_oddsOfAll 6 = .ok (.getfield 9, 3) := by decide +kernel
theorem dX10_oddsOfAll_9 : decode cX10_oddsOfAll 9 = .ok (.if_icmp .ge 18, 3) := by decide +kernel
theorem dX10_oddsOfAll_12 : decode cX10_oddsOfAll 12 = .ok (.iload_n 1, 1) := by decide +kernel
theorem dX10_oddsOfAll_13 : decode cX10_oddsOfAll 13 = .ok (.aload_n 0, 1) := by decide +kernel
theorem dX10_oddsOfAll_14 : decode cX10_oddsOfAll 14 = .ok (.getfield 34, 3) := by decide +kernel
theorem dX10_oddsOfAll_17 : decode cX10_oddsOfAll 17 = .ok (.iload_n 2, 1) := by decide +kernel
theorem dX10_oddsOfAll_18 : decode cX10_oddsOfAll 18 = .ok (.iaload, 1) := by decide +kernel
theorem dX10_oddsOfAll_19 : decode cX10_oddsOfAll 19 = .ok (.iadd, 1) := by decide +kernel
theorem dX10_oddsOfAll_20 : decode cX10_oddsOfAll 20 = .ok (.istore_n 1, 1) := by decide +kernel
theorem dX10_oddsOfAll_21 : decode cX10_oddsOfAll 21 = .ok (.iinc 2 1, 3) := by decide +kernel
theorem dX10_oddsOfAll_24 : decode cX10_oddsOfAll 24 = .ok (.goto (-20), 3) := by decide +kernel
theorem dX10_oddsOfAll_27 : decode cX10_oddsOfAll 27 = .ok (.iload_n 1, 1) := by decide +kernel
theorem dX10_oddsOfAll_28 : decode cX10_oddsOfAll 28 = .ok (.ireturn, 1) := by decide +kernel
theorem dX10_add_0 : decode cX10_add 0 = .ok (.aload_n 0, 1) := by decide +kernel
theorem dX10_add_1 : decode cX10_add 1 = .ok (.getfield 9, 3) := by decide +kernel
theorem dX10_add_4 : decode cX10_add 4 = .ok (.iconst 3, 1) := by decide +kernel
theorem dX10_add_5 : decode cX10_add 5 = .ok (.if_icmp .lt 6, 3) := by decide +kernel
theorem dX10_add_8 : decode cX10_add 8 = .ok (.bipush (-2), 2) := by decide +kernel
theorem dX10_add_10 : decode cX10_add 10 = .ok (.ireturn, 1) := by decide +kernel
theorem dX10_add_11 : decode cX10_add 11 = .ok (.aload_n 0, 1) := by decide +kernel
theorem dX10_add_12 : decode cX10_add 12 = .ok (.getfield 18, 3) := by decide +kernel
theorem dX10_add_15 : decode cX10_add 15 = .ok (.aload_n 0, 1) := by decide +kernel
theorem dX10_add_16 : decode cX10_add 16 = .ok (.getfield 9, 3) := by decide +kernel
theorem dX10_add_19 : decode cX10_add 19 = .ok (.iload_n 1, 1) := by decide +kernel
theorem dX10_add_20 : decode cX10_add 20 = .ok (.iastore, 1) := by decide +kernel
theorem dX10_add_21 : decode cX10_add 21 = .ok (.aload_n 0, 1) := by decide +kernel
theorem dX10_add_22 : decode cX10_add 22 = .ok (.getfield 22, 3) := by decide +kernel
theorem dX10_add_25 : decode cX10_add 25 = .ok (.aload_n 0, 1) := by decide +kernel
theorem dX10_add_26 : decode cX10_add 26 = .ok (.getfield 9, 3) := by decide +kernel
theorem dX10_add_29 : decode cX10_add 29 = .ok (.iload_n 2, 1) := by decide +kernel
theorem dX10_add_30 : decode cX10_add 30 = .ok (.iastore, 1) := by decide +kernel
theorem dX10_add_31 : decode cX10_add 31 = .ok (.aload_n 0, 1) := by decide +kernel
theorem dX10_add_32 : decode cX10_add 32 = .ok (.getfield 25, 3) := by decide +kernel
theorem dX10_add_35 : decode cX10_add 35 = .ok (.aload_n 0, 1) := by decide +kernel
theorem dX10_add_36 : decode cX10_add 36 = .ok (.getfield 9, 3) := by decide +kernel
theorem dX10_add_39 : decode cX10_add 39 = .ok (.iload_n 3, 1) := by decide +kernel
theorem dX10_add_40 : decode cX10_add 40 = .ok (.iastore, 1) := by decide +kernel
theorem dX10_add_41 : decode cX10_add 41 = .ok (.aload_n 0, 1) := by decide +kernel
theorem dX10_add_42 : decode cX10_add 42 = .ok (.getfield 28, 3) := by decide +kernel
theorem dX10_add_45 : decode cX10_add 45 = .ok (.aload_n 0, 1) := by decide +kernel
theorem dX10_add_46 : decode cX10_add 46 = .ok (.getfield 9, 3) := by decide +kernel
theorem dX10_add_49 : decode cX10_add 49 = .ok (.iload 4, 2) := by decide +kernel
theorem dX10_add_51 : decode cX10_add 51 = .ok (.iastore, 1) := by decide +kernel
theorem dX10_add_52 : decode cX10_add 52 = .ok (.aload_n 0, 1) := by decide +kernel
theorem dX10_add_53 : decode cX10_add 53 = .ok (.getfield 31, 3) := by decide +kernel
theorem dX10_add_56 : decode cX10_add 56 = .ok (.aload_n 0, 1) := by decide +kernel
theorem dX10_add_57 : decode cX10_add 57 = .ok (.getfield 9, 3) := by decide +kernel
theorem dX10_add_60 : decode cX10_add 60 = .ok (.iload 5, 2) := by decide +kernel
theorem dX10_add_62 : decode cX10_add 62 = .ok (.iastore, 1) := by decide +kernel
theorem dX10_add_63 : decode cX10_add 63 = .ok (.aload_n 0, 1) := by decide +kernel
theorem dX10_add_64 : decode cX10_add 64 = .ok (.getfield 34, 3) := by decide +kernel
theorem dX10_add_67 : decode cX10_add 67 = .ok (.aload_n 0, 1) := by decide +kernel
theorem dX10_add_68 : decode cX10_add 68 = .ok (.getfield 9, 3) := by decide +kernel
theorem dX10_add_71 : decode cX10_add 71 = .ok (.iload 6, 2) := by decide +kernel
theorem dX10_add_73 : decode cX10_add 73 = .ok (.iastore, 1) := by decide +kernel
theorem dX10_add_74 : decode cX10_add 74 = .ok (.aload_n 0, 1) := by decide +kernel
theorem dX10_add_75 : decode cX10_add 75 = .ok (.dup, 1) := by decide +kernel
theorem dX10_add_76 : decode cX10_add 76 = .ok (.getfield 9, 3) := by decide +kernel
theorem dX10_add_79 : decode cX10_add 79 = .ok (.iconst 1, 1) := by decide +kernel
theorem dX10_add_80 : decode cX10_add 80 = .ok (.iadd, 1) := by decide +kernel
theorem dX10_add_81 : decode cX10_add 81 = .ok (.putfield 9, 3) := by decide +kernel
theorem dX10_add_84 : decode cX10_add 84 = .ok (.aload_n 0, 1) := by decide +kernel
theorem dX10_add_85 : decode cX10_add 85 = .ok (.getfield 9, 3) := by decide +kernel
theorem dX10_add_88 : decode cX10_add 88 = .ok (.iconst 1, 1) := by decide +kernel
theorem dX10_add_89 : decode cX10_add 89 = .ok (.isub, 1) := by decide +kernel
theorem dX10_add_90 : decode cX10_add 90 = .ok (.ireturn, 1) := by decide +kernel
theorem dX10_next_0 : decode cX10_next 0 = .ok (.aload_n 0, 1) := by decide +kernel
theorem dX10_next_1 : decode cX10_next 1 = .ok (.aload_n 0, 1) := by decide +kernel
theorem dX10_next_2 : decode cX10_next 2 = .ok (.getfield 15, 3) := by decide +kernel
theorem dX10_next_5 : decode cX10_next 5 = .ok (.ldc 37, 2) := by decide +kernel
theorem dX10_next_7 : decode cX10_next 7 = .ok (.imul, 1) := by decide +kernel
theorem dX10_next_8 : decode cX10_next 8 = .ok (.sipush 12345, 3) := by decide +kernel
theorem dX10_next_11 : decode cX10_next 11 = .ok (.iadd, 1) := by decide +kernel
theorem dX10_next_12 : decode cX10_next 12 = .ok (.putfield 15, 3) := by decide +kernel
theorem dX10_next_15 : decode cX10_next 15 = .ok (.aload_n 0, 1) := by decide +kernel
theorem dX10_next_16 : decode cX10_next 16 = .ok (.getfield 15, 3) := by decide +kernel
theorem dX10_next_19 : decode cX10_next 19 = .ok (.bipush 16, 2) := by decide +kernel
theorem dX10_next_21 : decode cX10_next 21 = .ok (.iushr, 1) := by decide +kernel
theorem dX10_next_22 : decode cX10_next 22 = .ok (.iconst 4, 1) := by decide +kernel
theorem dX10_next_23 : decode cX10_next 23 = .ok (.irem, 1) := by decide +kernel
theorem dX10_next_24 : decode cX10_next 24 = .ok (.istore_n 1, 1) := by decide +kernel
theorem dX10_next_25 : decode cX10_next 25 = .ok (.iconst 0, 1) := by decide +kernel
theorem dX10_next_26 : decode cX10_next 26 = .ok (.istore_n 2, 1) := by decide +kernel
theorem dX10_next_27 : decode cX10_next 27 = .ok (.iconst 0, 1) := by decide +kernel
theorem dX10_next_28 : decode cX10_next 28 = .ok (.istore_n 3, 1) := by decide +kernel
theorem dX10_next_29 : decode cX10_next 29 = .ok (.iload_n 3, 1) := by decide +kernel
theorem dX10_next_30 : decode cX10_next 30 = .ok (.aload_n 0, 1) := by decide +kernel
theorem dX10_next_31 : decode cX10_next 31 = .ok (.getfield 9, 3) := by decide +kernel
theorem dX10_next_34 : decode cX10_next 34 = .ok (.if_icmp .ge 25, 3) := by decide +kernel
theorem dX10_next_37 : decode cX10_next 37 = .ok (.iload_n 2, 1) := by decide +kernel
theorem dX10_next_38 : decode cX10_next 38 = .ok (.aload_n 0, 1) := by decide +kernel
theorem dX10_next_39 : decode cX10_next 39 = .ok (.getfield 34, 3) := by decide +kernel
theorem dX10_next_42 : decode cX10_next 42 = .ok (.iload_n 3, 1) := by decide +kernel
theorem dX10_next_43 : decode cX10_next 43 = .ok (.iaload, 1) := by decide +kernel
theorem dX10_next_44 : decode cX10_next 44 = .ok (.iadd, 1) := by decide +kernel
theorem dX10_next_45 : decode cX10_next 45 = .ok (.istore_n 2, 1) := by decide +kernel
theorem dX10_next_46 : decode cX10_next 46 = .ok (.iload_n 1, 1) := by decide +kernel
theorem dX10_next_47 : decode cX10_next 47 = .ok (.iload_n 2, 1) := by decide +kernel
theorem dX10_next_48 : decode cX10_next 48 = .ok (.if_icmp .ge 5, 3) := by decide +kernel
theorem dX10_next_51 : decode cX10_next 51 = .ok (.iload_n 3, 1) := by decide +kernel
theorem dX10_next_52 : decode cX10_next 52 = .ok (.ireturn, 1) := by decide +kernel
theorem dX10_next_53 : decode cX10_next 53 = .ok (.iinc 3 1, 3) := by decide +kernel
theorem dX10_next_56 : decode cX10_next 56 = .ok (.goto (-27), 3) := by decide +kernel
theorem dX10_next_59 : decode cX10_next 59 = .ok (.bipush (-9), 2) := by decide +kernel
theorem dX10_next_61 : decode cX10_next 61 = .ok (.ireturn, 1) := by decide +kernel
theorem dX10_copy_0 : decode cX10_copy 0 = .ok (.aload_n 0, 1) := by decide +kernel
theorem dX10_copy_1 : decode cX10_copy 1 = .ok (.aload_n 1, 1) := by decide +kernel
theorem dX10_copy_2 : decode cX10_copy 2 = .ok (.getfield 9, 3) := by decide +kernel
theorem dX10_copy_5 : decode cX10_copy 5 = .ok (.putfield 9, 3) := by decide +kernel
theorem dX10_copy_8 : decode cX10_copy 8 = .ok (.aload_n 0, 1) := by decide +kernel
theorem dX10_copy_9 : decode cX10_copy 9 = .ok (.aload_n 1, 1) := by decide +kernel
theorem dX10_copy_10 : decode cX10_copy 10 = .ok (.getfield 15, 3) := by decide +kernel
theorem dX10_copy_13 : decode cX10_copy 13 = .ok (.putfield 15, 3) := by decide +kernel
theorem dX10_copy_16 : decode cX10_copy 16 = .ok (.iconst 0, 1) := by decide +kernel
theorem dX10_copy_17 : decode cX10_copy 17 = .ok (.istore_n 2, 1) := by decide +kernel
theorem dX10_copy_18 : decode cX10_copy 18 = .ok (.iload_n 2, 1) := by decide +kernel
theorem dX10_copy_19 : decode cX10_copy 19 = .ok (.aload_n 1, 1) := by decide +kernel
theorem dX10_copy_20 : decode cX10_copy 20 = .ok (.getfield 9, 3) := by decide +kernel
theorem dX10_copy_23 : decode cX10_copy 23 = .ok (.if_icmp .ge 81, 3) := by decide +kernel
theorem dX10_copy_26 : decode cX10_copy 26 = .ok (.aload_n 0, 1) := by decide +kernel
theorem dX10_copy_27 : decode cX10_copy 27 = .ok (.getfield 18, 3) := by decide +kernel
theorem dX10_copy_30 : decode cX10_copy 30 = .ok (.iload_n 2, 1) := by decide +kernel
theorem dX10_copy_31 : decode cX10_copy 31 = .ok (.aload_n 1, 1) := by decide +kernel
theorem dX10_copy_32 : decode cX10_copy 32 = .ok (.getfield 18, 3) := by decide +kernel
theorem dX10_copy_35 : decode cX10_copy 35 = .ok (.iload_n 2, 1) := by decide +kernel
theorem dX10_copy_36 : decode cX10_copy 36 = .ok (.iaload, 1) := by decide +kernel
theorem dX10_copy_37 : decode cX10_copy 37 = .ok (.iastore, 1) := by decide +kernel
theorem dX10_copy_38 : decode cX10_copy 38 = .ok (.aload_n 0, 1) := by decide +kernel
theorem dX10_copy_39 : decode cX10_copy 39 = .ok (.getfield 22, 3) := by decide +kernel
theorem dX10_copy_42 : decode cX10_copy 42 = .ok (.iload_n 2, 1) := by decide +kernel
theorem dX10_copy_43 : decode cX10_copy 43 = .ok (.aload_n 1, 1) := by decide +kernel
theorem dX10_copy_44 : decode cX10_copy 44 = .ok (.getfield 22, 3) := by decide +kernel
theorem dX10_copy_47 : decode cX10_copy 47 = .ok (.iload_n 2, 1) := by decide +kernel
theorem dX10_copy_48 : decode cX10_copy 48 = .ok (.iaload, 1) := by decide +kernel
theorem dX10_copy_49 : decode cX10_copy 49 = .ok (.iastore, 1) := by decide +kernel
theorem dX10_copy_50 : decode cX10_copy 50 = .ok (.aload_n 0, 1) := by decide +kernel
theorem dX10_copy_51 : decode cX10_copy 51 = .ok (.getfield 25, 3) := by decide +kernel
theorem dX10_copy_54 : decode cX10_copy 54 = .ok (.iload_n 2, 1) := by decide +kernel
theorem dX10_copy_55 : decode cX10_copy 55 = .ok (.aload_n 1, 1) := by decide +kernel
theorem dX10_copy_56 : decode cX10_copy 56 = .ok (.getfield 25, 3) := by decide +kernel
theorem dX10_copy_59 : decode cX10_copy 59 = .ok (.iload_n 2, 1) := by decide +kernel
theorem dX10_copy_60 : decode cX10_copy 60 = .ok (.iaload, 1) := by decide +kernel
theorem dX10_copy_61 : decode cX10_copy 61 = .ok (.iastore, 1) := by decide +kernel
theorem dX10_copy_62 : decode cX10_copy 62 = .ok (.aload_n 0, 1) := by decide +kernel
theorem dX10_copy_63 : decode cX10_copy 63 = .ok (.getfield 28, 3) := by decide +kernel
theorem dX10_copy_66 : decode cX10_copy 66 = .ok (.iload_n 2, 1) := by decide +kernel
theorem dX10_copy_67 : decode cX10_copy 67 = .ok (.aload_n 1, 1) := by decide +kernel
theorem dX10_copy_68 : decode cX10_copy 68 = .ok (.getfield 28, 3) := by decide +kernel
theorem dX10_copy_71 : decode cX10_copy 71 = .ok (.iload_n 2, 1) := by decide +kernel
theorem dX10_copy_72 : decode cX10_copy 72 = .ok (.iaload, 1) := by decide +kernel
theorem dX10_copy_73 : decode cX10_copy 73 = .ok (.iastore, 1) := by decide +kernel
theorem dX10_copy_74 : decode cX10_copy 74 = .ok (.aload_n 0, 1) := by decide +kernel
theorem dX10_copy_75 : decode cX10_copy 75 = .ok (.getfield 31, 3) := by decide +kernel
theorem dX10_copy_78 : decode cX10_copy 78 = .ok (.iload_n 2, 1) := by decide +kernel
theorem dX10_copy_79 : decode cX10_copy 79 = .ok (.aload_n 1, 1) := by decide +kernel
theorem dX10_copy_80 : decode cX10_copy 80 = .ok (.getfield 31, 3) := by decide +kernel
theorem dX10_copy_83 : decode cX10_copy 83 = .ok (.iload_n 2, 1) := by decide +kernel
theorem dX10_copy_84 : decode cX10_copy 84 = .ok (.iaload, 1) := by decide +kernel
theorem dX10_copy_85 : decode cX10_copy 85 = .ok (.iastore, 1) := by decide +kernel
theorem dX10_copy_86 : decode cX10_copy 86 = .ok (.aload_n 0, 1) := by decide +kernel
theorem dX10_copy_87 : decode cX10_copy 87 = .ok (.getfield 34, 3) := by decide +kernel
theorem dX10_copy_90 : decode cX10_copy 90 = .ok (.iload_n 2, 1) := by decide +kernel
theorem dX10_copy_91 : decode cX10_copy 91 = .ok (.aload_n 1, 1) := by decide +kernel
theorem dX10_copy_92 : decode cX10_copy 92 = .ok (.getfield 34, 3) := by decide +kernel
theorem dX10_copy_95 : decode cX10_copy 95 = .ok (.iload_n 2, 1) := by decide +kernel
theorem dX10_copy_96 : decode cX10_copy 96 = .ok (.iaload, 1) := by decide +kernel
theorem dX10_copy_97 : decode cX10_copy 97 = .ok (.iastore, 1) := by decide +kernel
theorem dX10_copy_98 : decode cX10_copy 98 = .ok (.iinc 2 1, 3) := by decide +kernel
theorem dX10_copy_101 : decode cX10_copy 101 = .ok (.goto (-83), 3) := by decide +kernel
theorem dX10_copy_104 : decode cX10_copy 104 = .ok (.return_, 1) := by decide +kernel
theorem dX11_init_0 : decode cX11_init 0 = .ok (.aload_n 0, 1) := by decide +kernel
theorem dX11_init_1 : decode cX11_init 1 = .ok (.invokespecial 1, 3) := by decide +kernel
theorem dX11_init_4 : decode cX11_init 4 = .ok (.aload_n 0, 1) := by decide +kernel
theorem dX11_init_5 : decode cX11_init 5 = .ok (.new 7, 3) := by decide +kernel
theorem dX11_init_8 : decode cX11_init 8 = .ok (.dup, 1) := by decide +kernel
theorem dX11_init_9 : decode cX11_init 9 = .ok (.invokespecial 9, 3) := by decide +kernel
theorem dX11_init_12 : decode cX11_init 12 = .ok (.putfield 10, 3) := by decide +kernel
theorem dX11_init_15 : decode cX11_init 15 = .ok (.aload_n 0, 1) := by decide +kernel
theorem dX11_init_16 : decode cX11_init 16 = .ok (.new 7, 3) := by decide +kernel
theorem dX11_init_19 : decode cX11_init 19 = .ok (.dup, 1) := by decide +kernel
theorem dX11_init_20 : decode cX11_init 20 = .ok (.invokespecial 9, 3) := by decide +kernel
theorem dX11_init_23 : decode cX11_init 23 = .ok (.putfield 16, 3) := by decide +kernel
theorem dX11_init_26 : decode cX11_init 26 = .ok (.aload_n 0, 1) := by decide +kernel
theorem dX11_init_27 : decode cX11_init 27 = .ok (.new 19, 3) := by decide +kernel
theorem dX11_init_30 : decode cX11_init 30 = .ok (.dup, 1) := by decide +kernel
theorem dX11_init_31 : decode cX11_init 31 = .ok (.invokespecial 21, 3) := by decide +kernel
theorem dX11_init_34 : decode cX11_init 34 = .ok (.putfield 22, 3) := by decide +kernel
theorem dX11_init_37 : decode cX11_init 37 = .ok (.aload_n 0, 1) := by decide +kernel
theorem dX11_init_38 : decode cX11_init 38 = .ok (.new 19, 3) := by decide +kernel
theorem dX11_init_41 : decode cX11_init 41 = .ok (.dup, 1) := by decide +kernel
theorem dX11_init_42 : decode cX11_init 42 = .ok (.invokespecial 21, 3) := by decide +kernel
theorem dX11_init_45 : decode cX11_init 45 = .ok (.putfield 26, 3) := by decide +kernel
theorem dX11_init_48 : decode cX11_init 48 = .ok (.aload_n 0, 1) := by decide +kernel
theorem dX11_init_49 : decode cX11_init 49 = .ok (.iconst 0, 1) := by decide +kernel
theorem dX11_init_50 : decode cX11_init 50 = .ok (.putfield 29, 3) := by decide +kernel
theorem dX11_init_53 : decode cX11_init 53 = .ok (.aload_n 0, 1) := by decide +kernel
theorem dX11_init_54 : decode cX11_init 54 = .ok (.new 33, 3) := by decide +kernel
theorem dX11_init_57 : decode cX11_init 57 = .ok (.dup, 1) := by decide +kernel
theorem dX11_init_58 : decode cX11_init 58 = .ok (.invokespecial 35, 3) := by decide +kernel
theorem dX11_init_61 : decode cX11_init 61 = .ok (.putfield 36, 3) := by decide +kernel
theorem dX11_init_64 : decode cX11_init 64 = .ok (.aload_n 0, 1) := by decide +kernel
theorem dX11_init_65 : decode cX11_init 65 = .ok (.new 40, 3) := by decide +kernel
theorem dX11_init_68 : decode cX11_init 68 = .ok (.dup, 1) := by decide +kernel
theorem dX11_init_69 : decode cX11_init 69 = .ok (.invokespecial 42, 3) := by decide +kernel
theorem dX11_init_72 : decode cX11_init 72 = .ok (.putfield 43, 3) := by decide +kernel
theorem dX11_init_75 : decode cX11_init 75 = .ok (.aload_n 0, 1) := by decide +kernel
theorem dX11_init_76 : decode cX11_init 76 = .ok (.new 47, 3) := by decide +kernel
theorem dX11_init_79 : decode cX11_init 79 = .ok (.dup, 1) := by decide +kernel
theorem dX11_init_80 : decode cX11_init 80 = .ok (.aload_n 0, 1) := by decide +kernel
theorem dX11_init_81 : decode cX11_init 81 = .ok (.getfield 43, 3) := by decide +kernel
theorem dX11_init_84 : decode cX11_init 84 = .ok (.invokespecial 49, 3) := by decide +kernel
theorem dX11_init_87 : decode cX11_init 87 = .ok (.putfield 52, 3) := by decide +kernel
theorem dX11_init_90 : decode cX11_init 90 = .ok (.aload_n 0, 1) := by decide +kernel
theorem dX11_init_91 : decode cX11_init 91 = .ok (.new 56, 3) := by decide +kernel
theorem dX11_init_94 : decode cX11_init 94 = .ok (.dup, 1) := by decide +kernel
theorem dX11_init_95 : decode cX11_init 95 = .ok (.aload_n 0, 1) := by decide +kernel
theorem dX11_init_96 : decode cX11_init 96 = .ok (.getfield 43, 3) := by decide +kernel
theorem dX11_init_99 : decode cX11_init 99 = .ok (.invokespecial 58, 3) := by decide +kernel
theorem dX11_init_102 : decode cX11_init 102 = .ok (.putfield 59, 3) := by decide +kernel
theorem dX11_init_105 : decode cX11_init 105 = .ok (.aload_n 0, 1) := by decide +kernel
theorem dX11_init_106 : decode cX11_init 106 = .ok (.new 63, 3) := by decide +kernel
theorem dX11_init_109 : decode cX11_init 109 = .ok (.dup, 1) := by decide +kernel
theorem dX11_init_110 : decode cX11_init 110 = .ok (.aload_n 0, 1) := by decide +kernel
theorem dX11_init_111 : decode cX11_init 111 = .ok (.getfield 52, 3) := by decide +kernel
theorem dX11_init_114 : decode cX11_init 114 = .ok (.invokespecial 65, 3) := by decide +kernel
theorem dX11_init_117 : decode cX11_init 117 = .ok (.putfield 68, 3) := by decide +kernel
theorem dX11_init_120 : decode cX11_init 120 = .ok (.aload_n 0, 1) := by decide +kernel
theorem dX11_init_121 : decode cX11_init 121 = .ok (.new 72, 3) := by decide +kernel
theorem dX11_init_124 : decode cX11_init 124 = .ok (.dup, 1) := by decide +kernel
theorem dX11_init_125 : decode cX11_init 125 = .ok (.aload_n 0, 1) := by decide +kernel
theorem dX11_init_126 : decode cX11_init 126 = .ok (.getfield 43, 3) := by decide +kernel
theorem dX11_init_129 : decode cX11_init 129 = .ok (.invokespecial 74, 3) := by decide +kernel
theorem dX11_init_132 : decode cX11_init 132 = .ok (.putfield 75, 3) := by decide +kernel
theorem dX11_init_135 : decode cX11_init 135 = .ok (.aload_n 0, 1) := by decide +kernel
theorem dX11_init_136 : decode cX11_init 136 = .ok (.new 79, 3) := by decide +kernel
theorem dX11_init_139 : decode cX11_init 139 = .ok (.dup, 1) := by decide +kernel
theorem dX11_init_140 : decode cX11_init 140 = .ok (.invokespecial 81, 3) := by decide +kernel
theorem dX11_init_143 : decode cX11_init 143 = .ok (.putfield 82, 3) := by decide +kernel
theorem dX11_init_146 : decode cX11_init 146 = .ok (.aload_n 0, 1) := by decide +kernel
theorem dX11_init_147 : decode cX11_init 147 = .ok (.new 86, 3) := by decide +kernel
theorem dX11_init_150 : decode cX11_init 150 = .ok (.dup, 1) := by decide +kernel
theorem dX11_init_151 : decode cX11_init 151 = .ok (.invokespecial 88, 3) := by decide +kernel
theorem dX11_init_154 : decode cX11_init 154 = .ok (.putfield 89, 3) := by decide +kernel
theorem dX11_init_157 : decode cX11_init 157 = .ok (.aload_n 0, 1) := by decide +kernel
theorem dX11_init_158 : decode cX11_init 158 = .ok (.new 93, 3) := by decide +kernel
theorem dX11_init_161 : decode cX11_init 161 = .ok (.dup, 1) := by decide +kernel
theorem dX11_init_162 : decode cX11_init 162 = .ok (.invokespecial 95, 3) := by decide +kernel
theorem dX11_init_165 : decode cX11_init 165 = .ok (.putfield 96, 3) := by decide +kernel
theorem dX11_init_168 : decode cX11_init 168 = .ok (.return_, 1) := by decide +kernel
theorem dX11_feed_0 : decode cX11_feed 0 = .ok (.iload_n 3, 1) := by decide +kernel
theorem dX11_feed_1 : decode cX11_feed 1 = .ok (.iconst 1, 1) := by decide +kernel
theorem dX11_feed_2 : decode cX11_feed 2 = .ok (.bipush 8, 2) := by decide +kernel
theorem dX11_feed_4 : decode cX11_feed 4 = .ok (.invokestatic 100, 3) := by decide +kernel
theorem dX11_feed_7 : decode cX11_feed 7 = .ok (.ifCond .ne 5, 3) := by decide +kernel
theorem dX11_feed_10 : decode cX11_feed 10 = .ok (.iconst (-1), 1) := by decide +kernel
theorem dX11_feed_11 : decode cX11_feed 11 = .ok (.ireturn, 1) := by decide +kernel
theorem dX11_feed_12 : decode cX11_feed 12 = .ok (.aload_n 0, 1) := by decide +kernel
theorem dX11_feed_13 : decode cX11_feed 13 = .ok (.getfield 36, 3) := by decide +kernel
theorem dX11_feed_16 : decode cX11_feed 16 = .ok (.lload_n 1, 1) := by decide +kernel
theorem dX11_feed_17 : decode cX11_feed 17 = .ok (.iload_n 3, 1) := by decide +kernel
theorem dX11_feed_18 : decode cX11_feed 18 = .ok (.invokevirtual 104, 3) := by decide +kernel
theorem dX11_feed_21 : decode cX11_feed 21 = .ok (.ireturn, 1) := by decide +kernel
theorem dX11_board_0 : decode cX11_board 0 = .ok (.aload_n 0, 1) := by decide +kernel
theorem dX11_board_1 : decode cX11_board 1 = .ok (.getfield 36, 3) := by decide +kernel
theorem dX11_board_4 : decode cX11_board 4 = .ok (.invokevirtual 108, 3) := by decide +kernel
theorem dX11_board_7 : decode cX11_board 7 = .ok (.istore_n 1, 1) := by decide +kernel
theorem dX11_board_8 : decode cX11_board 8 = .ok (.aload_n 0, 1) := by decide +kernel
theorem dX11_board_9 : decode cX11_board 9 = .ok (.getfield 36, 3) := by decide +kernel
theorem dX11_board_12 : decode cX11_board 12 = .ok (.invokevirtual 112, 3) := by decide +kernel
theorem dX11_board_15 : decode cX11_board 15 = .ok (.iload_n 1, 1) := by decide +kernel
theorem dX11_board_16 : decode cX11_board 16 = .ok (.ifCond .lt 8, 3) := by decide +kernel
theorem dX11_board_19 : decode cX11_board 19 = .ok (.bipush (-100), 2) := by decide +kernel
theorem dX11_board_21 : decode cX11_board 21 = .ok (.iload_n 1, 1) := by decide +kernel
theorem dX11_board_22 : decode cX11_board 22 = .ok (.isub, 1) := by decide +kernel
theorem dX11_board_23 : decode cX11_board 23 = .ok (.ireturn, 1) := by decide +kernel
theorem dX11_board_24 : decode cX11_board 24 = .ok (.aload_n 0, 1) := by decide +kernel
theorem dX11_board_25 : decode cX11_board 25 = .ok (.getfield 10, 3) := by decide +kernel
theorem dX11_board_28 : decode cX11_board 28 = .ok (.aload_n 0, 1) := by decide +kernel
theorem dX11_board_29 : decode cX11_board 29 = .ok (.getfield 36, 3) := by decide +kernel
theorem dX11_board_32 : decode cX11_board 32 = .ok (.getfield 115, 3) := by decide +kernel
theorem dX11_board_35 : decode cX11_board 35 = .ok (.aload_n 0, 1) := by decide +kernel
theorem dX11_board_36 : decode cX11_board 36 = .ok (.getfield 36, 3) := by decide +kernel
theorem dX11_board_39 : decode cX11_board 39 = .ok (.getfield 118, 3) := by decide +kernel
theorem dX11_board_42 : decode cX11_board 42 = .ok (.invokevirtual 122, 3) := by decide +kernel
theorem dX11_board_45 : decode cX11_board 45 = .ok (.aload_n 0, 1) := by decide +kernel
theorem dX11_board_46 : decode cX11_board 46 = .ok (.getfield 75, 3) := by decide +kernel
theorem dX11_board_49 : decode cX11_board 49 = .ok (.iconst 0, 1) := by decide +kernel
theorem dX11_board_50 : decode cX11_board 50 = .ok (.putfield 126, 3) := by decide +kernel
theorem dX11_board_53 : decode cX11_board 53 = .ok (.aload_n 0, 1) := by decide +kernel
theorem dX11_board_54 : decode cX11_board 54 = .ok (.getfield 10, 3) := by decide +kernel
theorem dX11_board_57 : decode cX11_board 57 = .ok (.getfield 130, 3) := by decide +kernel
theorem dX11_board_60 : decode cX11_board 60 = .ok (.getfield 131, 3) := by decide +kernel
theorem dX11_board_63 : decode cX11_board 63 = .ok (.ireturn, 1) := by decide +kernel
theorem dX11_job_0 : decode cX11_job 0 = .ok (.iload_n 1, 1) := by decide +kernel
theorem dX11_job_1 : decode cX11_job 1 = .ok (.iload_n 2, 1) := by decide +kernel
theorem dX11_job_2 : decode cX11_job 2 = .ok (.iload_n 3, 1) := by decide +kernel
theorem dX11_job_3 : decode cX11_job 3 = .ok (.iload 4, 2) := by decide +kernel
theorem dX11_job_5 : decode cX11_job 5 = .ok (.iload 5, 2) := by decide +kernel
theorem dX11_job_7 : decode cX11_job 7 = .ok (.invokestatic 132, 3) := by decide +kernel
theorem dX11_job_10 : decode cX11_job 10 = .ok (.ifCond .ne 5, 3) := by decide +kernel
theorem dX11_job_13 : decode cX11_job 13 = .ok (.iconst (-1), 1) := by decide +kernel
theorem dX11_job_14 : decode cX11_job 14 = .ok (.ireturn, 1) := by decide +kernel
theorem dX11_job_15 : decode cX11_job 15 = .ok (.aload_n 0, 1) := by decide +kernel
theorem dX11_job_16 : decode cX11_job 16 = .ok (.getfield 10, 3) := by decide +kernel
theorem dX11_job_19 : decode cX11_job 19 = .ok (.iload_n 1, 1) := by decide +kernel
theorem dX11_job_20 : decode cX11_job 20 = .ok (.iload_n 2, 1) := by decide +kernel
theorem dX11_job_21 : decode cX11_job 21 = .ok (.iload_n 3, 1) := by decide +kernel
theorem dX11_job_22 : decode cX11_job 22 = .ok (.iload 4, 2) := by decide +kernel
theorem dX11_job_24 : decode cX11_job 24 = .ok (.iload 5, 2) := by decide +kernel
theorem dX11_job_26 : decode cX11_job 26 = .ok (.invokevirtual 136, 3) := by decide +kernel
theorem dX11_job_29 : decode cX11_job 29 = .ok (.ireturn, 1) := by decide +kernel
theorem dX11_jobOf_0 : decode cX11_jobOf 0 = .ok (.aload_n 0, 1) := by decide +kernel
theorem dX11_jobOf_1 : decode cX11_jobOf 1 = .ok (.getfield 10, 3) := by decide +kernel
theorem dX11_jobOf_4 : decode cX11_jobOf 4 = .ok (.getfield 130, 3) := by decide +kernel
theorem dX11_jobOf_7 : decode cX11_jobOf 7 = .ok (.iload_n 1, 1) := by decide +kernel
theorem dX11_jobOf_8 : decode cX11_jobOf 8 = .ok (.invokevirtual 140, 3) := by decide +kernel
theorem dX11_jobOf_11 : decode cX11_jobOf 11 = .ok (.ifCond .ne 5, 3) := by decide +kernel
theorem dX11_jobOf_14 : decode cX11_jobOf 14 = .ok (.iconst (-1), 1) := by decide +kernel
theorem dX11_jobOf_15 : decode cX11_jobOf 15 = .ok (.ireturn, 1) := by decide +kernel
theorem dX11_jobOf_16 : decode cX11_jobOf 16 = .ok (.iload_n 2, 1) := by decide +kernel
theorem dX11_jobOf_17 : decode cX11_jobOf 17 = .ok (.tableswitch 100 0 4 #[35, 48, 61, 74, 87], 35) := by decide +kernel
theorem dX11_jobOf_52 : decode cX11_jobOf 52 = .ok (.aload_n 0, 1) := by decide +kernel
theorem dX11_jobOf_53 : decode cX11_jobOf 53 = .ok (.getfield 10, 3) := by decide +kernel
theorem dX11_jobOf_56 : decode cX11_jobOf 56 = .ok (.getfield 130, 3) := by decide +kernel
theorem dX11_jobOf_59 : decode cX11_jobOf 59 = .ok (.getfield 144, 3) := by decide +kernel
theorem dX11_jobOf_62 : decode cX11_jobOf 62 = .ok (.iload_n 1, 1) := by decide +kernel
theorem dX11_jobOf_63 : decode cX11_jobOf 63 = .ok (.iaload, 1) := by decide +kernel
theorem dX11_jobOf_64 : decode cX11_jobOf 64 = .ok (.ireturn, 1) := by decide +kernel
theorem dX11_jobOf_65 : decode cX11_jobOf 65 = .ok (.aload_n 0, 1) := by decide +kernel
theorem dX11_jobOf_66 : decode cX11_jobOf 66 = .ok (.getfield 10, 3) := by decide +kernel
theorem dX11_jobOf_69 : decode cX11_jobOf 69 = .ok (.getfield 130, 3) := by decide +kernel
theorem dX11_jobOf_72 : decode cX11_jobOf 72 = .ok (.getfield 147, 3) := by decide +kernel
theorem dX11_jobOf_75 : decode cX11_jobOf 75 = .ok (.iload_n 1, 1) := by decide +kernel
theorem dX11_jobOf_76 : decode cX11_jobOf 76 = .ok (.iaload, 1) := by decide +kernel
theorem dX11_jobOf_77 : decode cX11_jobOf 77 = .ok (.ireturn, 1) := by decide +kernel
theorem dX11_jobOf_78 : decode cX11_jobOf 78 = .ok (.aload_n 0, 1) := by decide +kernel
theorem dX11_jobOf_79 : decode cX11_jobOf 79 = .ok (.getfield 10, 3) := by decide +kernel
theorem dX11_jobOf_82 : decode cX11_jobOf 82 = .ok (.getfield 130, 3) := by decide +kernel
theorem dX11_jobOf_85 : decode cX11_jobOf 85 = .ok (.getfield 150, 3) := by decide +kernel
theorem dX11_jobOf_88 : decode cX11_jobOf 88 = .ok (.iload_n 1, 1) := by decide +kernel
theorem dX11_jobOf_89 : decode cX11_jobOf 89 = .ok (.iaload, 1) := by decide +kernel
theorem dX11_jobOf_90 : decode cX11_jobOf 90 = .ok (.ireturn, 1) := by decide +kernel
theorem dX11_jobOf_91 : decode cX11_jobOf 91 = .ok (.aload_n 0, 1) := by decide +kernel
theorem dX11_jobOf_92 : decode cX11_jobOf 92 = .ok (.getfield 10, 3) := by decide +kernel
theorem dX11_jobOf_95 : decode cX11_jobOf 95 = .ok (.getfield 130, 3) := by decide +kernel
theorem dX11_jobOf_98 : decode cX11_jobOf 98 = .ok (.getfield 153, 3) := by decide +kernel
theorem dX11_jobOf_101 : decode cX11_jobOf 101 = .ok (.iload_n 1, 1) := by decide +kernel
theorem dX11_jobOf_102 : decode cX11_jobOf 102 = .ok (.iaload, 1) := by decide +kernel
theorem dX11_jobOf_103 : decode cX11_jobOf 103 = .ok (.ireturn, 1) := by decide +kernel
theorem dX11_jobOf_104 : decode cX11_jobOf 104 = .ok (.aload_n 0, 1) := by decide +kernel
theorem dX11_jobOf_105 : decode cX11_jobOf 105 = .ok (.getfield 10, 3) := by decide +kernel
theorem dX11_jobOf_108 : decode cX11_jobOf 108 = .ok (.getfield 130, 3) := by decide +kernel
theorem dX11_jobOf_111 : decode cX11_jobOf 111 = .ok (.getfield 156, 3) := by decide +kernel
theorem dX11_jobOf_114 : decode cX11_jobOf 114 = .ok (.iload_n 1, 1) := by decide +kernel
theorem dX11_jobOf_115 : decode cX11_jobOf 115 = .ok (.iaload, 1) := by decide +kernel
theorem dX11_jobOf_116 : decode cX11_jobOf 116 = .ok (.ireturn, 1) := by decide +kernel
theorem dX11_jobOf_117 : decode cX11_jobOf 117 = .ok (.iconst (-1), 1) := by decide +kernel
theorem dX11_jobOf_118 : decode cX11_jobOf 118 = .ok (.ireturn, 1) := by decide +kernel
theorem dX11_drop_0 : decode cX11_drop 0 = .ok (.aload_n 0, 1) := by decide +kernel
theorem dX11_drop_1 : decode cX11_drop 1 = .ok (.getfield 10, 3) := by decide +kernel
theorem dX11_drop_4 : decode cX11_drop 4 = .ok (.getfield 130, 3) := by decide +kernel
theorem dX11_drop_7 : decode cX11_drop 7 = .ok (.iload_n 1, 1) := by decide +kernel
theorem dX11_drop_8 : decode cX11_drop 8 = .ok (.invokevirtual 140, 3) := by decide +kernel
theorem dX11_drop_11 : decode cX11_drop 11 = .ok (.ifCond .ne 5, 3) := by decide +kernel
theorem dX11_drop_14 : decode cX11_drop 14 = .ok (.iconst (-1), 1) := by decide +kernel
theorem dX11_drop_15 : decode cX11_drop 15 = .ok (.ireturn, 1) := by decide +kernel
theorem dX11_drop_16 : decode cX11_drop 16 = .ok (.aload_n 0, 1) := by decide +kernel
theorem dX11_drop_17 : decode cX11_drop 17 = .ok (.getfield 10, 3) := by decide +kernel
theorem dX11_drop_20 : decode cX11_drop 20 = .ok (.iload_n 1, 1) := by decide +kernel
theorem dX11_drop_21 : decode cX11_drop 21 = .ok (.invokevirtual 159, 3) := by decide +kernel
theorem dX11_drop_24 : decode cX11_drop 24 = .ok (.aload_n 0, 1) := by decide +kernel
theorem dX11_drop_25 : decode cX11_drop 25 = .ok (.getfield 10, 3) := by decide +kernel
theorem dX11_drop_28 : decode cX11_drop 28 = .ok (.getfield 130, 3) := by decide +kernel
theorem dX11_drop_31 : decode cX11_drop 31 = .ok (.getfield 131, 3) := by decide +kernel
theorem dX11_drop_34 : decode cX11_drop 34 = .ok (.ireturn, 1) := by decide +kernel
theorem dX11_set_0 : decode cX11_set 0 = .ok (.iload_n 1, 1) := by decide +kernel
theorem dX11_set_1 : decode cX11_set 1 = .ok (.iconst 0, 1) := by decide +kernel
theorem dX11_set_2 : decode cX11_set 2 = .ok (.iconst 3, 1) := by decide +kernel
theorem dX11_set_3 : decode cX11_set 3 = .ok (.invokestatic 100, 3) := by decide +kernel
theorem dX11_set_6 : decode cX11_set 6 = .ok (.ifCond .eq 20, 3) := by decide +kernel
theorem dX11_set_9 : decode cX11_set 9 = .ok (.iload_n 2, 1) := by decide +kernel
theorem dX11_set_10 : decode cX11_set 10 = .ok (.getstatic 163, 3) := by decide +kernel
theorem dX11_set_13 : decode cX11_set 13 = .ok (.iload_n 1, 1) := by decide +kernel
theorem dX11_set_14 : decode cX11_set 14 = .ok (.iaload, 1) := by decide +kernel
theorem dX11_set_15 : decode cX11_set 15 = .ok (.getstatic 166, 3) := by decide +kernel
theorem dX11_set_18 : decode cX11_set 18 = .ok (.iload_n 1, 1) := by decide +kernel
theorem dX11_set_19 : decode cX11_set 19 = .ok (.iaload, 1) := by decide +kernel
theorem dX11_set_20 : decode cX11_set 20 = .ok (.invokestatic 100, 3) := by decide +kernel
theorem dX11_set_23 : decode cX11_set 23 = .ok (.ifCond .ne 5, 3) := by decide +kernel
theorem dX11_set_26 : decode cX11_set 26 = .ok (.iconst (-1), 1) := by decide +kernel
theorem dX11_set_27 : decode cX11_set 27 = .ok (.ireturn, 1) := by decide +kernel
theorem dX11_set_28 : decode cX11_set 28 = .ok (.aload_n 0, 1) := by decide +kernel
theorem dX11_set_29 : decode cX11_set 29 = .ok (.getfield 10, 3) := by decide +kernel
theorem dX11_set_32 : decode cX11_set 32 = .ok (.getfield 169, 3) := by decide +kernel
theorem dX11_set_35 : decode cX11_set 35 = .ok (.iload_n 1, 1) := by decide +kernel
theorem dX11_set_36 : decode cX11_set 36 = .ok (.iaload, 1) := by decide +kernel
theorem dX11_set_37 : decode cX11_set 37 = .ok (.istore_n 3, 1) := by decide +kernel
theorem dX11_set_38 : decode cX11_set 38 = .ok (.aload_n 0, 1) := by decide +kernel
theorem dX11_set_39 : decode cX11_set 39 = .ok (.getfield 10, 3) := by decide +kernel
theorem dX11_set_42 : decode cX11_set 42 = .ok (.getfield 169, 3) := by decide +kernel
theorem dX11_set_45 : decode cX11_set 45 = .ok (.iload_n 1, 1) := by decide +kernel
theorem dX11_set_46 : decode cX11_set 46 = .ok (.iload_n 2, 1) := by decide +kernel
theorem dX11_set_47 : decode cX11_set 47 = .ok (.iastore, 1) := by decide +kernel
theorem dX11_set_48 : decode cX11_set 48 = .ok (.iload_n 3, 1) := by decide +kernel
theorem dX11_set_49 : decode cX11_set 49 = .ok (.ireturn, 1) := by decide +kernel
theorem dX11_lose_0 : decode cX11_lose 0 = .ok (.iload_n 1, 1) := by decide +kernel
theorem dX11_lose_1 : decode cX11_lose 1 = .ok (.iconst 0, 1) := by decide +kernel
theorem dX11_lose_2 : decode cX11_lose 2 = .ok (.bipush 60, 2) := by decide +kernel
theorem dX11_lose_4 : decode cX11_lose 4 = .ok (.invokestatic 100, 3) := by decide +kernel
theorem dX11_lose_7 : decode cX11_lose 7 = .ok (.ifCond .eq 13, 3) := by decide +kernel
theorem dX11_lose_10 : decode cX11_lose 10 = .ok (.iload_n 2, 1) := by decide +kernel
theorem dX11_lose_11 : decode cX11_lose 11 = .ok (.iconst 0, 1) := by decide +kernel
theorem dX11_lose_12 : decode cX11_lose 12 = .ok (.bipush 9, 2) := by decide +kernel
theorem dX11_lose_14 : decode cX11_lose 14 = .ok (.invokestatic 100, 3) := by decide +kernel
theorem dX11_lose_17 : decode cX11_lose 17 = .ok (.ifCond .ne 5, 3) := by decide +kernel
theorem dX11_lose_20 : decode cX11_lose 20 = .ok (.iconst (-1), 1) := by decide +kernel
theorem dX11_lose_21 : decode cX11_lose 21 = .ok (.ireturn, 1) := by decide +kernel
theorem dX11_lose_22 : decode cX11_lose 22 = .ok (.aload_n 0, 1) := by decide +kernel
theorem dX11_lose_23 : decode cX11_lose 23 = .ok (.getfield 10, 3) := by decide +kernel
theorem dX11_lose_26 : decode cX11_lose 26 = .ok (.getfield 170, 3) := by decide +kernel
theorem dX11_lose_29 : decode cX11_lose 29 = .ok (.iload_n 1, 1) := by decide +kernel
theorem dX11_lose_30 : decode cX11_lose 30 = .ok (.iaload, 1) := by decide +kernel
theorem dX11_lose_31 : decode cX11_lose 31 = .ok (.istore_n 3, 1) := by decide +kernel
theorem dX11_lose_32 : decode cX11_lose 32 = .ok (.aload_n 0, 1) := by decide +kernel
theorem dX11_lose_33 : decode cX11_lose 33 = .ok (.getfield 10, 3) := by decide +kernel
theorem dX11_lose_36 : decode cX11_lose 36 = .ok (.getfield 170, 3) := by decide +kernel
theorem dX11_lose_39 : decode cX11_lose 39 = .ok (.iload_n 1, 1) := by decide +kernel
end
section
theorem dX11_lose_40 : decode cX11_lose 40 = .ok (.iload_n 2, 1) := by decide +kernel
theorem dX11_lose_41 : decode cX11_lose 41 = .ok (.iastore, 1) := by decide +kernel
theorem dX11_lose_42 : decode cX11_lose 42 = .ok (.iload_n 3, 1) := by decide +kernel
theorem dX11_lose_43 : decode cX11_lose 43 = .ok (.ireturn, 1) := by decide +kernel
theorem dX11_night_0 : decode cX11_night 0 = .ok (.iload_n 1, 1) := by decide +kernel
theorem dX11_night_1 : decode cX11_night 1 = .ok (.iconst 0, 1) := by decide +kernel
theorem dX11_night_2 : decode cX11_night 2 = .ok (.bipush 60, 2) := by decide +kernel
theorem dX11_night_4 : decode cX11_night 4 = .ok (.invokestatic 100, 3) := by decide +kernel
theorem dX11_night_7 : decode cX11_night 7 = .ok (.ifCond .eq 13, 3) := by decide +kernel
theorem dX11_night_10 : decode cX11_night 10 = .ok (.iload_n 2, 1) := by decide +kernel
theorem dX11_night_11 : decode cX11_night 11 = .ok (.iconst 0, 1) := by decide +kernel
theorem dX11_night_12 : decode cX11_night 12 = .ok (.bipush 9, 2) := by decide +kernel
theorem dX11_night_14 : decode cX11_night 14 = .ok (.invokestatic 100, 3) := by decide +kernel
theorem dX11_night_17 : decode cX11_night 17 = .ok (.ifCond .ne 5, 3) := by decide +kernel
theorem dX11_night_20 : decode cX11_night 20 = .ok (.iconst (-1), 1) := by decide +kernel
theorem dX11_night_21 : decode cX11_night 21 = .ok (.ireturn, 1) := by decide +kernel
theorem dX11_night_22 : decode cX11_night 22 = .ok (.aload_n 0, 1) := by decide +kernel
theorem dX11_night_23 : decode cX11_night 23 = .ok (.getfield 10, 3) := by decide +kernel
theorem dX11_night_26 : decode cX11_night 26 = .ok (.getfield 173, 3) := by decide +kernel
theorem dX11_night_29 : decode cX11_night 29 = .ok (.iload_n 1, 1) := by decide +kernel
theorem dX11_night_30 : decode cX11_night 30 = .ok (.iaload, 1) := by decide +kernel
theorem dX11_night_31 : decode cX11_night 31 = .ok (.istore_n 3, 1) := by decide +kernel
theorem dX11_night_32 : decode cX11_night 32 = .ok (.aload_n 0, 1) := by decide +kernel
theorem dX11_night_33 : decode cX11_night 33 = .ok (.getfield 10, 3) := by decide +kernel
theorem dX11_night_36 : decode cX11_night 36 = .ok (.getfield 173, 3) := by decide +kernel
theorem dX11_night_39 : decode cX11_night 39 = .ok (.iload_n 1, 1) := by decide +kernel
theorem dX11_night_40 : decode cX11_night 40 = .ok (.iload_n 2, 1) := by decide +kernel
theorem dX11_night_41 : decode cX11_night 41 = .ok (.iastore, 1) := by decide +kernel
theorem dX11_night_42 : decode cX11_night 42 = .ok (.iload_n 3, 1) := by decide +kernel
theorem dX11_night_43 : decode cX11_night 43 = .ok (.ireturn, 1) := by decide +kernel
theorem dX11_slots_0 : decode cX11_slots 0 = .ok (.iload_n 1, 1) := by decide +kernel
theorem dX11_slots_1 : decode cX11_slots 1 = .ok (.iconst 0, 1) := by decide +kernel
theorem dX11_slots_2 : decode cX11_slots 2 = .ok (.bipush 99, 2) := by decide +kernel
theorem dX11_slots_4 : decode cX11_slots 4 = .ok (.invokestatic 100, 3) := by decide +kernel
theorem dX11_slots_7 : decode cX11_slots 7 = .ok (.ifCond .ne 5, 3) := by decide +kernel
theorem dX11_slots_10 : decode cX11_slots 10 = .ok (.iconst (-1), 1) := by decide +kernel
theorem dX11_slots_11 : decode cX11_slots 11 = .ok (.ireturn, 1) := by decide +kernel
theorem dX11_slots_12 : decode cX11_slots 12 = .ok (.aload_n 0, 1) := by decide +kernel
theorem dX11_slots_13 : decode cX11_slots 13 = .ok (.getfield 10, 3) := by decide +kernel
theorem dX11_slots_16 : decode cX11_slots 16 = .ok (.iload_n 1, 1) := by decide +kernel
theorem dX11_slots_17 : decode cX11_slots 17 = .ok (.invokevirtual 176, 3) := by decide +kernel
theorem dX11_slots_20 : decode cX11_slots 20 = .ok (.ireturn, 1) := by decide +kernel
theorem dX11_plan_0 : decode cX11_plan 0 = .ok (.aload_n 0, 1) := by decide +kernel
theorem dX11_plan_1 : decode cX11_plan 1 = .ok (.getfield 10, 3) := by decide +kernel
theorem dX11_plan_4 : decode cX11_plan 4 = .ok (.iload_n 1, 1) := by decide +kernel
theorem dX11_plan_5 : decode cX11_plan 5 = .ok (.invokevirtual 180, 3) := by decide +kernel
theorem dX11_plan_8 : decode cX11_plan 8 = .ok (.ifCond .eq 7, 3) := by decide +kernel
theorem dX11_plan_11 : decode cX11_plan 11 = .ok (.iconst 1, 1) := by decide +kernel
theorem dX11_plan_12 : decode cX11_plan 12 = .ok (.goto 4, 3) := by decide +kernel
theorem dX11_plan_15 : decode cX11_plan 15 = .ok (.iconst (-1), 1) := by decide +kernel
theorem dX11_plan_16 : decode cX11_plan 16 = .ok (.ireturn, 1) := by decide +kernel
theorem dX11_planOf_0 : decode cX11_planOf 0 = .ok (.aload_n 0, 1) := by decide +kernel
theorem dX11_planOf_1 : decode cX11_planOf 1 = .ok (.getfield 10, 3) := by decide +kernel
theorem dX11_planOf_4 : decode cX11_planOf 4 = .ok (.getfield 130, 3) := by decide +kernel
theorem dX11_planOf_7 : decode cX11_planOf 7 = .ok (.iload_n 1, 1) := by decide +kernel
theorem dX11_planOf_8 : decode cX11_planOf 8 = .ok (.invokevirtual 140, 3) := by decide +kernel
theorem dX11_planOf_11 : decode cX11_planOf 11 = .ok (.ifCond .ne 5, 3) := by decide +kernel
theorem dX11_planOf_14 : decode cX11_planOf 14 = .ok (.iconst (-1), 1) := by decide +kernel
theorem dX11_planOf_15 : decode cX11_planOf 15 = .ok (.ireturn, 1) := by decide +kernel
theorem dX11_planOf_16 : decode cX11_planOf 16 = .ok (.aload_n 0, 1) := by decide +kernel
theorem dX11_planOf_17 : decode cX11_planOf 17 = .ok (.getfield 10, 3) := by decide +kernel
theorem dX11_planOf_20 : decode cX11_planOf 20 = .ok (.getfield 183, 3) := by decide +kernel
theorem dX11_planOf_23 : decode cX11_planOf 23 = .ok (.iload_n 1, 1) := by decide +kernel
theorem dX11_planOf_24 : decode cX11_planOf 24 = .ok (.iaload, 1) := by decide +kernel
theorem dX11_planOf_25 : decode cX11_planOf 25 = .ok (.ireturn, 1) := by decide +kernel
theorem dX11_press_0 : decode cX11_press 0 = .ok (.iload_n 1, 1) := by decide +kernel
theorem dX11_press_1 : decode cX11_press 1 = .ok (.tableswitch 51 0 2 #[27, 35, 43], 27) := by decide +kernel
theorem dX11_press_28 : decode cX11_press 28 = .ok (.aload_n 0, 1) := by decide +kernel
theorem dX11_press_29 : decode cX11_press 29 = .ok (.getfield 10, 3) := by decide +kernel
theorem dX11_press_32 : decode cX11_press 32 = .ok (.getfield 186, 3) := by decide +kernel
theorem dX11_press_35 : decode cX11_press 35 = .ok (.ireturn, 1) := by decide +kernel
theorem dX11_press_36 : decode cX11_press 36 = .ok (.aload_n 0, 1) := by decide +kernel
theorem dX11_press_37 : decode cX11_press 37 = .ok (.getfield 10, 3) := by decide +kernel
theorem dX11_press_40 : decode cX11_press 40 = .ok (.getfield 189, 3) := by decide +kernel
theorem dX11_press_43 : decode cX11_press 43 = .ok (.ireturn, 1) := by decide +kernel
theorem dX11_press_44 : decode cX11_press 44 = .ok (.aload_n 0, 1) := by decide +kernel
theorem dX11_press_45 : decode cX11_press 45 = .ok (.getfield 10, 3) := by decide +kernel
theorem dX11_press_48 : decode cX11_press 48 = .ok (.getfield 191, 3) := by decide +kernel
theorem dX11_press_51 : decode cX11_press 51 = .ok (.ireturn, 1) := by decide +kernel
theorem dX11_press_52 : decode cX11_press 52 = .ok (.iconst (-1), 1) := by decide +kernel
theorem dX11_press_53 : decode cX11_press 53 = .ok (.ireturn, 1) := by decide +kernel
theorem dX11_ends_0 : decode cX11_ends 0 = .ok (.aload_n 0, 1) := by decide +kernel
theorem dX11_ends_1 : decode cX11_ends 1 = .ok (.getfield 10, 3) := by decide +kernel
theorem dX11_ends_4 : decode cX11_ends 4 = .ok (.getfield 130, 3) := by decide +kernel
theorem dX11_ends_7 : decode cX11_ends 7 = .ok (.iload_n 1, 1) := by decide +kernel
theorem dX11_ends_8 : decode cX11_ends 8 = .ok (.invokevirtual 140, 3) := by decide +kernel
theorem dX11_ends_11 : decode cX11_ends 11 = .ok (.ifCond .ne 5, 3) := by decide +kernel
theorem dX11_ends_14 : decode cX11_ends 14 = .ok (.iconst (-1), 1) := by decide +kernel
theorem dX11_ends_15 : decode cX11_ends 15 = .ok (.ireturn, 1) := by decide +kernel
theorem dX11_ends_16 : decode cX11_ends 16 = .ok (.aload_n 0, 1) := by decide +kernel
theorem dX11_ends_17 : decode cX11_ends 17 = .ok (.invokevirtual 194, 3) := by decide +kernel
theorem dX11_ends_20 : decode cX11_ends 20 = .ok (.aload_n 0, 1) := by decide +kernel
theorem dX11_ends_21 : decode cX11_ends 21 = .ok (.getfield 43, 3) := by decide +kernel
theorem dX11_ends_24 : decode cX11_ends 24 = .ok (.getfield 197, 3) := by decide +kernel
theorem dX11_ends_27 : decode cX11_ends 27 = .ok (.iload_n 1, 1) := by decide +kernel
theorem dX11_ends_28 : decode cX11_ends 28 = .ok (.iaload, 1) := by decide +kernel
theorem dX11_ends_29 : decode cX11_ends 29 = .ok (.ireturn, 1) := by decide +kernel
theorem dX11_late_0 : decode cX11_late 0 = .ok (.aload_n 0, 1) := by decide +kernel
theorem dX11_late_1 : decode cX11_late 1 = .ok (.invokevirtual 194, 3) := by decide +kernel
theorem dX11_late_4 : decode cX11_late 4 = .ok (.iconst 0, 1) := by decide +kernel
theorem dX11_late_5 : decode cX11_late 5 = .ok (.istore_n 1, 1) := by decide +kernel
theorem dX11_late_6 : decode cX11_late 6 = .ok (.iconst 0, 1) := by decide +kernel
theorem dX11_late_7 : decode cX11_late 7 = .ok (.istore_n 2, 1) := by decide +kernel
theorem dX11_late_8 : decode cX11_late 8 = .ok (.iload_n 2, 1) := by decide +kernel
theorem dX11_late_9 : decode cX11_late 9 = .ok (.aload_n 0, 1) := by decide +kernel
theorem dX11_late_10 : decode cX11_late 10 = .ok (.getfield 10, 3) := by decide +kernel
theorem dX11_late_13 : decode cX11_late 13 = .ok (.getfield 130, 3) := by decide +kernel
theorem dX11_late_16 : decode cX11_late 16 = .ok (.getfield 131, 3) := by decide +kernel
theorem dX11_late_19 : decode cX11_late 19 = .ok (.if_icmp .ge 39, 3) := by decide +kernel
theorem dX11_late_22 : decode cX11_late 22 = .ok (.aload_n 0, 1) := by decide +kernel
theorem dX11_late_23 : decode cX11_late 23 = .ok (.getfield 43, 3) := by decide +kernel
theorem dX11_late_26 : decode cX11_late 26 = .ok (.getfield 197, 3) := by decide +kernel
theorem dX11_late_29 : decode cX11_late 29 = .ok (.iload_n 2, 1) := by decide +kernel
theorem dX11_late_30 : decode cX11_late 30 = .ok (.iaload, 1) := by decide +kernel
theorem dX11_late_31 : decode cX11_late 31 = .ok (.aload_n 0, 1) := by decide +kernel
theorem dX11_late_32 : decode cX11_late 32 = .ok (.getfield 10, 3) := by decide +kernel
theorem dX11_late_35 : decode cX11_late 35 = .ok (.getfield 130, 3) := by decide +kernel
theorem dX11_late_38 : decode cX11_late 38 = .ok (.getfield 153, 3) := by decide +kernel
theorem dX11_late_41 : decode cX11_late 41 = .ok (.iload_n 2, 1) := by decide +kernel
theorem dX11_late_42 : decode cX11_late 42 = .ok (.iaload, 1) := by decide +kernel
theorem dX11_late_43 : decode cX11_late 43 = .ok (.if_icmp .le 9, 3) := by decide +kernel
theorem dX11_late_46 : decode cX11_late 46 = .ok (.iload_n 1, 1) := by decide +kernel
theorem dX11_late_47 : decode cX11_late 47 = .ok (.iconst 1, 1) := by decide +kernel
theorem dX11_late_48 : decode cX11_late 48 = .ok (.iload_n 2, 1) := by decide +kernel
theorem dX11_late_49 : decode cX11_late 49 = .ok (.ishl, 1) := by decide +kernel
theorem dX11_late_50 : decode cX11_late 50 = .ok (.ior, 1) := by decide +kernel
theorem dX11_late_51 : decode cX11_late 51 = .ok (.istore_n 1, 1) := by decide +kernel
theorem dX11_late_52 : decode cX11_late 52 = .ok (.iinc 2 1, 3) := by decide +kernel
theorem dX11_late_55 : decode cX11_late 55 = .ok (.goto (-47), 3) := by decide +kernel
theorem dX11_late_58 : decode cX11_late 58 = .ok (.iload_n 1, 1) := by decide +kernel
theorem dX11_late_59 : decode cX11_late 59 = .ok (.ireturn, 1) := by decide +kernel
theorem dX11_worth_0 : decode cX11_worth 0 = .ok (.aload_n 0, 1) := by decide +kernel
theorem dX11_worth_1 : decode cX11_worth 1 = .ok (.invokevirtual 194, 3) := by decide +kernel
theorem dX11_worth_4 : decode cX11_worth 4 = .ok (.iconst 0, 1) := by decide +kernel
theorem dX11_worth_5 : decode cX11_worth 5 = .ok (.istore_n 1, 1) := by decide +kernel
theorem dX11_worth_6 : decode cX11_worth 6 = .ok (.iconst 0, 1) := by decide +kernel
theorem dX11_worth_7 : decode cX11_worth 7 = .ok (.istore_n 2, 1) := by decide +kernel
theorem dX11_worth_8 : decode cX11_worth 8 = .ok (.iload_n 2, 1) := by decide +kernel
theorem dX11_worth_9 : decode cX11_worth 9 = .ok (.aload_n 0, 1) := by decide +kernel
theorem dX11_worth_10 : decode cX11_worth 10 = .ok (.getfield 10, 3) := by decide +kernel
theorem dX11_worth_13 : decode cX11_worth 13 = .ok (.getfield 130, 3) := by decide +kernel
theorem dX11_worth_16 : decode cX11_worth 16 = .ok (.getfield 131, 3) := by decide +kernel
theorem dX11_worth_19 : decode cX11_worth 19 = .ok (.if_icmp .ge 39, 3) := by decide +kernel
theorem dX11_worth_22 : decode cX11_worth 22 = .ok (.iload_n 1, 1) := by decide +kernel
theorem dX11_worth_23 : decode cX11_worth 23 = .ok (.aload_n 0, 1) := by decide +kernel
theorem dX11_worth_24 : decode cX11_worth 24 = .ok (.getfield 10, 3) := by decide +kernel
theorem dX11_worth_27 : decode cX11_worth 27 = .ok (.getfield 130, 3) := by decide +kernel
theorem dX11_worth_30 : decode cX11_worth 30 = .ok (.iload_n 2, 1) := by decide +kernel
theorem dX11_worth_31 : decode cX11_worth 31 = .ok (.aload_n 0, 1) := by decide +kernel
theorem dX11_worth_32 : decode cX11_worth 32 = .ok (.getfield 43, 3) := by decide +kernel
theorem dX11_worth_35 : decode cX11_worth 35 = .ok (.getfield 197, 3) := by decide +kernel
theorem dX11_worth_38 : decode cX11_worth 38 = .ok (.iload_n 2, 1) := by decide +kernel
theorem dX11_worth_39 : decode cX11_worth 39 = .ok (.iaload, 1) := by decide +kernel
theorem dX11_worth_40 : decode cX11_worth 40 = .ok (.aload_n 0, 1) := by decide +kernel
theorem dX11_worth_41 : decode cX11_worth 41 = .ok (.getfield 43, 3) := by decide +kernel
theorem dX11_worth_44 : decode cX11_worth 44 = .ok (.getfield 200, 3) := by decide +kernel
theorem dX11_worth_47 : decode cX11_worth 47 = .ok (.invokevirtual 203, 3) := by decide +kernel
theorem dX11_worth_50 : decode cX11_worth 50 = .ok (.iadd, 1) := by decide +kernel
theorem dX11_worth_51 : decode cX11_worth 51 = .ok (.istore_n 1, 1) := by decide +kernel
theorem dX11_worth_52 : decode cX11_worth 52 = .ok (.iinc 2 1, 3) := by decide +kernel
theorem dX11_worth_55 : decode cX11_worth 55 = .ok (.goto (-47), 3) := by decide +kernel
theorem dX11_worth_58 : decode cX11_worth 58 = .ok (.iload_n 1, 1) := by decide +kernel
theorem dX11_worth_59 : decode cX11_worth 59 = .ok (.ireturn, 1) := by decide +kernel
theorem dX11_best_0 : decode cX11_best 0 = .ok (.iload_n 1, 1) := by decide +kernel
theorem dX11_best_1 : decode cX11_best 1 = .ok (.iconst 0, 1) := by decide +kernel
theorem dX11_best_2 : decode cX11_best 2 = .ok (.iconst 1, 1) := by decide +kernel
theorem dX11_best_3 : decode cX11_best 3 = .ok (.invokestatic 100, 3) := by decide +kernel
theorem dX11_best_6 : decode cX11_best 6 = .ok (.ifCond .ne 6, 3) := by decide +kernel
theorem dX11_best_9 : decode cX11_best 9 = .ok (.ldc 207, 2) := by decide +kernel
theorem dX11_best_11 : decode cX11_best 11 = .ok (.ireturn, 1) := by decide +kernel
theorem dX11_best_12 : decode cX11_best 12 = .ok (.aload_n 0, 1) := by decide +kernel
theorem dX11_best_13 : decode cX11_best 13 = .ok (.getfield 43, 3) := by decide +kernel
theorem dX11_best_16 : decode cX11_best 16 = .ok (.aload_n 0, 1) := by decide +kernel
theorem dX11_best_17 : decode cX11_best 17 = .ok (.getfield 10, 3) := by decide +kernel
theorem dX11_best_20 : decode cX11_best 20 = .ok (.iconst 0, 1) := by decide +kernel
theorem dX11_best_21 : decode cX11_best 21 = .ok (.invokevirtual 208, 3) := by decide +kernel
theorem dX11_best_24 : decode cX11_best 24 = .ok (.aload_n 0, 1) := by decide +kernel
theorem dX11_best_25 : decode cX11_best 25 = .ok (.getfield 52, 3) := by decide +kernel
theorem dX11_best_28 : decode cX11_best 28 = .ok (.aload_n 0, 1) := by decide +kernel
theorem dX11_best_29 : decode cX11_best 29 = .ok (.getfield 10, 3) := by decide +kernel
theorem dX11_best_32 : decode cX11_best 32 = .ok (.getfield 130, 3) := by decide +kernel
theorem dX11_best_35 : decode cX11_best 35 = .ok (.bipush (-9), 2) := by decide +kernel
theorem dX11_best_37 : decode cX11_best 37 = .ok (.invokevirtual 212, 3) := by decide +kernel
theorem dX11_best_40 : decode cX11_best 40 = .ok (.istore_n 2, 1) := by decide +kernel
theorem dX11_best_41 : decode cX11_best 41 = .ok (.iload_n 1, 1) := by decide +kernel
theorem dX11_best_42 : decode cX11_best 42 = .ok (.ifCond .ne 7, 3) := by decide +kernel
theorem dX11_best_45 : decode cX11_best 45 = .ok (.iload_n 2, 1) := by decide +kernel
theorem dX11_best_46 : decode cX11_best 46 = .ok (.goto 23, 3) := by decide +kernel
theorem dX11_best_49 : decode cX11_best 49 = .ok (.aload_n 0, 1) := by decide +kernel
theorem dX11_best_50 : decode cX11_best 50 = .ok (.getfield 52, 3) := by decide +kernel
theorem dX11_best_53 : decode cX11_best 53 = .ok (.getfield 216, 3) := by decide +kernel
theorem dX11_best_56 : decode cX11_best 56 = .ok (.aload_n 0, 1) := by decide +kernel
theorem dX11_best_57 : decode cX11_best 57 = .ok (.getfield 10, 3) := by decide +kernel
theorem dX11_best_60 : decode cX11_best 60 = .ok (.getfield 130, 3) := by decide +kernel
theorem dX11_best_63 : decode cX11_best 63 = .ok (.getfield 131, 3) := by decide +kernel
theorem dX11_best_66 : decode cX11_best 66 = .ok (.invokestatic 219, 3) := by decide +kernel
theorem dX11_best_69 : decode cX11_best 69 = .ok (.ireturn, 1) := by decide +kernel
theorem dX11_fewest_0 : decode cX11_fewest 0 = .ok (.aload_n 0, 1) := by decide +kernel
theorem dX11_fewest_1 : decode cX11_fewest 1 = .ok (.getfield 43, 3) := by decide +kernel
theorem dX11_fewest_4 : decode cX11_fewest 4 = .ok (.aload_n 0, 1) := by decide +kernel
theorem dX11_fewest_5 : decode cX11_fewest 5 = .ok (.getfield 10, 3) := by decide +kernel
theorem dX11_fewest_8 : decode cX11_fewest 8 = .ok (.iconst 0, 1) := by decide +kernel
theorem dX11_fewest_9 : decode cX11_fewest 9 = .ok (.invokevirtual 208, 3) := by decide +kernel
theorem dX11_fewest_12 : decode cX11_fewest 12 = .ok (.aload_n 0, 1) := by decide +kernel
theorem dX11_fewest_13 : decode cX11_fewest 13 = .ok (.getfield 52, 3) := by decide +kernel
theorem dX11_fewest_16 : decode cX11_fewest 16 = .ok (.aload_n 0, 1) := by decide +kernel
theorem dX11_fewest_17 : decode cX11_fewest 17 = .ok (.getfield 10, 3) := by decide +kernel
theorem dX11_fewest_20 : decode cX11_fewest 20 = .ok (.getfield 130, 3) := by decide +kernel
theorem dX11_fewest_23 : decode cX11_fewest 23 = .ok (.invokevirtual 223, 3) := by decide +kernel
theorem dX11_fewest_26 : decode cX11_fewest 26 = .ok (.ireturn, 1) := by decide +kernel
theorem dX11_soonest_0 : decode cX11_soonest 0 = .ok (.iload_n 1, 1) := by decide +kernel
theorem dX11_soonest_1 : decode cX11_soonest 1 = .ok (.iload_n 2, 1) := by decide +kernel
theorem dX11_soonest_2 : decode cX11_soonest 2 = .ok (.iload_n 3, 1) := by decide +kernel
theorem dX11_soonest_3 : decode cX11_soonest 3 = .ok (.iconst 0, 1) := by decide +kernel
theorem dX11_soonest_4 : decode cX11_soonest 4 = .ok (.iconst 0, 1) := by decide +kernel
theorem dX11_soonest_5 : decode cX11_soonest 5 = .ok (.invokestatic 132, 3) := by decide +kernel
theorem dX11_soonest_8 : decode cX11_soonest 8 = .ok (.ifCond .ne 5, 3) := by decide +kernel
theorem dX11_soonest_11 : decode cX11_soonest 11 = .ok (.iconst (-1), 1) := by decide +kernel
theorem dX11_soonest_12 : decode cX11_soonest 12 = .ok (.ireturn, 1) := by decide +kernel
theorem dX11_soonest_13 : decode cX11_soonest 13 = .ok (.aload_n 0, 1) := by decide +kernel
theorem dX11_soonest_14 : decode cX11_soonest 14 = .ok (.getfield 10, 3) := by decide +kernel
theorem dX11_soonest_17 : decode cX11_soonest 17 = .ok (.getfield 130, 3) := by decide +kernel
theorem dX11_soonest_20 : decode cX11_soonest 20 = .ok (.getfield 131, 3) := by decide +kernel
theorem dX11_soonest_23 : decode cX11_soonest 23 = .ok (.bipush 6, 2) := by decide +kernel
theorem dX11_soonest_25 : decode cX11_soonest 25 = .ok (.if_icmp .lt 6, 3) := by decide +kernel
theorem dX11_soonest_28 : decode cX11_soonest 28 = .ok (.bipush (-2), 2) := by decide +kernel
theorem dX11_soonest_30 : decode cX11_soonest 30 = .ok (.ireturn, 1) := by decide +kernel
theorem dX11_soonest_31 : decode cX11_soonest 31 = .ok (.aload_n 0, 1) := by decide +kernel
theorem dX11_soonest_32 : decode cX11_soonest 32 = .ok (.getfield 43, 3) := by decide +kernel
theorem dX11_soonest_35 : decode cX11_soonest 35 = .ok (.aload_n 0, 1) := by decide +kernel
theorem dX11_soonest_36 : decode cX11_soonest 36 = .ok (.getfield 10, 3) := by decide +kernel
theorem dX11_soonest_39 : decode cX11_soonest 39 = .ok (.iconst 0, 1) := by decide +kernel
theorem dX11_soonest_40 : decode cX11_soonest 40 = .ok (.invokevirtual 208, 3) := by decide +kernel
theorem dX11_soonest_43 : decode cX11_soonest 43 = .ok (.aload_n 0, 1) := by decide +kernel
theorem dX11_soonest_44 : decode cX11_soonest 44 = .ok (.getfield 82, 3) := by decide +kernel
theorem dX11_soonest_47 : decode cX11_soonest 47 = .ok (.aload_n 0, 1) := by decide +kernel
theorem dX11_soonest_48 : decode cX11_soonest 48 = .ok (.getfield 10, 3) := by decide +kernel
theorem dX11_soonest_51 : decode cX11_soonest 51 = .ok (.getfield 130, 3) := by decide +kernel
theorem dX11_soonest_54 : decode cX11_soonest 54 = .ok (.invokevirtual 227, 3) := by decide +kernel
theorem dX11_soonest_57 : decode cX11_soonest 57 = .ok (.aload_n 0, 1) := by decide +kernel
theorem dX11_soonest_58 : decode cX11_soonest 58 = .ok (.getfield 82, 3) := by decide +kernel
theorem dX11_soonest_61 : decode cX11_soonest 61 = .ok (.iload_n 1, 1) := by decide +kernel
theorem dX11_soonest_62 : decode cX11_soonest 62 = .ok (.iload_n 2, 1) := by decide +kernel
theorem dX11_soonest_63 : decode cX11_soonest 63 = .ok (.iload_n 3, 1) := by decide +kernel
theorem dX11_soonest_64 : decode cX11_soonest 64 = .ok (.bipush 60, 2) := by decide +kernel
theorem dX11_soonest_66 : decode cX11_soonest 66 = .ok (.iconst 0, 1) := by decide +kernel
theorem dX11_soonest_67 : decode cX11_soonest 67 = .ok (.invokevirtual 231, 3) := by decide +kernel
theorem dX11_soonest_70 : decode cX11_soonest 70 = .ok (.aload_n 0, 1) := by decide +kernel
theorem dX11_soonest_71 : decode cX11_soonest 71 = .ok (.getfield 52, 3) := by decide +kernel
theorem dX11_soonest_74 : decode cX11_soonest 74 = .ok (.aload_n 0, 1) := by decide +kernel
theorem dX11_soonest_75 : decode cX11_soonest 75 = .ok (.getfield 82, 3) := by decide +kernel
theorem dX11_soonest_78 : decode cX11_soonest 78 = .ok (.invokevirtual 235, 3) := by decide +kernel
theorem dX11_soonest_81 : decode cX11_soonest 81 = .ok (.istore 4, 2) := by decide +kernel
theorem dX11_soonest_83 : decode cX11_soonest 83 = .ok (.iload 4, 2) := by decide +kernel
theorem dX11_soonest_85 : decode cX11_soonest 85 = .ok (.bipush 60, 2) := by decide +kernel
theorem dX11_soonest_87 : decode cX11_soonest 87 = .ok (.if_icmp .gt 8, 3) := by decide +kernel
theorem dX11_soonest_90 : decode cX11_soonest 90 = .ok (.iload 4, 2) := by decide +kernel
theorem dX11_soonest_92 : decode cX11_soonest 92 = .ok (.goto 5, 3) := by decide +kernel
theorem dX11_soonest_95 : decode cX11_soonest 95 = .ok (.bipush (-3), 2) := by decide +kernel
theorem dX11_soonest_97 : decode cX11_soonest 97 = .ok (.ireturn, 1) := by decide +kernel
theorem dX11_gain_0 : decode cX11_gain 0 = .ok (.iload_n 1, 1) := by decide +kernel
theorem dX11_gain_1 : decode cX11_gain 1 = .ok (.iload_n 2, 1) := by decide +kernel
theorem dX11_gain_2 : decode cX11_gain 2 = .ok (.iload_n 3, 1) := by decide +kernel
theorem dX11_gain_3 : decode cX11_gain 3 = .ok (.iload 4, 2) := by decide +kernel
theorem dX11_gain_5 : decode cX11_gain 5 = .ok (.iload 5, 2) := by decide +kernel
theorem dX11_gain_7 : decode cX11_gain 7 = .ok (.invokestatic 132, 3) := by decide +kernel
theorem dX11_gain_10 : decode cX11_gain 10 = .ok (.ifCond .eq 18, 3) := by decide +kernel
theorem dX11_gain_13 : decode cX11_gain 13 = .ok (.aload_n 0, 1) := by decide +kernel
theorem dX11_gain_14 : decode cX11_gain 14 = .ok (.getfield 10, 3) := by decide +kernel
theorem dX11_gain_17 : decode cX11_gain 17 = .ok (.getfield 130, 3) := by decide +kernel
theorem dX11_gain_20 : decode cX11_gain 20 = .ok (.getfield 131, 3) := by decide +kernel
theorem dX11_gain_23 : decode cX11_gain 23 = .ok (.bipush 6, 2) := by decide +kernel
theorem dX11_gain_25 : decode cX11_gain 25 = .ok (.if_icmp .lt 6, 3) := by decide +kernel
theorem dX11_gain_28 : decode cX11_gain 28 = .ok (.ldc 207, 2) := by decide +kernel
theorem dX11_gain_30 : decode cX11_gain 30 = .ok (.ireturn, 1) := by decide +kernel
theorem dX11_gain_31 : decode cX11_gain 31 = .ok (.aload_n 0, 1) := by decide +kernel
theorem dX11_gain_32 : decode cX11_gain 32 = .ok (.getfield 43, 3) := by decide +kernel
theorem dX11_gain_35 : decode cX11_gain 35 = .ok (.aload_n 0, 1) := by decide +kernel
theorem dX11_gain_36 : decode cX11_gain 36 = .ok (.getfield 10, 3) := by decide +kernel
theorem dX11_gain_39 : decode cX11_gain 39 = .ok (.iconst 0, 1) := by decide +kernel
theorem dX11_gain_40 : decode cX11_gain 40 = .ok (.invokevirtual 208, 3) := by decide +kernel
theorem dX11_gain_43 : decode cX11_gain 43 = .ok (.aload_n 0, 1) := by decide +kernel
theorem dX11_gain_44 : decode cX11_gain 44 = .ok (.getfield 52, 3) := by decide +kernel
theorem dX11_gain_47 : decode cX11_gain 47 = .ok (.aload_n 0, 1) := by decide +kernel
theorem dX11_gain_48 : decode cX11_gain 48 = .ok (.getfield 10, 3) := by decide +kernel
theorem dX11_gain_51 : decode cX11_gain 51 = .ok (.getfield 130, 3) := by decide +kernel
theorem dX11_gain_54 : decode cX11_gain 54 = .ok (.bipush (-9), 2) := by decide +kernel
theorem dX11_gain_56 : decode cX11_gain 56 = .ok (.invokevirtual 212, 3) := by decide +kernel
theorem dX11_gain_59 : decode cX11_gain 59 = .ok (.istore 6, 2) := by decide +kernel
theorem dX11_gain_61 : decode cX11_gain 61 = .ok (.aload_n 0, 1) := by decide +kernel
theorem dX11_gain_62 : decode cX11_gain 62 = .ok (.getfield 82, 3) := by decide +kernel
theorem dX11_gain_65 : decode cX11_gain 65 = .ok (.aload_n 0, 1) := by decide +kernel
theorem dX11_gain_66 : decode cX11_gain 66 = .ok (.getfield 10, 3) := by decide +kernel
theorem dX11_gain_69 : decode cX11_gain 69 = .ok (.getfield 130, 3) := by decide +kernel
theorem dX11_gain_72 : decode cX11_gain 72 = .ok (.invokevirtual 227, 3) := by decide +kernel
theorem dX11_gain_75 : decode cX11_gain 75 = .ok (.aload_n 0, 1) := by decide +kernel
theorem dX11_gain_76 : decode cX11_gain 76 = .ok (.getfield 82, 3) := by decide +kernel
theorem dX11_gain_79 : decode cX11_gain 79 = .ok (.iload_n 1, 1) := by decide +kernel
theorem dX11_gain_80 : decode cX11_gain 80 = .ok (.iload_n 2, 1) := by decide +kernel
theorem dX11_gain_81 : decode cX11_gain 81 = .ok (.iload_n 3, 1) := by decide +kernel
theorem dX11_gain_82 : decode cX11_gain 82 = .ok (.iload 4, 2) := by decide +kernel
theorem dX11_gain_84 : decode cX11_gain 84 = .ok (.iload 5, 2) := by decide +kernel
theorem dX11_gain_86 : decode cX11_gain 86 = .ok (.invokevirtual 231, 3) := by decide +kernel
theorem dX11_gain_89 : decode cX11_gain 89 = .ok (.aload_n 0, 1) := by decide +kernel
theorem dX11_gain_90 : decode cX11_gain 90 = .ok (.getfield 52, 3) := by decide +kernel
theorem dX11_gain_93 : decode cX11_gain 93 = .ok (.aload_n 0, 1) := by decide +kernel
theorem dX11_gain_94 : decode cX11_gain 94 = .ok (.getfield 82, 3) := by decide +kernel
theorem dX11_gain_97 : decode cX11_gain 97 = .ok (.bipush (-9), 2) := by decide +kernel
theorem dX11_gain_99 : decode cX11_gain 99 = .ok (.invokevirtual 212, 3) := by decide +kernel
theorem dX11_gain_102 : decode cX11_gain 102 = .ok (.iload 6, 2) := by decide +kernel
theorem dX11_gain_104 : decode cX11_gain 104 = .ok (.isub, 1) := by decide +kernel
theorem dX11_gain_105 : decode cX11_gain 105 = .ok (.ireturn, 1) := by decide +kernel
theorem dX11_across_0 : decode cX11_across 0 = .ok (.iload_n 1, 1) := by decide +kernel
theorem dX11_across_1 : decode cX11_across 1 = .ok (.iconst 0, 1) := by decide +kernel
theorem dX11_across_2 : decode cX11_across 2 = .ok (.iconst 1, 1) := by decide +kernel
theorem dX11_across_3 : decode cX11_across 3 = .ok (.invokestatic 100, 3) := by decide +kernel
theorem dX11_across_6 : decode cX11_across 6 = .ok (.ifCond .ne 6, 3) := by decide +kernel
theorem dX11_across_9 : decode cX11_across 9 = .ok (.ldc 207, 2) := by decide +kernel
theorem dX11_across_11 : decode cX11_across 11 = .ok (.ireturn, 1) := by decide +kernel
theorem dX11_across_12 : decode cX11_across 12 = .ok (.aload_n 0, 1) := by decide +kernel
theorem dX11_across_13 : decode cX11_across 13 = .ok (.getfield 43, 3) := by decide +kernel
theorem dX11_across_16 : decode cX11_across 16 = .ok (.aload_n 0, 1) := by decide +kernel
theorem dX11_across_17 : decode cX11_across 17 = .ok (.getfield 10, 3) := by decide +kernel
theorem dX11_across_20 : decode cX11_across 20 = .ok (.iconst 0, 1) := by decide +kernel
theorem dX11_across_21 : decode cX11_across 21 = .ok (.invokevirtual 208, 3) := by decide +kernel
theorem dX11_across_24 : decode cX11_across 24 = .ok (.bipush (-9), 2) := by decide +kernel
theorem dX11_across_26 : decode cX11_across 26 = .ok (.istore_n 2, 1) := by decide +kernel
theorem dX11_across_27 : decode cX11_across 27 = .ok (.aload_n 0, 1) := by decide +kernel
theorem dX11_across_28 : decode cX11_across 28 = .ok (.getfield 52, 3) := by decide +kernel
theorem dX11_across_31 : decode cX11_across 31 = .ok (.aload_n 0, 1) := by decide +kernel
theorem dX11_across_32 : decode cX11_across 32 = .ok (.getfield 10, 3) := by decide +kernel
theorem dX11_across_35 : decode cX11_across 35 = .ok (.getfield 130, 3) := by decide +kernel
theorem dX11_across_38 : decode cX11_across 38 = .ok (.bipush (-9), 2) := by decide +kernel
theorem dX11_across_40 : decode cX11_across 40 = .ok (.invokevirtual 212, 3) := by decide +kernel
theorem dX11_across_43 : decode cX11_across 43 = .ok (.istore_n 3, 1) := by decide +kernel
theorem dX11_across_44 : decode cX11_across 44 = .ok (.iconst 0, 1) := by decide +kernel
theorem dX11_across_45 : decode cX11_across 45 = .ok (.istore 4, 2) := by decide +kernel
theorem dX11_across_47 : decode cX11_across 47 = .ok (.iload 4, 2) := by decide +kernel
theorem dX11_across_49 : decode cX11_across 49 = .ok (.aload_n 0, 1) := by decide +kernel
theorem dX11_across_50 : decode cX11_across 50 = .ok (.getfield 10, 3) := by decide +kernel
theorem dX11_across_53 : decode cX11_across 53 = .ok (.getfield 130, 3) := by decide +kernel
theorem dX11_across_56 : decode cX11_across 56 = .ok (.getfield 131, 3) := by decide +kernel
theorem dX11_across_59 : decode cX11_across 59 = .ok (.if_icmp .ge 55, 3) := by decide +kernel
theorem dX11_across_62 : decode cX11_across 62 = .ok (.aload_n 0, 1) := by decide +kernel
theorem dX11_across_63 : decode cX11_across 63 = .ok (.getfield 52, 3) := by decide +kernel
theorem dX11_across_66 : decode cX11_across 66 = .ok (.aload_n 0, 1) := by decide +kernel
theorem dX11_across_67 : decode cX11_across 67 = .ok (.getfield 10, 3) := by decide +kernel
theorem dX11_across_70 : decode cX11_across 70 = .ok (.getfield 130, 3) := by decide +kernel
theorem dX11_across_73 : decode cX11_across 73 = .ok (.iload 4, 2) := by decide +kernel
theorem dX11_across_75 : decode cX11_across 75 = .ok (.invokevirtual 212, 3) := by decide +kernel
theorem dX11_across_78 : decode cX11_across 78 = .ok (.aload_n 0, 1) := by decide +kernel
theorem dX11_across_79 : decode cX11_across 79 = .ok (.getfield 10, 3) := by decide +kernel
theorem dX11_across_82 : decode cX11_across 82 = .ok (.getfield 130, 3) := by decide +kernel
theorem dX11_across_85 : decode cX11_across 85 = .ok (.getfield 156, 3) := by decide +kernel
theorem dX11_across_88 : decode cX11_across 88 = .ok (.iload 4, 2) := by decide +kernel
theorem dX11_across_90 : decode cX11_across 90 = .ok (.iaload, 1) := by decide +kernel
theorem dX11_across_91 : decode cX11_across 91 = .ok (.iconst 2, 1) := by decide +kernel
theorem dX11_across_92 : decode cX11_across 92 = .ok (.idiv, 1) := by decide +kernel
theorem dX11_across_93 : decode cX11_across 93 = .ok (.iadd, 1) := by decide +kernel
theorem dX11_across_94 : decode cX11_across 94 = .ok (.istore 5, 2) := by decide +kernel
theorem dX11_across_96 : decode cX11_across 96 = .ok (.iload 5, 2) := by decide +kernel
theorem dX11_across_98 : decode cX11_across 98 = .ok (.iload_n 3, 1) := by decide +kernel
theorem dX11_across_99 : decode cX11_across 99 = .ok (.if_icmp .le 9, 3) := by decide +kernel
theorem dX11_across_102 : decode cX11_across 102 = .ok (.iload 5, 2) := by decide +kernel
theorem dX11_across_104 : decode cX11_across 104 = .ok (.istore_n 3, 1) := by decide +kernel
theorem dX11_across_105 : decode cX11_across 105 = .ok (.iload 4, 2) := by decide +kernel
theorem dX11_across_107 : decode cX11_across 107 = .ok (.istore_n 2, 1) := by decide +kernel
theorem dX11_across_108 : decode cX11_across 108 = .ok (.iinc 4 1, 3) := by decide +kernel
theorem dX11_across_111 : decode cX11_across 111 = .ok (.goto (-64), 3) := by decide +kernel
theorem dX11_across_114 : decode cX11_across 114 = .ok (.iload_n 1, 1) := by decide +kernel
theorem dX11_across_115 : decode cX11_across 115 = .ok (.ifCond .ne 7, 3) := by decide +kernel
theorem dX11_across_118 : decode cX11_across 118 = .ok (.iload_n 2, 1) := by decide +kernel
theorem dX11_across_119 : decode cX11_across 119 = .ok (.goto 4, 3) := by decide +kernel
theorem dX11_across_122 : decode cX11_across 122 = .ok (.iload_n 3, 1) := by decide +kernel
theorem dX11_across_123 : decode cX11_across 123 = .ok (.ireturn, 1) := by decide +kernel
theorem dX11_nights_0 : decode cX11_nights 0 = .ok (.iconst 0, 1) := by decide +kernel
theorem dX11_nights_1 : decode cX11_nights 1 = .ok (.istore_n 1, 1) := by decide +kernel
theorem dX11_nights_2 : decode cX11_nights 2 = .ok (.iload_n 1, 1) := by decide +kernel
theorem dX11_nights_3 : decode cX11_nights 3 = .ok (.bipush 9, 2) := by decide +kernel
theorem dX11_nights_5 : decode cX11_nights 5 = .ok (.if_icmp .gt 40, 3) := by decide +kernel
theorem dX11_nights_8 : decode cX11_nights 8 = .ok (.aload_n 0, 1) := by decide +kernel
theorem dX11_nights_9 : decode cX11_nights 9 = .ok (.getfield 43, 3) := by decide +kernel
theorem dX11_nights_12 : decode cX11_nights 12 = .ok (.aload_n 0, 1) := by decide +kernel
theorem dX11_nights_13 : decode cX11_nights 13 = .ok (.getfield 10, 3) := by decide +kernel
theorem dX11_nights_16 : decode cX11_nights 16 = .ok (.iload_n 1, 1) := by decide +kernel
theorem dX11_nights_17 : decode cX11_nights 17 = .ok (.invokevirtual 208, 3) := by decide +kernel
theorem dX11_nights_20 : decode cX11_nights 20 = .ok (.aload_n 0, 1) := by decide +kernel
theorem dX11_nights_21 : decode cX11_nights 21 = .ok (.getfield 52, 3) := by decide +kernel
theorem dX11_nights_24 : decode cX11_nights 24 = .ok (.aload_n 0, 1) := by decide +kernel
theorem dX11_nights_25 : decode cX11_nights 25 = .ok (.getfield 10, 3) := by decide +kernel
theorem dX11_nights_28 : decode cX11_nights 28 = .ok (.getfield 130, 3) := by decide +kernel
theorem dX11_nights_31 : decode cX11_nights 31 = .ok (.invokevirtual 223, 3) := by decide +kernel
theorem dX11_nights_34 : decode cX11_nights 34 = .ok (.ifCond .ne 5, 3) := by decide +kernel
theorem dX11_nights_37 : decode cX11_nights 37 = .ok (.iload_n 1, 1) := by decide +kernel
theorem dX11_nights_38 : decode cX11_nights 38 = .ok (.ireturn, 1) := by decide +kernel
theorem dX11_nights_39 : decode cX11_nights 39 = .ok (.iinc 1 1, 3) := by decide +kernel
theorem dX11_nights_42 : decode cX11_nights 42 = .ok (.goto (-40), 3) := by decide +kernel
theorem dX11_nights_45 : decode cX11_nights 45 = .ok (.bipush (-3), 2) := by decide +kernel
theorem dX11_nights_47 : decode cX11_nights 47 = .ok (.ireturn, 1) := by decide +kernel
theorem dX11_sure_0 : decode cX11_sure 0 = .ok (.iload_n 1, 1) := by decide +kernel
theorem dX11_sure_1 : decode cX11_sure 1 = .ok (.iconst 0, 1) := by decide +kernel
theorem dX11_sure_2 : decode cX11_sure 2 = .ok (.iconst 1, 1) := by decide +kernel
theorem dX11_sure_3 : decode cX11_sure 3 = .ok (.invokestatic 100, 3) := by decide +kernel
theorem dX11_sure_6 : decode cX11_sure 6 = .ok (.ifCond .ne 5, 3) := by decide +kernel
theorem dX11_sure_9 : decode cX11_sure 9 = .ok (.iconst (-1), 1) := by decide +kernel
theorem dX11_sure_10 : decode cX11_sure 10 = .ok (.ireturn, 1) := by decide +kernel
theorem dX11_sure_11 : decode cX11_sure 11 = .ok (.aload_n 0, 1) := by decide +kernel
theorem dX11_sure_12 : decode cX11_sure 12 = .ok (.getfield 43, 3) := by decide +kernel
theorem dX11_sure_15 : decode cX11_sure 15 = .ok (.aload_n 0, 1) := by decide +kernel
theorem dX11_sure_16 : decode cX11_sure 16 = .ok (.getfield 10, 3) := by decide +kernel
theorem dX11_sure_19 : decode cX11_sure 19 = .ok (.iconst 0, 1) := by decide +kernel
theorem dX11_sure_20 : decode cX11_sure 20 = .ok (.invokevirtual 208, 3) := by decide +kernel
theorem dX11_sure_23 : decode cX11_sure 23 = .ok (.aload_n 0, 1) := by decide +kernel
theorem dX11_sure_24 : decode cX11_sure 24 = .ok (.getfield 59, 3) := by decide +kernel
theorem dX11_sure_27 : decode cX11_sure 27 = .ok (.aload_n 0, 1) := by decide +kernel
theorem dX11_sure_28 : decode cX11_sure 28 = .ok (.getfield 10, 3) := by decide +kernel
theorem dX11_sure_31 : decode cX11_sure 31 = .ok (.getfield 130, 3) := by decide +kernel
theorem dX11_sure_34 : decode cX11_sure 34 = .ok (.aload_n 0, 1) := by decide +kernel
theorem dX11_sure_35 : decode cX11_sure 35 = .ok (.getfield 10, 3) := by decide +kernel
theorem dX11_sure_38 : decode cX11_sure 38 = .ok (.getfield 183, 3) := by decide +kernel
theorem dX11_sure_41 : decode cX11_sure 41 = .ok (.invokevirtual 238, 3) := by decide +kernel
theorem dX11_sure_44 : decode cX11_sure 44 = .ok (.iconst 2, 1) := by decide +kernel
theorem dX11_sure_45 : decode cX11_sure 45 = .ok (.aload_n 0, 1) := by decide +kernel
theorem dX11_sure_46 : decode cX11_sure 46 = .ok (.getfield 10, 3) := by decide +kernel
theorem dX11_sure_49 : decode cX11_sure 49 = .ok (.getfield 130, 3) := by decide +kernel
theorem dX11_sure_52 : decode cX11_sure 52 = .ok (.getfield 131, 3) := by decide +kernel
theorem dX11_sure_55 : decode cX11_sure 55 = .ok (.imul, 1) := by decide +kernel
theorem dX11_sure_56 : decode cX11_sure 56 = .ok (.iload_n 1, 1) := by decide +kernel
theorem dX11_sure_57 : decode cX11_sure 57 = .ok (.invokestatic 242, 3) := by decide +kernel
theorem dX11_sure_60 : decode cX11_sure 60 = .ok (.ireturn, 1) := by decide +kernel
theorem dX11_safest_0 : decode cX11_safest 0 = .ok (.iload_n 1, 1) := by decide +kernel
theorem dX11_safest_1 : decode cX11_safest 1 = .ok (.iconst 0, 1) := by decide +kernel
theorem dX11_safest_2 : decode cX11_safest 2 = .ok (.iconst 2, 1) := by decide +kernel
theorem dX11_safest_3 : decode cX11_safest 3 = .ok (.invokestatic 100, 3) := by decide +kernel
theorem dX11_safest_6 : decode cX11_safest 6 = .ok (.ifCond .ne 5, 3) := by decide +kernel
theorem dX11_safest_9 : decode cX11_safest 9 = .ok (.iconst (-1), 1) := by decide +kernel
theorem dX11_safest_10 : decode cX11_safest 10 = .ok (.ireturn, 1) := by decide +kernel
theorem dX11_safest_11 : decode cX11_safest 11 = .ok (.aload_n 0, 1) := by decide +kernel
theorem dX11_safest_12 : decode cX11_safest 12 = .ok (.getfield 43, 3) := by decide +kernel
theorem dX11_safest_15 : decode cX11_safest 15 = .ok (.aload_n 0, 1) := by decide +kernel
theorem dX11_safest_16 : decode cX11_safest 16 = .ok (.getfield 10, 3) := by decide +kernel
theorem dX11_safest_19 : decode cX11_safest 19 = .ok (.iconst 0, 1) := by decide +kernel
theorem dX11_safest_20 : decode cX11_safest 20 = .ok (.invokevirtual 208, 3) := by decide +kernel
theorem dX11_safest_23 : decode cX11_safest 23 = .ok (.aload_n 0, 1) := by decide +kernel
theorem dX11_safest_24 : decode cX11_safest 24 = .ok (.getfield 59, 3) := by decide +kernel
theorem dX11_safest_27 : decode cX11_safest 27 = .ok (.aload_n 0, 1) := by decide +kernel
theorem dX11_safest_28 : decode cX11_safest 28 = .ok (.getfield 10, 3) := by decide +kernel
theorem dX11_safest_31 : decode cX11_safest 31 = .ok (.getfield 130, 3) := by decide +kernel
theorem dX11_safest_34 : decode cX11_safest 34 = .ok (.invokevirtual 245, 3) := by decide +kernel
theorem dX11_safest_37 : decode cX11_safest 37 = .ok (.istore_n 2, 1) := by decide +kernel
theorem dX11_safest_38 : decode cX11_safest 38 = .ok (.iload_n 1, 1) := by decide +kernel
theorem dX11_safest_39 : decode cX11_safest 39 = .ok (.ifCond .ne 24, 3) := by decide +kernel
theorem dX11_safest_42 : decode cX11_safest 42 = .ok (.aload_n 0, 1) := by decide +kernel
theorem dX11_safest_43 : decode cX11_safest 43 = .ok (.getfield 59, 3) := by decide +kernel
theorem dX11_safest_46 : decode cX11_safest 46 = .ok (.getfield 248, 3) := by decide +kernel
theorem dX11_safest_49 : decode cX11_safest 49 = .ok (.aload_n 0, 1) := by decide +kernel
theorem dX11_safest_50 : decode cX11_safest 50 = .ok (.getfield 10, 3) := by decide +kernel
theorem dX11_safest_53 : decode cX11_safest 53 = .ok (.getfield 130, 3) := by decide +kernel
theorem dX11_safest_56 : decode cX11_safest 56 = .ok (.getfield 131, 3) := by decide +kernel
theorem dX11_safest_59 : decode cX11_safest 59 = .ok (.invokestatic 219, 3) := by decide +kernel
theorem dX11_safest_62 : decode cX11_safest 62 = .ok (.ireturn, 1) := by decide +kernel
theorem dX11_safest_63 : decode cX11_safest 63 = .ok (.iload_n 2, 1) := by decide +kernel
theorem dX11_safest_64 : decode cX11_safest 64 = .ok (.iconst 2, 1) := by decide +kernel
theorem dX11_safest_65 : decode cX11_safest 65 = .ok (.aload_n 0, 1) := by decide +kernel
theorem dX11_safest_66 : decode cX11_safest 66 = .ok (.getfield 10, 3) := by decide +kernel
theorem dX11_safest_69 : decode cX11_safest 69 = .ok (.getfield 130, 3) := by decide +kernel
theorem dX11_safest_72 : decode cX11_safest 72 = .ok (.getfield 131, 3) := by decide +kernel
theorem dX11_safest_75 : decode cX11_safest 75 = .ok (.imul, 1) := by decide +kernel
theorem dX11_safest_76 : decode cX11_safest 76 = .ok (.iload_n 1, 1) := by decide +kernel
theorem dX11_safest_77 : decode cX11_safest 77 = .ok (.iconst 1, 1) := by decide +kernel
theorem dX11_safest_78 : decode cX11_safest 78 = .ok (.isub, 1) := by decide +kernel
theorem dX11_safest_79 : decode cX11_safest 79 = .ok (.invokestatic 242, 3) := by decide +kernel
theorem dX11_safest_82 : decode cX11_safest 82 = .ok (.ireturn, 1) := by decide +kernel
theorem dX11_mean_0 : decode cX11_mean 0 = .ok (.iload_n 1, 1) := by decide +kernel
theorem dX11_mean_1 : decode cX11_mean 1 = .ok (.iconst 0, 1) := by decide +kernel
theorem dX11_mean_2 : decode cX11_mean 2 = .ok (.iconst 1, 1) := by decide +kernel
theorem dX11_mean_3 : decode cX11_mean 3 = .ok (.invokestatic 100, 3) := by decide +kernel
theorem dX11_mean_6 : decode cX11_mean 6 = .ok (.ifCond .ne 6, 3) := by decide +kernel
theorem dX11_mean_9 : decode cX11_mean 9 = .ok (.ldc 207, 2) := by decide +kernel
theorem dX11_mean_11 : decode cX11_mean 11 = .ok (.ireturn, 1) := by decide +kernel
theorem dX11_mean_12 : decode cX11_mean 12 = .ok (.aload_n 0, 1) := by decide +kernel
theorem dX11_mean_13 : decode cX11_mean 13 = .ok (.getfield 43, 3) := by decide +kernel
theorem dX11_mean_16 : decode cX11_mean 16 = .ok (.aload_n 0, 1) := by decide +kernel
theorem dX11_mean_17 : decode cX11_mean 17 = .ok (.getfield 10, 3) := by decide +kernel
theorem dX11_mean_20 : decode cX11_mean 20 = .ok (.iconst 0, 1) := by decide +kernel
theorem dX11_mean_21 : decode cX11_mean 21 = .ok (.invokevirtual 208, 3) := by decide +kernel
theorem dX11_mean_24 : decode cX11_mean 24 = .ok (.aload_n 0, 1) := by decide +kernel
theorem dX11_mean_25 : decode cX11_mean 25 = .ok (.getfield 59, 3) := by decide +kernel
theorem dX11_mean_28 : decode cX11_mean 28 = .ok (.aload_n 0, 1) := by decide +kernel
theorem dX11_mean_29 : decode cX11_mean 29 = .ok (.getfield 10, 3) := by decide +kernel
theorem dX11_mean_32 : decode cX11_mean 32 = .ok (.getfield 130, 3) := by decide +kernel
theorem dX11_mean_35 : decode cX11_mean 35 = .ok (.aload_n 0, 1) := by decide +kernel
theorem dX11_mean_36 : decode cX11_mean 36 = .ok (.getfield 10, 3) := by decide +kernel
theorem dX11_mean_39 : decode cX11_mean 39 = .ok (.getfield 183, 3) := by decide +kernel
theorem dX11_mean_42 : decode cX11_mean 42 = .ok (.invokevirtual 249, 3) := by decide +kernel
theorem dX11_mean_45 : decode cX11_mean 45 = .ok (.iconst 2, 1) := by decide +kernel
theorem dX11_mean_46 : decode cX11_mean 46 = .ok (.aload_n 0, 1) := by decide +kernel
theorem dX11_mean_47 : decode cX11_mean 47 = .ok (.getfield 10, 3) := by decide +kernel
theorem dX11_mean_50 : decode cX11_mean 50 = .ok (.getfield 130, 3) := by decide +kernel
theorem dX11_mean_53 : decode cX11_mean 53 = .ok (.getfield 131, 3) := by decide +kernel
theorem dX11_mean_56 : decode cX11_mean 56 = .ok (.imul, 1) := by decide +kernel
theorem dX11_mean_57 : decode cX11_mean 57 = .ok (.iload_n 1, 1) := by decide +kernel
theorem dX11_mean_58 : decode cX11_mean 58 = .ok (.invokestatic 242, 3) := by decide +kernel
theorem dX11_mean_61 : decode cX11_mean 61 = .ok (.ireturn, 1) := by decide +kernel
theorem dX11_type_0 : decode cX11_type 0 = .ok (.iload_n 1, 1) := by decide +kernel
theorem dX11_type_1 : decode cX11_type 1 = .ok (.iload_n 2, 1) := by decide +kernel
theorem dX11_type_2 : decode cX11_type 2 = .ok (.iload_n 3, 1) := by decide +kernel
theorem dX11_type_3 : decode cX11_type 3 = .ok (.iconst 0, 1) := by decide +kernel
theorem dX11_type_4 : decode cX11_type 4 = .ok (.iload 5, 2) := by decide +kernel
theorem dX11_type_6 : decode cX11_type 6 = .ok (.invokestatic 132, 3) := by decide +kernel
theorem dX11_type_9 : decode cX11_type 9 = .ok (.ifCond .ne 5, 3) := by decide +kernel
theorem dX11_type_12 : decode cX11_type 12 = .ok (.iconst (-1), 1) := by decide +kernel
theorem dX11_type_13 : decode cX11_type 13 = .ok (.ireturn, 1) := by decide +kernel
theorem dX11_type_14 : decode cX11_type 14 = .ok (.iload 4, 2) := by decide +kernel
theorem dX11_type_16 : decode cX11_type 16 = .ok (.iconst 0, 1) := by decide +kernel
theorem dX11_type_17 : decode cX11_type 17 = .ok (.bipush 20, 2) := by decide +kernel
theorem dX11_type_19 : decode cX11_type 19 = .ok (.invokestatic 100, 3) := by decide +kernel
theorem dX11_type_22 : decode cX11_type 22 = .ok (.ifCond .eq 13, 3) := by decide +kernel
theorem dX11_type_25 : decode cX11_type 25 = .ok (.iload 6, 2) := by decide +kernel
theorem dX11_type_27 : decode cX11_type 27 = .ok (.iconst 1, 1) := by decide +kernel
theorem dX11_type_28 : decode cX11_type 28 = .ok (.iconst 4, 1) := by decide +kernel
theorem dX11_type_29 : decode cX11_type 29 = .ok (.invokestatic 100, 3) := by decide +kernel
theorem dX11_type_32 : decode cX11_type 32 = .ok (.ifCond .ne 5, 3) := by decide +kernel
theorem dX11_type_35 : decode cX11_type 35 = .ok (.iconst (-1), 1) := by decide +kernel
theorem dX11_type_36 : decode cX11_type 36 = .ok (.ireturn, 1) := by decide +kernel
theorem dX11_type_37 : decode cX11_type 37 = .ok (.aload_n 0, 1) := by decide +kernel
theorem dX11_type_38 : decode cX11_type 38 = .ok (.getfield 22, 3) := by decide +kernel
theorem dX11_type_41 : decode cX11_type 41 = .ok (.invokevirtual 252, 3) := by decide +kernel
theorem dX11_type_44 : decode cX11_type 44 = .ok (.iload 6, 2) := by decide +kernel
theorem dX11_type_46 : decode cX11_type 46 = .ok (.iadd, 1) := by decide +kernel
theorem dX11_type_47 : decode cX11_type 47 = .ok (.iconst 4, 1) := by decide +kernel
theorem dX11_type_48 : decode cX11_type 48 = .ok (.if_icmp .le 6, 3) := by decide +kernel
theorem dX11_type_51 : decode cX11_type 51 = .ok (.bipush (-4), 2) := by decide +kernel
theorem dX11_type_53 : decode cX11_type 53 = .ok (.ireturn, 1) := by decide +kernel
theorem dX11_type_54 : decode cX11_type 54 = .ok (.aload_n 0, 1) := by decide +kernel
theorem dX11_type_55 : decode cX11_type 55 = .ok (.getfield 22, 3) := by decide +kernel
theorem dX11_type_58 : decode cX11_type 58 = .ok (.iload_n 1, 1) := by decide +kernel
theorem dX11_type_59 : decode cX11_type 59 = .ok (.iload_n 2, 1) := by decide +kernel
theorem dX11_type_60 : decode cX11_type 60 = .ok (.iload_n 3, 1) := by decide +kernel
theorem dX11_type_61 : decode cX11_type 61 = .ok (.iload 4, 2) := by decide +kernel
theorem dX11_type_63 : decode cX11_type 63 = .ok (.iload 5, 2) := by decide +kernel
theorem dX11_type_65 : decode cX11_type 65 = .ok (.iload 6, 2) := by decide +kernel
theorem dX11_type_67 : decode cX11_type 67 = .ok (.invokevirtual 255, 3) := by decide +kernel
theorem dX11_type_70 : decode cX11_type 70 = .ok (.ireturn, 1) := by decide +kernel
theorem dX11_typeOf_0 : decode cX11_typeOf 0 = .ok (.iload_n 1, 1) := by decide +kernel
theorem dX11_typeOf_1 : decode cX11_typeOf 1 = .ok (.iconst 0, 1) := by decide +kernel
theorem dX11_typeOf_2 : decode cX11_typeOf 2 = .ok (.aload_n 0, 1) := by decide +kernel
theorem dX11_typeOf_3 : decode cX11_typeOf 3 = .ok (.getfield 22, 3) := by decide +kernel
theorem dX11_typeOf_6 : decode cX11_typeOf 6 = .ok (.getfield 258, 3) := by decide +kernel
theorem dX11_typeOf_9 : decode cX11_typeOf 9 = .ok (.iconst 1, 1) := by decide +kernel
theorem dX11_typeOf_10 : decode cX11_typeOf 10 = .ok (.isub, 1) := by decide +kernel
theorem dX11_typeOf_11 : decode cX11_typeOf 11 = .ok (.invokestatic 100, 3) := by decide +kernel
theorem dX11_typeOf_14 : decode cX11_typeOf 14 = .ok (.ifCond .ne 5, 3) := by decide +kernel
theorem dX11_typeOf_17 : decode cX11_typeOf 17 = .ok (.iconst (-1), 1) := by decide +kernel
theorem dX11_typeOf_18 : decode cX11_typeOf 18 = .ok (.ireturn, 1) := by decide +kernel
theorem dX11_typeOf_19 : decode cX11_typeOf 19 = .ok (.iload_n 2, 1) := by decide +kernel
theorem dX11_typeOf_20 : decode cX11_typeOf 20 = .ok (.tableswitch 100 0 5 #[40, 50, 60, 70, 80, 90], 40) := by decide +kernel
theorem dX11_typeOf_60 : decode cX11_typeOf 60 = .ok (.aload_n 0, 1) := by decide +kernel
theorem dX11_typeOf_61 : decode cX11_typeOf 61 = .ok (.getfield 22, 3) := by decide +kernel
theorem dX11_typeOf_64 : decode cX11_typeOf 64 = .ok (.getfield 259, 3) := by decide +kernel
theorem dX11_typeOf_67 : decode cX11_typeOf 67 = .ok (.iload_n 1, 1) := by decide +kernel
theorem dX11_typeOf_68 : decode cX11_typeOf 68 = .ok (.iaload, 1) := by decide +kernel
theorem dX11_typeOf_69 : decode cX11_typeOf 69 = .ok (.ireturn, 1) := by decide +kernel
theorem dX11_typeOf_70 : decode cX11_typeOf 70 = .ok (.aload_n 0, 1) := by decide +kernel
theorem dX11_typeOf_71 : decode cX11_typeOf 71 = .ok (.getfield 22, 3) := by decide +kernel
theorem dX11_typeOf_74 : decode cX11_typeOf 74 = .ok (.getfield 260, 3) := by decide +kernel
theorem dX11_typeOf_77 : decode cX11_typeOf 77 = .ok (.iload_n 1, 1) := by decide +kernel
theorem dX11_typeOf_78 : decode cX11_typeOf 78 = .ok (.iaload, 1) := by decide +kernel
theorem dX11_typeOf_79 : decode cX11_typeOf 79 = .ok (.ireturn, 1) := by decide +kernel
theorem dX11_typeOf_80 : decode cX11_typeOf 80 = .ok (.aload_n 0, 1) := by decide +kernel
theorem dX11_typeOf_81 : decode cX11_typeOf 81 = .ok (.getfield 22, 3) := by decide +kernel
theorem dX11_typeOf_84 : decode cX11_typeOf 84 = .ok (.getfield 263, 3) := by decide +kernel
theorem dX11_typeOf_87 : decode cX11_typeOf 87 = .ok (.iload_n 1, 1) := by decide +kernel
theorem dX11_typeOf_88 : decode cX11_typeOf 88 = .ok (.iaload, 1) := by decide +kernel
theorem dX11_typeOf_89 : decode cX11_typeOf 89 = .ok (.ireturn, 1) := by decide +kernel
theorem dX11_typeOf_90 : decode cX11_typeOf 90 = .ok (.aload_n 0, 1) := by decide +kernel
theorem dX11_typeOf_91 : decode cX11_typeOf 91 = .ok (.getfield 22, 3) := by decide +kernel
theorem dX11_typeOf_94 : decode cX11_typeOf 94 = .ok (.getfield 264, 3) := by decide +kernel
theorem dX11_typeOf_97 : decode cX11_typeOf 97 = .ok (.iload_n 1, 1) := by decide +kernel
theorem dX11_typeOf_98 : decode cX11_typeOf 98 = .ok (.iaload, 1) := by decide +kernel
theorem dX11_typeOf_99 : decode cX11_typeOf 99 = .ok (.ireturn, 1) := by decide +kernel
theorem dX11_typeOf_100 : decode cX11_typeOf 100 = .ok (.aload_n 0, 1) := by decide +kernel
theorem dX11_typeOf_101 : decode cX11_typeOf 101 = .ok (.getfield 22, 3) := by decide +kernel
theorem dX11_typeOf_104 : decode cX11_typeOf 104 = .ok (.getfield 267, 3) := by decide +kernel
theorem dX11_typeOf_107 : decode cX11_typeOf 107 = .ok (.iload_n 1, 1) := by decide +kernel
theorem dX11_typeOf_108 : decode cX11_typeOf 108 = .ok (.iaload, 1) := by decide +kernel
theorem dX11_typeOf_109 : decode cX11_typeOf 109 = .ok (.ireturn, 1) := by decide +kernel
theorem dX11_typeOf_110 : decode cX11_typeOf 110 = .ok (.aload_n 0, 1) := by decide +kernel
theorem dX11_typeOf_111 : decode cX11_typeOf 111 = .ok (.getfield 22, 3) := by decide +kernel
theorem dX11_typeOf_114 : decode cX11_typeOf 114 = .ok (.getfield 268, 3) := by decide +kernel
theorem dX11_typeOf_117 : decode cX11_typeOf 117 = .ok (.iload_n 1, 1) := by decide +kernel
theorem dX11_typeOf_118 : decode cX11_typeOf 118 = .ok (.iaload, 1) := by decide +kernel
theorem dX11_typeOf_119 : decode cX11_typeOf 119 = .ok (.ireturn, 1) := by decide +kernel
theorem dX11_typeOf_120 : decode cX11_typeOf 120 = .ok (.iconst (-1), 1) := by decide +kernel
theorem dX11_typeOf_121 : decode cX11_typeOf 121 = .ok (.ireturn, 1) := by decide +kernel
theorem dX11_ahead_0 : decode cX11_ahead 0 = .ok (.iload_n 1, 1) := by decide +kernel
theorem dX11_ahead_1 : decode cX11_ahead 1 = .ok (.iconst 0, 1) := by decide +kernel
theorem dX11_ahead_2 : decode cX11_ahead 2 = .ok (.iconst 3, 1) := by decide +kernel
theorem dX11_ahead_3 : decode cX11_ahead 3 = .ok (.invokestatic 100, 3) := by decide +kernel
theorem dX11_ahead_6 : decode cX11_ahead 6 = .ok (.ifCond .eq 28, 3) := by decide +kernel
theorem dX11_ahead_9 : decode cX11_ahead 9 = .ok (.iload_n 2, 1) := by decide +kernel
theorem dX11_ahead_10 : decode cX11_ahead 10 = .ok (.iconst 0, 1) := by decide +kernel
theorem dX11_ahead_11 : decode cX11_ahead 11 = .ok (.iconst 1, 1) := by decide +kernel
theorem dX11_ahead_12 : decode cX11_ahead 12 = .ok (.invokestatic 100, 3) := by decide +kernel
theorem dX11_ahead_15 : decode cX11_ahead 15 = .ok (.ifCond .eq 19, 3) := by decide +kernel
theorem dX11_ahead_18 : decode cX11_ahead 18 = .ok (.aload_n 0, 1) := by decide +kernel
theorem dX11_ahead_19 : decode cX11_ahead 19 = .ok (.getfield 10, 3) := by decide +kernel
theorem dX11_ahead_22 : decode cX11_ahead 22 = .ok (.getfield 130, 3) := by decide +kernel
theorem dX11_ahead_25 : decode cX11_ahead 25 = .ok (.getfield 131, 3) := by decide +kernel
theorem dX11_ahead_28 : decode cX11_ahead 28 = .ok (.iload_n 1, 1) := by decide +kernel
theorem dX11_ahead_29 : decode cX11_ahead 29 = .ok (.iadd, 1) := by decide +kernel
theorem dX11_ahead_30 : decode cX11_ahead 30 = .ok (.iconst 5, 1) := by decide +kernel
theorem dX11_ahead_31 : decode cX11_ahead 31 = .ok (.if_icmp .le 6, 3) := by decide +kernel
theorem dX11_ahead_34 : decode cX11_ahead 34 = .ok (.ldc 207, 2) := by decide +kernel
theorem dX11_ahead_36 : decode cX11_ahead 36 = .ok (.ireturn, 1) := by decide +kernel
theorem dX11_ahead_37 : decode cX11_ahead 37 = .ok (.aload_n 0, 1) := by decide +kernel
theorem dX11_ahead_38 : decode cX11_ahead 38 = .ok (.getfield 43, 3) := by decide +kernel
theorem dX11_ahead_41 : decode cX11_ahead 41 = .ok (.aload_n 0, 1) := by decide +kernel
theorem dX11_ahead_42 : decode cX11_ahead 42 = .ok (.getfield 10, 3) := by decide +kernel
theorem dX11_ahead_45 : decode cX11_ahead 45 = .ok (.iconst 0, 1) := by decide +kernel
theorem dX11_ahead_46 : decode cX11_ahead 46 = .ok (.invokevirtual 208, 3) := by decide +kernel
theorem dX11_ahead_49 : decode cX11_ahead 49 = .ok (.aload_n 0, 1) := by decide +kernel
theorem dX11_ahead_50 : decode cX11_ahead 50 = .ok (.getfield 82, 3) := by decide +kernel
theorem dX11_ahead_53 : decode cX11_ahead 53 = .ok (.aload_n 0, 1) := by decide +kernel
theorem dX11_ahead_54 : decode cX11_ahead 54 = .ok (.getfield 10, 3) := by decide +kernel
theorem dX11_ahead_57 : decode cX11_ahead 57 = .ok (.getfield 130, 3) := by decide +kernel
theorem dX11_ahead_60 : decode cX11_ahead 60 = .ok (.invokevirtual 227, 3) := by decide +kernel
theorem dX11_ahead_63 : decode cX11_ahead 63 = .ok (.aload_n 0, 1) := by decide +kernel
theorem dX11_ahead_64 : decode cX11_ahead 64 = .ok (.getfield 68, 3) := by decide +kernel
theorem dX11_ahead_67 : decode cX11_ahead 67 = .ok (.aload_n 0, 1) := by decide +kernel
theorem dX11_ahead_68 : decode cX11_ahead 68 = .ok (.getfield 22, 3) := by decide +kernel
theorem dX11_ahead_71 : decode cX11_ahead 71 = .ok (.aload_n 0, 1) := by decide +kernel
theorem dX11_ahead_72 : decode cX11_ahead 72 = .ok (.getfield 82, 3) := by decide +kernel
theorem dX11_ahead_75 : decode cX11_ahead 75 = .ok (.aload_n 0, 1) := by decide +kernel
theorem dX11_ahead_76 : decode cX11_ahead 76 = .ok (.getfield 10, 3) := by decide +kernel
theorem dX11_ahead_79 : decode cX11_ahead 79 = .ok (.getfield 186, 3) := by decide +kernel
theorem dX11_ahead_82 : decode cX11_ahead 82 = .ok (.iload_n 1, 1) := by decide +kernel
theorem dX11_ahead_83 : decode cX11_ahead 83 = .ok (.invokevirtual 271, 3) := by decide +kernel
theorem dX11_ahead_86 : decode cX11_ahead 86 = .ok (.iconst 2, 1) := by decide +kernel
theorem dX11_ahead_87 : decode cX11_ahead 87 = .ok (.iload_n 1, 1) := by decide +kernel
theorem dX11_ahead_88 : decode cX11_ahead 88 = .ok (.imul, 1) := by decide +kernel
theorem dX11_ahead_89 : decode cX11_ahead 89 = .ok (.iload_n 2, 1) := by decide +kernel
theorem dX11_ahead_90 : decode cX11_ahead 90 = .ok (.invokestatic 242, 3) := by decide +kernel
theorem dX11_ahead_93 : decode cX11_ahead 93 = .ok (.ireturn, 1) := by decide +kernel
theorem dX11_comes_0 : decode cX11_comes 0 = .ok (.aload_n 0, 1) := by decide +kernel
theorem dX11_comes_1 : decode cX11_comes 1 = .ok (.getfield 22, 3) := by decide +kernel
theorem dX11_comes_4 : decode cX11_comes 4 = .ok (.invokevirtual 275, 3) := by decide +kernel
theorem dX11_comes_7 : decode cX11_comes 7 = .ok (.ireturn, 1) := by decide +kernel
theorem dX11_seed_0 : decode cX11_seed 0 = .ok (.aload_n 0, 1) := by decide +kernel
theorem dX11_seed_1 : decode cX11_seed 1 = .ok (.getfield 22, 3) := by decide +kernel
theorem dX11_seed_4 : decode cX11_seed 4 = .ok (.getfield 278, 3) := by decide +kernel
theorem dX11_seed_7 : decode cX11_seed 7 = .ok (.istore_n 2, 1) := by decide +kernel
theorem dX11_seed_8 : decode cX11_seed 8 = .ok (.aload_n 0, 1) := by decide +kernel
theorem dX11_seed_9 : decode cX11_seed 9 = .ok (.getfield 22, 3) := by decide +kernel
theorem dX11_seed_12 : decode cX11_seed 12 = .ok (.iload_n 1, 1) := by decide +kernel
theorem dX11_seed_13 : decode cX11_seed 13 = .ok (.putfield 278, 3) := by decide +kernel
theorem dX11_seed_16 : decode cX11_seed 16 = .ok (.iload_n 2, 1) := by decide +kernel
theorem dX11_seed_17 : decode cX11_seed 17 = .ok (.ireturn, 1) := by decide +kernel
theorem dX11_goes_0 : decode cX11_goes 0 = .ok (.aload_n 0, 1) := by decide +kernel
theorem dX11_goes_1 : decode cX11_goes 1 = .ok (.getfield 10, 3) := by decide +kernel
theorem dX11_goes_4 : decode cX11_goes 4 = .ok (.getfield 186, 3) := by decide +kernel
theorem dX11_goes_7 : decode cX11_goes 7 = .ok (.bipush 60, 2) := by decide +kernel
theorem dX11_goes_9 : decode cX11_goes 9 = .ok (.if_icmp .lt 6, 3) := by decide +kernel
theorem dX11_goes_12 : decode cX11_goes 12 = .ok (.bipush (-4), 2) := by decide +kernel
theorem dX11_goes_14 : decode cX11_goes 14 = .ok (.ireturn, 1) := by decide +kernel
theorem dX11_goes_15 : decode cX11_goes 15 = .ok (.aload_n 0, 1) := by decide +kernel
theorem dX11_goes_16 : decode cX11_goes 16 = .ok (.getfield 10, 3) := by decide +kernel
theorem dX11_goes_19 : decode cX11_goes 19 = .ok (.invokevirtual 281, 3) := by decide +kernel
theorem dX11_goes_22 : decode cX11_goes 22 = .ok (.ireturn, 1) := by decide +kernel
theorem dX11_till_0 : decode cX11_till 0 = .ok (.aload_n 0, 1) := by decide +kernel
theorem dX11_till_1 : decode cX11_till 1 = .ok (.getfield 10, 3) := by decide +kernel
theorem dX11_till_4 : decode cX11_till 4 = .ok (.getfield 284, 3) := by decide +kernel
theorem dX11_till_7 : decode cX11_till 7 = .ok (.ireturn, 1) := by decide +kernel
theorem dX11_prove_0 : decode cX11_prove 0 = .ok (.aload_n 0, 1) := by decide +kernel
theorem dX11_prove_1 : decode cX11_prove 1 = .ok (.getfield 43, 3) := by decide +kernel
theorem dX11_prove_4 : decode cX11_prove 4 = .ok (.aload_n 0, 1) := by decide +kernel
theorem dX11_prove_5 : decode cX11_prove 5 = .ok (.getfield 10, 3) := by decide +kernel
theorem dX11_prove_8 : decode cX11_prove 8 = .ok (.iconst 0, 1) := by decide +kernel
theorem dX11_prove_9 : decode cX11_prove 9 = .ok (.invokevirtual 208, 3) := by decide +kernel
theorem dX11_prove_12 : decode cX11_prove 12 = .ok (.aload_n 0, 1) := by decide +kernel
theorem dX11_prove_13 : decode cX11_prove 13 = .ok (.getfield 52, 3) := by decide +kernel
theorem dX11_prove_16 : decode cX11_prove 16 = .ok (.aload_n 0, 1) := by decide +kernel
theorem dX11_prove_17 : decode cX11_prove 17 = .ok (.getfield 10, 3) := by decide +kernel
theorem dX11_prove_20 : decode cX11_prove 20 = .ok (.getfield 130, 3) := by decide +kernel
theorem dX11_prove_23 : decode cX11_prove 23 = .ok (.bipush (-9), 2) := by decide +kernel
theorem dX11_prove_25 : decode cX11_prove 25 = .ok (.invokevirtual 212, 3) := by decide +kernel
theorem dX11_prove_28 : decode cX11_prove 28 = .ok (.pop, 1) := by decide +kernel
theorem dX11_prove_29 : decode cX11_prove 29 = .ok (.aload_n 0, 1) := by decide +kernel
theorem dX11_prove_30 : decode cX11_prove 30 = .ok (.getfield 75, 3) := by decide +kernel
theorem dX11_prove_33 : decode cX11_prove 33 = .ok (.aload_n 0, 1) := by decide +kernel
theorem dX11_prove_34 : decode cX11_prove 34 = .ok (.getfield 10, 3) := by decide +kernel
theorem dX11_prove_37 : decode cX11_prove 37 = .ok (.getfield 130, 3) := by decide +kernel
theorem dX11_prove_40 : decode cX11_prove 40 = .ok (.aload_n 0, 1) := by decide +kernel
theorem dX11_prove_41 : decode cX11_prove 41 = .ok (.getfield 52, 3) := by decide +kernel
theorem dX11_prove_44 : decode cX11_prove 44 = .ok (.getfield 216, 3) := by decide +kernel
theorem dX11_prove_47 : decode cX11_prove 47 = .ok (.invokevirtual 287, 3) := by decide +kernel
theorem dX11_prove_50 : decode cX11_prove 50 = .ok (.aload_n 0, 1) := by decide +kernel
theorem dX11_prove_51 : decode cX11_prove 51 = .ok (.getfield 75, 3) := by decide +kernel
theorem dX11_prove_54 : decode cX11_prove 54 = .ok (.getfield 126, 3) := by decide +kernel
theorem dX11_prove_57 : decode cX11_prove 57 = .ok (.ireturn, 1) := by decide +kernel
theorem dX11_row_0 : decode cX11_row 0 = .ok (.aload_n 0, 1) := by decide +kernel
theorem dX11_row_1 : decode cX11_row 1 = .ok (.getfield 75, 3) := by decide +kernel
theorem dX11_row_4 : decode cX11_row 4 = .ok (.iload_n 1, 1) := by decide +kernel
theorem dX11_row_5 : decode cX11_row 5 = .ok (.iload_n 2, 1) := by decide +kernel
theorem dX11_row_6 : decode cX11_row 6 = .ok (.invokevirtual 290, 3) := by decide +kernel
theorem dX11_row_9 : decode cX11_row 9 = .ok (.ifCond .ne 6, 3) := by decide +kernel
theorem dX11_row_12 : decode cX11_row 12 = .ok (.ldc 207, 2) := by decide +kernel
theorem dX11_row_14 : decode cX11_row 14 = .ok (.ireturn, 1) := by decide +kernel
theorem dX11_row_15 : decode cX11_row 15 = .ok (.aload_n 0, 1) := by decide +kernel
theorem dX11_row_16 : decode cX11_row 16 = .ok (.getfield 75, 3) := by decide +kernel
theorem dX11_row_19 : decode cX11_row 19 = .ok (.getfield 293, 3) := by decide +kernel
theorem dX11_row_22 : decode cX11_row 22 = .ok (.iload_n 1, 1) := by decide +kernel
theorem dX11_row_23 : decode cX11_row 23 = .ok (.iconst 3, 1) := by decide +kernel
theorem dX11_row_24 : decode cX11_row 24 = .ok (.imul, 1) := by decide +kernel
theorem dX11_row_25 : decode cX11_row 25 = .ok (.iload_n 2, 1) := by decide +kernel
theorem dX11_row_26 : decode cX11_row 26 = .ok (.iadd, 1) := by decide +kernel
theorem dX11_row_27 : decode cX11_row 27 = .ok (.iaload, 1) := by decide +kernel
theorem dX11_row_28 : decode cX11_row 28 = .ok (.ireturn, 1) := by decide +kernel
theorem dX11_alterRow_0 : decode cX11_alterRow 0 = .ok (.aload_n 0, 1) := by decide +kernel
theorem dX11_alterRow_1 : decode cX11_alterRow 1 = .ok (.getfield 75, 3) := by decide +kernel
theorem dX11_alterRow_4 : decode cX11_alterRow 4 = .ok (.iload_n 1, 1) := by decide +kernel
theorem dX11_alterRow_5 : decode cX11_alterRow 5 = .ok (.iload_n 2, 1) := by decide +kernel
theorem dX11_alterRow_6 : decode cX11_alterRow 6 = .ok (.invokevirtual 290, 3) := by decide +kernel
theorem dX11_alterRow_9 : decode cX11_alterRow 9 = .ok (.ifCond .ne 6, 3) := by decide +kernel
theorem dX11_alterRow_12 : decode cX11_alterRow 12 = .ok (.ldc 207, 2) := by decide +kernel
theorem dX11_alterRow_14 : decode cX11_alterRow 14 = .ok (.ireturn, 1) := by decide +kernel
theorem dX11_alterRow_15 : decode cX11_alterRow 15 = .ok (.iload_n 1, 1) := by decide +kernel
theorem dX11_alterRow_16 : decode cX11_alterRow 16 = .ok (.iconst 3, 1) := by decide +kernel
theorem dX11_alterRow_17 : decode cX11_alterRow 17 = .ok (.imul, 1) := by decide +kernel
theorem dX11_alterRow_18 : decode cX11_alterRow 18 = .ok (.iload_n 2, 1) := by decide +kernel
theorem dX11_alterRow_19 : decode cX11_alterRow 19 = .ok (.iadd, 1) := by decide +kernel
theorem dX11_alterRow_20 : decode cX11_alterRow 20 = .ok (.istore 4, 2) := by decide +kernel
theorem dX11_alterRow_22 : decode cX11_alterRow 22 = .ok (.aload_n 0, 1) := by decide +kernel
theorem dX11_alterRow_23 : decode cX11_alterRow 23 = .ok (.getfield 75, 3) := by decide +kernel
theorem dX11_alterRow_26 : decode cX11_alterRow 26 = .ok (.getfield 293, 3) := by decide +kernel
theorem dX11_alterRow_29 : decode cX11_alterRow 29 = .ok (.iload 4, 2) := by decide +kernel
theorem dX11_alterRow_31 : decode cX11_alterRow 31 = .ok (.iaload, 1) := by decide +kernel
theorem dX11_alterRow_32 : decode cX11_alterRow 32 = .ok (.istore 5, 2) := by decide +kernel
theorem dX11_alterRow_34 : decode cX11_alterRow 34 = .ok (.aload_n 0, 1) := by decide +kernel
theorem dX11_alterRow_35 : decode cX11_alterRow 35 = .ok (.getfield 75, 3) := by decide +kernel
theorem dX11_alterRow_38 : decode cX11_alterRow 38 = .ok (.getfield 293, 3) := by decide +kernel
theorem dX11_alterRow_41 : decode cX11_alterRow 41 = .ok (.iload 4, 2) := by decide +kernel
theorem dX11_alterRow_43 : decode cX11_alterRow 43 = .ok (.iload_n 3, 1) := by decide +kernel
theorem dX11_alterRow_44 : decode cX11_alterRow 44 = .ok (.iastore, 1) := by decide +kernel
theorem dX11_alterRow_45 : decode cX11_alterRow 45 = .ok (.iload 5, 2) := by decide +kernel
theorem dX11_alterRow_47 : decode cX11_alterRow 47 = .ok (.ireturn, 1) := by decide +kernel
theorem dX11_judge_0 : decode cX11_judge 0 = .ok (.aload_n 0, 1) := by decide +kernel
theorem dX11_judge_1 : decode cX11_judge 1 = .ok (.getfield 43, 3) := by decide +kernel
theorem dX11_judge_4 : decode cX11_judge 4 = .ok (.aload_n 0, 1) := by decide +kernel
theorem dX11_judge_5 : decode cX11_judge 5 = .ok (.getfield 10, 3) := by decide +kernel
theorem dX11_judge_8 : decode cX11_judge 8 = .ok (.iconst 0, 1) := by decide +kernel
theorem dX11_judge_9 : decode cX11_judge 9 = .ok (.invokevirtual 208, 3) := by decide +kernel
theorem dX11_judge_12 : decode cX11_judge 12 = .ok (.aload_n 0, 1) := by decide +kernel
theorem dX11_judge_13 : decode cX11_judge 13 = .ok (.getfield 75, 3) := by decide +kernel
theorem dX11_judge_16 : decode cX11_judge 16 = .ok (.aload_n 0, 1) := by decide +kernel
theorem dX11_judge_17 : decode cX11_judge 17 = .ok (.getfield 10, 3) := by decide +kernel
theorem dX11_judge_20 : decode cX11_judge 20 = .ok (.getfield 130, 3) := by decide +kernel
theorem dX11_judge_23 : decode cX11_judge 23 = .ok (.invokevirtual 296, 3) := by decide +kernel
theorem dX11_judge_26 : decode cX11_judge 26 = .ok (.ireturn, 1) := by decide +kernel
theorem dX11_sheet_0 : decode cX11_sheet 0 = .ok (.iload_n 1, 1) := by decide +kernel
theorem dX11_sheet_1 : decode cX11_sheet 1 = .ok (.invokestatic 299, 3) := by decide +kernel
theorem dX11_sheet_4 : decode cX11_sheet 4 = .ok (.ifCond .eq 12, 3) := by decide +kernel
theorem dX11_sheet_7 : decode cX11_sheet 7 = .ok (.iload_n 2, 1) := by decide +kernel
theorem dX11_sheet_8 : decode cX11_sheet 8 = .ok (.iconst (-1), 1) := by decide +kernel
theorem dX11_sheet_9 : decode cX11_sheet 9 = .ok (.iconst 3, 1) := by decide +kernel
theorem dX11_sheet_10 : decode cX11_sheet 10 = .ok (.invokestatic 100, 3) := by decide +kernel
theorem dX11_sheet_13 : decode cX11_sheet 13 = .ok (.ifCond .ne 5, 3) := by decide +kernel
theorem dX11_sheet_16 : decode cX11_sheet 16 = .ok (.iconst (-1), 1) := by decide +kernel
theorem dX11_sheet_17 : decode cX11_sheet 17 = .ok (.ireturn, 1) := by decide +kernel
theorem dX11_sheet_18 : decode cX11_sheet 18 = .ok (.iload_n 2, 1) := by decide +kernel
theorem dX11_sheet_19 : decode cX11_sheet 19 = .ok (.iconst (-1), 1) := by decide +kernel
theorem dX11_sheet_20 : decode cX11_sheet 20 = .ok (.if_icmp .eq 11, 3) := by decide +kernel
theorem dX11_sheet_23 : decode cX11_sheet 23 = .ok (.iload_n 3, 1) := by decide +kernel
theorem dX11_sheet_24 : decode cX11_sheet 24 = .ok (.bipush 40, 2) := by decide +kernel
theorem dX11_sheet_26 : decode cX11_sheet 26 = .ok (.if_icmp .le 5, 3) := by decide +kernel
theorem dX11_sheet_29 : decode cX11_sheet 29 = .ok (.iconst (-1), 1) := by decide +kernel
theorem dX11_sheet_30 : decode cX11_sheet 30 = .ok (.ireturn, 1) := by decide +kernel
theorem dX11_sheet_31 : decode cX11_sheet 31 = .ok (.iload_n 2, 1) := by decide +kernel
theorem dX11_sheet_32 : decode cX11_sheet 32 = .ok (.iconst (-1), 1) := by decide +kernel
theorem dX11_sheet_33 : decode cX11_sheet 33 = .ok (.if_icmp .eq 10, 3) := by decide +kernel
theorem dX11_sheet_36 : decode cX11_sheet 36 = .ok (.iload_n 3, 1) := by decide +kernel
theorem dX11_sheet_37 : decode cX11_sheet 37 = .ok (.ifCond .ge 6, 3) := by decide +kernel
theorem dX11_sheet_40 : decode cX11_sheet 40 = .ok (.bipush (-14), 2) := by decide +kernel
theorem dX11_sheet_42 : decode cX11_sheet 42 = .ok (.ireturn, 1) := by decide +kernel
theorem dX11_sheet_43 : decode cX11_sheet 43 = .ok (.aload_n 0, 1) := by decide +kernel
theorem dX11_sheet_44 : decode cX11_sheet 44 = .ok (.getfield 89, 3) := by decide +kernel
theorem dX11_sheet_47 : decode cX11_sheet 47 = .ok (.iload_n 1, 1) := by decide +kernel
theorem dX11_sheet_48 : decode cX11_sheet 48 = .ok (.iload_n 2, 1) := by decide +kernel
theorem dX11_sheet_49 : decode cX11_sheet 49 = .ok (.iload_n 3, 1) := by decide +kernel
theorem dX11_sheet_50 : decode cX11_sheet 50 = .ok (.invokevirtual 302, 3) := by decide +kernel
theorem dX11_sheet_53 : decode cX11_sheet 53 = .ok (.iconst 1, 1) := by decide +kernel
theorem dX11_sheet_54 : decode cX11_sheet 54 = .ok (.ireturn, 1) := by decide +kernel
theorem dX11_put_0 : decode cX11_put 0 = .ok (.iload_n 1, 1) := by decide +kernel
theorem dX11_put_1 : decode cX11_put 1 = .ok (.invokestatic 299, 3) := by decide +kernel
theorem dX11_put_4 : decode cX11_put 4 = .ok (.ifCond .ne 5, 3) := by decide +kernel
theorem dX11_put_7 : decode cX11_put 7 = .ok (.iconst (-1), 1) := by decide +kernel
theorem dX11_put_8 : decode cX11_put 8 = .ok (.ireturn, 1) := by decide +kernel
theorem dX11_put_9 : decode cX11_put 9 = .ok (.aload_n 0, 1) := by decide +kernel
theorem dX11_put_10 : decode cX11_put 10 = .ok (.getfield 89, 3) := by decide +kernel
theorem dX11_put_13 : decode cX11_put 13 = .ok (.getfield 306, 3) := by decide +kernel
theorem dX11_put_16 : decode cX11_put 16 = .ok (.iload_n 1, 1) := by decide +kernel
theorem dX11_put_17 : decode cX11_put 17 = .ok (.iaload, 1) := by decide +kernel
theorem dX11_put_18 : decode cX11_put 18 = .ok (.iconst (-1), 1) := by decide +kernel
theorem dX11_put_19 : decode cX11_put 19 = .ok (.if_icmp .ne 6, 3) := by decide +kernel
theorem dX11_put_22 : decode cX11_put 22 = .ok (.bipush (-11), 2) := by decide +kernel
theorem dX11_put_24 : decode cX11_put 24 = .ok (.ireturn, 1) := by decide +kernel
theorem dX11_put_25 : decode cX11_put 25 = .ok (.iload_n 2, 1) := by decide +kernel
theorem dX11_put_26 : decode cX11_put 26 = .ok (.iconst 0, 1) := by decide +kernel
theorem dX11_put_27 : decode cX11_put 27 = .ok (.aload_n 0, 1) := by decide +kernel
theorem dX11_put_28 : decode cX11_put 28 = .ok (.getfield 89, 3) := by decide +kernel
theorem dX11_put_31 : decode cX11_put 31 = .ok (.getfield 309, 3) := by decide +kernel
theorem dX11_put_34 : decode cX11_put 34 = .ok (.iload_n 1, 1) := by decide +kernel
theorem dX11_put_35 : decode cX11_put 35 = .ok (.iaload, 1) := by decide +kernel
theorem dX11_put_36 : decode cX11_put 36 = .ok (.iconst 1, 1) := by decide +kernel
theorem dX11_put_37 : decode cX11_put 37 = .ok (.isub, 1) := by decide +kernel
theorem dX11_put_38 : decode cX11_put 38 = .ok (.invokestatic 100, 3) := by decide +kernel
theorem dX11_put_41 : decode cX11_put 41 = .ok (.ifCond .ne 6, 3) := by decide +kernel
theorem dX11_put_44 : decode cX11_put 44 = .ok (.bipush (-12), 2) := by decide +kernel
theorem dX11_put_46 : decode cX11_put 46 = .ok (.ireturn, 1) := by decide +kernel
theorem dX11_put_47 : decode cX11_put 47 = .ok (.aload_n 0, 1) := by decide +kernel
theorem dX11_put_48 : decode cX11_put 48 = .ok (.getfield 89, 3) := by decide +kernel
theorem dX11_put_51 : decode cX11_put 51 = .ok (.getfield 312, 3) := by decide +kernel
theorem dX11_put_54 : decode cX11_put 54 = .ok (.iload_n 1, 1) := by decide +kernel
theorem dX11_put_55 : decode cX11_put 55 = .ok (.bipush 40, 2) := by decide +kernel
theorem dX11_put_57 : decode cX11_put 57 = .ok (.imul, 1) := by decide +kernel
theorem dX11_put_58 : decode cX11_put 58 = .ok (.iload_n 2, 1) := by decide +kernel
theorem dX11_put_59 : decode cX11_put 59 = .ok (.iadd, 1) := by decide +kernel
theorem dX11_put_60 : decode cX11_put 60 = .ok (.iload_n 3, 1) := by decide +kernel
theorem dX11_put_61 : decode cX11_put 61 = .ok (.aload_n 0, 1) := by decide +kernel
theorem dX11_put_62 : decode cX11_put 62 = .ok (.getfield 89, 3) := by decide +kernel
theorem dX11_put_65 : decode cX11_put 65 = .ok (.getfield 306, 3) := by decide +kernel
theorem dX11_put_68 : decode cX11_put 68 = .ok (.iload_n 1, 1) := by decide +kernel
theorem dX11_put_69 : decode cX11_put 69 = .ok (.iaload, 1) := by decide +kernel
theorem dX11_put_70 : decode cX11_put 70 = .ok (.invokestatic 315, 3) := by decide +kernel
theorem dX11_put_73 : decode cX11_put 73 = .ok (.iastore, 1) := by decide +kernel
theorem dX11_put_74 : decode cX11_put 74 = .ok (.iconst 1, 1) := by decide +kernel
theorem dX11_put_75 : decode cX11_put 75 = .ok (.ireturn, 1) := by decide +kernel
theorem dX11_item_0 : decode cX11_item 0 = .ok (.iload_n 1, 1) := by decide +kernel
theorem dX11_item_1 : decode cX11_item 1 = .ok (.invokestatic 299, 3) := by decide +kernel
theorem dX11_item_4 : decode cX11_item 4 = .ok (.ifCond .eq 12, 3) := by decide +kernel
theorem dX11_item_7 : decode cX11_item 7 = .ok (.iload_n 2, 1) := by decide +kernel
theorem dX11_item_8 : decode cX11_item 8 = .ok (.iconst 0, 1) := by decide +kernel
theorem dX11_item_9 : decode cX11_item 9 = .ok (.iconst 3, 1) := by decide +kernel
theorem dX11_item_10 : decode cX11_item 10 = .ok (.invokestatic 100, 3) := by decide +kernel
theorem dX11_item_13 : decode cX11_item 13 = .ok (.ifCond .ne 5, 3) := by decide +kernel
theorem dX11_item_16 : decode cX11_item 16 = .ok (.iconst (-1), 1) := by decide +kernel
theorem dX11_item_17 : decode cX11_item 17 = .ok (.ireturn, 1) := by decide +kernel
theorem dX11_item_18 : decode cX11_item 18 = .ok (.aload_n 0, 1) := by decide +kernel
theorem dX11_item_19 : decode cX11_item 19 = .ok (.getfield 89, 3) := by decide +kernel
theorem dX11_item_22 : decode cX11_item 22 = .ok (.getfield 306, 3) := by decide +kernel
theorem dX11_item_25 : decode cX11_item 25 = .ok (.iload_n 1, 1) := by decide +kernel
theorem dX11_item_26 : decode cX11_item 26 = .ok (.iaload, 1) := by decide +kernel
theorem dX11_item_27 : decode cX11_item 27 = .ok (.iconst (-1), 1) := by decide +kernel
theorem dX11_item_28 : decode cX11_item 28 = .ok (.if_icmp .ne 6, 3) := by decide +kernel
theorem dX11_item_31 : decode cX11_item 31 = .ok (.bipush (-11), 2) := by decide +kernel
theorem dX11_item_33 : decode cX11_item 33 = .ok (.ireturn, 1) := by decide +kernel
theorem dX11_item_34 : decode cX11_item 34 = .ok (.aload_n 0, 1) := by decide +kernel
theorem dX11_item_35 : decode cX11_item 35 = .ok (.getfield 89, 3) := by decide +kernel
theorem dX11_item_38 : decode cX11_item 38 = .ok (.getfield 306, 3) := by decide +kernel
theorem dX11_item_41 : decode cX11_item 41 = .ok (.iload_n 1, 1) := by decide +kernel
theorem dX11_item_42 : decode cX11_item 42 = .ok (.iaload, 1) := by decide +kernel
theorem dX11_item_43 : decode cX11_item 43 = .ok (.iload_n 2, 1) := by decide +kernel
theorem dX11_item_44 : decode cX11_item 44 = .ok (.if_icmp .eq 6, 3) := by decide +kernel
theorem dX11_item_47 : decode cX11_item 47 = .ok (.bipush (-13), 2) := by decide +kernel
theorem dX11_item_49 : decode cX11_item 49 = .ok (.ireturn, 1) := by decide +kernel
theorem dX11_item_50 : decode cX11_item 50 = .ok (.iload_n 3, 1) := by decide +kernel
theorem dX11_item_51 : decode cX11_item 51 = .ok (.iconst 0, 1) := by decide +kernel
theorem dX11_item_52 : decode cX11_item 52 = .ok (.aload_n 0, 1) := by decide +kernel
theorem dX11_item_53 : decode cX11_item 53 = .ok (.getfield 89, 3) := by decide +kernel
theorem dX11_item_56 : decode cX11_item 56 = .ok (.getfield 309, 3) := by decide +kernel
theorem dX11_item_59 : decode cX11_item 59 = .ok (.iload_n 1, 1) := by decide +kernel
theorem dX11_item_60 : decode cX11_item 60 = .ok (.iaload, 1) := by decide +kernel
theorem dX11_item_61 : decode cX11_item 61 = .ok (.iconst 1, 1) := by decide +kernel
theorem dX11_item_62 : decode cX11_item 62 = .ok (.isub, 1) := by decide +kernel
theorem dX11_item_63 : decode cX11_item 63 = .ok (.invokestatic 100, 3) := by decide +kernel
theorem dX11_item_66 : decode cX11_item 66 = .ok (.ifCond .ne 6, 3) := by decide +kernel
theorem dX11_item_69 : decode cX11_item 69 = .ok (.bipush (-12), 2) := by decide +kernel
theorem dX11_item_71 : decode cX11_item 71 = .ok (.ireturn, 1) := by decide +kernel
theorem dX11_item_72 : decode cX11_item 72 = .ok (.aload_n 0, 1) := by decide +kernel
theorem dX11_item_73 : decode cX11_item 73 = .ok (.getfield 89, 3) := by decide +kernel
theorem dX11_item_76 : decode cX11_item 76 = .ok (.getfield 312, 3) := by decide +kernel
theorem dX11_item_79 : decode cX11_item 79 = .ok (.iload_n 1, 1) := by decide +kernel
theorem dX11_item_80 : decode cX11_item 80 = .ok (.bipush 40, 2) := by decide +kernel
theorem dX11_item_82 : decode cX11_item 82 = .ok (.imul, 1) := by decide +kernel
theorem dX11_item_83 : decode cX11_item 83 = .ok (.iload_n 3, 1) := by decide +kernel
theorem dX11_item_84 : decode cX11_item 84 = .ok (.iadd, 1) := by decide +kernel
theorem dX11_item_85 : decode cX11_item 85 = .ok (.iaload, 1) := by decide +kernel
theorem dX11_item_86 : decode cX11_item 86 = .ok (.ireturn, 1) := by decide +kernel
theorem dX11_shelf_0 : decode cX11_shelf 0 = .ok (.iload_n 1, 1) := by decide +kernel
theorem dX11_shelf_1 : decode cX11_shelf 1 = .ok (.invokestatic 299, 3) := by decide +kernel
theorem dX11_shelf_4 : decode cX11_shelf 4 = .ok (.ifCond .ne 5, 3) := by decide +kernel
theorem dX11_shelf_7 : decode cX11_shelf 7 = .ok (.iconst (-1), 1) := by decide +kernel
theorem dX11_shelf_8 : decode cX11_shelf 8 = .ok (.ireturn, 1) := by decide +kernel
theorem dX11_shelf_9 : decode cX11_shelf 9 = .ok (.iload_n 2, 1) := by decide +kernel
theorem dX11_shelf_10 : decode cX11_shelf 10 = .ok (.tableswitch 83 0 2 #[26, 53, 73], 26) := by decide +kernel
theorem dX11_shelf_36 : decode cX11_shelf 36 = .ok (.aload_n 0, 1) := by decide +kernel
theorem dX11_shelf_37 : decode cX11_shelf 37 = .ok (.getfield 10, 3) := by decide +kernel
theorem dX11_shelf_40 : decode cX11_shelf 40 = .ok (.getfield 130, 3) := by decide +kernel
theorem dX11_shelf_43 : decode cX11_shelf 43 = .ok (.iload_n 3, 1) := by decide +kernel
theorem dX11_shelf_44 : decode cX11_shelf 44 = .ok (.invokevirtual 140, 3) := by decide +kernel
theorem dX11_shelf_47 : decode cX11_shelf 47 = .ok (.ifCond .ne 5, 3) := by decide +kernel
theorem dX11_shelf_50 : decode cX11_shelf 50 = .ok (.iconst (-1), 1) := by decide +kernel
theorem dX11_shelf_51 : decode cX11_shelf 51 = .ok (.ireturn, 1) := by decide +kernel
theorem dX11_shelf_52 : decode cX11_shelf 52 = .ok (.aload_n 0, 1) := by decide +kernel
theorem dX11_shelf_53 : decode cX11_shelf 53 = .ok (.getfield 89, 3) := by decide +kernel
theorem dX11_shelf_56 : decode cX11_shelf 56 = .ok (.iload_n 1, 1) := by decide +kernel
theorem dX11_shelf_57 : decode cX11_shelf 57 = .ok (.iload_n 3, 1) := by decide +kernel
theorem dX11_shelf_58 : decode cX11_shelf 58 = .ok (.invokevirtual 319, 3) := by decide +kernel
theorem dX11_shelf_61 : decode cX11_shelf 61 = .ok (.iconst 1, 1) := by decide +kernel
theorem dX11_shelf_62 : decode cX11_shelf 62 = .ok (.ireturn, 1) := by decide +kernel
theorem dX11_shelf_63 : decode cX11_shelf 63 = .ok (.iload_n 3, 1) := by decide +kernel
theorem dX11_shelf_64 : decode cX11_shelf 64 = .ok (.invokestatic 299, 3) := by decide +kernel
theorem dX11_shelf_67 : decode cX11_shelf 67 = .ok (.ifCond .ne 5, 3) := by decide +kernel
theorem dX11_shelf_70 : decode cX11_shelf 70 = .ok (.iconst (-1), 1) := by decide +kernel
theorem dX11_shelf_71 : decode cX11_shelf 71 = .ok (.ireturn, 1) := by decide +kernel
theorem dX11_shelf_72 : decode cX11_shelf 72 = .ok (.aload_n 0, 1) := by decide +kernel
theorem dX11_shelf_73 : decode cX11_shelf 73 = .ok (.getfield 89, 3) := by decide +kernel
theorem dX11_shelf_76 : decode cX11_shelf 76 = .ok (.iload_n 1, 1) := by decide +kernel
theorem dX11_shelf_77 : decode cX11_shelf 77 = .ok (.iload_n 3, 1) := by decide +kernel
theorem dX11_shelf_78 : decode cX11_shelf 78 = .ok (.invokevirtual 323, 3) := by decide +kernel
theorem dX11_shelf_81 : decode cX11_shelf 81 = .ok (.iconst 1, 1) := by decide +kernel
theorem dX11_shelf_82 : decode cX11_shelf 82 = .ok (.ireturn, 1) := by decide +kernel
theorem dX11_shelf_83 : decode cX11_shelf 83 = .ok (.aload_n 0, 1) := by decide +kernel
theorem dX11_shelf_84 : decode cX11_shelf 84 = .ok (.getfield 89, 3) := by decide +kernel
theorem dX11_shelf_87 : decode cX11_shelf 87 = .ok (.iload_n 1, 1) := by decide +kernel
theorem dX11_shelf_88 : decode cX11_shelf 88 = .ok (.invokevirtual 326, 3) := by decide +kernel
theorem dX11_shelf_91 : decode cX11_shelf 91 = .ok (.iconst 1, 1) := by decide +kernel
theorem dX11_shelf_92 : decode cX11_shelf 92 = .ok (.ireturn, 1) := by decide +kernel
theorem dX11_shelf_93 : decode cX11_shelf 93 = .ok (.iconst (-1), 1) := by decide +kernel
theorem dX11_shelf_94 : decode cX11_shelf 94 = .ok (.ireturn, 1) := by decide +kernel
theorem dX11_taken_0 : decode cX11_taken 0 = .ok (.iload_n 2, 1) := by decide +kernel
theorem dX11_taken_1 : decode cX11_taken 1 = .ok (.bipush 10, 2) := by decide +kernel
theorem dX11_taken_3 : decode cX11_taken 3 = .ok (.bipush 13, 2) := by decide +kernel
theorem dX11_taken_5 : decode cX11_taken 5 = .ok (.invokestatic 100, 3) := by decide +kernel
theorem dX11_taken_8 : decode cX11_taken 8 = .ok (.istore_n 3, 1) := by decide +kernel
theorem dX11_taken_9 : decode cX11_taken 9 = .ok (.iload_n 1, 1) := by decide +kernel
theorem dX11_taken_10 : decode cX11_taken 10 = .ok (.invokestatic 299, 3) := by decide +kernel
theorem dX11_taken_13 : decode cX11_taken 13 = .ok (.ifCond .eq 16, 3) := by decide +kernel
theorem dX11_taken_16 : decode cX11_taken 16 = .ok (.iload_n 3, 1) := by decide +kernel
theorem dX11_taken_17 : decode cX11_taken 17 = .ok (.ifCond .ne 14, 3) := by decide +kernel
theorem dX11_taken_20 : decode cX11_taken 20 = .ok (.iload_n 2, 1) := by decide +kernel
theorem dX11_taken_21 : decode cX11_taken 21 = .ok (.iconst 0, 1) := by decide +kernel
theorem dX11_taken_22 : decode cX11_taken 22 = .ok (.iconst 5, 1) := by decide +kernel
theorem dX11_taken_23 : decode cX11_taken 23 = .ok (.invokestatic 100, 3) := by decide +kernel
theorem dX11_taken_26 : decode cX11_taken 26 = .ok (.ifCond .ne 5, 3) := by decide +kernel
theorem dX11_taken_29 : decode cX11_taken 29 = .ok (.iconst (-1), 1) := by decide +kernel
theorem dX11_taken_30 : decode cX11_taken 30 = .ok (.ireturn, 1) := by decide +kernel
theorem dX11_taken_31 : decode cX11_taken 31 = .ok (.aload_n 0, 1) := by decide +kernel
theorem dX11_taken_32 : decode cX11_taken 32 = .ok (.getfield 89, 3) := by decide +kernel
theorem dX11_taken_35 : decode cX11_taken 35 = .ok (.iload_n 1, 1) := by decide +kernel
theorem dX11_taken_36 : decode cX11_taken 36 = .ok (.invokevirtual 329, 3) := by decide +kernel
theorem dX11_taken_39 : decode cX11_taken 39 = .ok (.istore 4, 2) := by decide +kernel
theorem dX11_taken_41 : decode cX11_taken 41 = .ok (.aload_n 0, 1) := by decide +kernel
theorem dX11_taken_42 : decode cX11_taken 42 = .ok (.getfield 89, 3) := by decide +kernel
theorem dX11_taken_45 : decode cX11_taken 45 = .ok (.iload_n 1, 1) := by decide +kernel
theorem dX11_taken_46 : decode cX11_taken 46 = .ok (.invokevirtual 332, 3) := by decide +kernel
theorem dX11_taken_49 : decode cX11_taken 49 = .ok (.ifCond .eq 38, 3) := by decide +kernel
theorem dX11_taken_52 : decode cX11_taken 52 = .ok (.iload_n 3, 1) := by decide +kernel
theorem dX11_taken_53 : decode cX11_taken 53 = .ok (.ifCond .eq 31, 3) := by decide +kernel
theorem dX11_taken_56 : decode cX11_taken 56 = .ok (.aload_n 0, 1) := by decide +kernel
theorem dX11_taken_57 : decode cX11_taken 57 = .ok (.getfield 89, 3) := by decide +kernel
theorem dX11_taken_60 : decode cX11_taken 60 = .ok (.getfield 335, 3) := by decide +kernel
theorem dX11_taken_63 : decode cX11_taken 63 = .ok (.iload_n 1, 1) := by decide +kernel
theorem dX11_taken_64 : decode cX11_taken 64 = .ok (.iaload, 1) := by decide +kernel
theorem dX11_taken_65 : decode cX11_taken 65 = .ok (.iload_n 2, 1) := by decide +kernel
theorem dX11_taken_66 : decode cX11_taken 66 = .ok (.bipush 10, 2) := by decide +kernel
theorem dX11_taken_68 : decode cX11_taken 68 = .ok (.isub, 1) := by decide +kernel
theorem dX11_taken_69 : decode cX11_taken 69 = .ok (.if_icmp .ne 15, 3) := by decide +kernel
theorem dX11_taken_72 : decode cX11_taken 72 = .ok (.aload_n 0, 1) := by decide +kernel
theorem dX11_taken_73 : decode cX11_taken 73 = .ok (.getfield 89, 3) := by decide +kernel
theorem dX11_taken_76 : decode cX11_taken 76 = .ok (.getfield 338, 3) := by decide +kernel
theorem dX11_taken_79 : decode cX11_taken 79 = .ok (.iload_n 1, 1) := by decide +kernel
theorem dX11_taken_80 : decode cX11_taken 80 = .ok (.iaload, 1) := by decide +kernel
theorem dX11_taken_81 : decode cX11_taken 81 = .ok (.goto 5, 3) := by decide +kernel
theorem dX11_taken_84 : decode cX11_taken 84 = .ok (.bipush (-13), 2) := by decide +kernel
theorem dX11_taken_86 : decode cX11_taken 86 = .ok (.ireturn, 1) := by decide +kernel
theorem dX11_taken_87 : decode cX11_taken 87 = .ok (.aload_n 0, 1) := by decide +kernel
theorem dX11_taken_88 : decode cX11_taken 88 = .ok (.getfield 10, 3) := by decide +kernel
theorem dX11_taken_91 : decode cX11_taken 91 = .ok (.getfield 130, 3) := by decide +kernel
theorem dX11_taken_94 : decode cX11_taken 94 = .ok (.iload 4, 2) := by decide +kernel
theorem dX11_taken_96 : decode cX11_taken 96 = .ok (.invokevirtual 140, 3) := by decide +kernel
theorem dX11_taken_99 : decode cX11_taken 99 = .ok (.ifCond .ne 6, 3) := by decide +kernel
theorem dX11_taken_102 : decode cX11_taken 102 = .ok (.bipush (-11), 2) := by decide +kernel
theorem dX11_taken_104 : decode cX11_taken 104 = .ok (.ireturn, 1) := by decide +kernel
theorem dX11_taken_105 : decode cX11_taken 105 = .ok (.iload_n 3, 1) := by decide +kernel
theorem dX11_taken_106 : decode cX11_taken 106 = .ok (.ifCond .ne 28, 3) := by decide +kernel
theorem dX11_taken_109 : decode cX11_taken 109 = .ok (.aload_n 0, 1) := by decide +kernel
theorem dX11_taken_110 : decode cX11_taken 110 = .ok (.getfield 10, 3) := by decide +kernel
theorem dX11_taken_113 : decode cX11_taken 113 = .ok (.getfield 130, 3) := by decide +kernel
theorem dX11_taken_116 : decode cX11_taken 116 = .ok (.getfield 144, 3) := by decide +kernel
theorem dX11_taken_119 : decode cX11_taken 119 = .ok (.iload 4, 2) := by decide +kernel
theorem dX11_taken_121 : decode cX11_taken 121 = .ok (.iaload, 1) := by decide +kernel
theorem dX11_taken_122 : decode cX11_taken 122 = .ok (.iload_n 2, 1) := by decide +kernel
theorem dX11_taken_123 : decode cX11_taken 123 = .ok (.invokestatic 341, 3) := by decide +kernel
theorem dX11_taken_126 : decode cX11_taken 126 = .ok (.ifCond .eq 8, 3) := by decide +kernel
theorem dX11_taken_129 : decode cX11_taken 129 = .ok (.iload 4, 2) := by decide +kernel
theorem dX11_taken_131 : decode cX11_taken 131 = .ok (.goto 5, 3) := by decide +kernel
theorem dX11_taken_134 : decode cX11_taken 134 = .ok (.bipush (-13), 2) := by decide +kernel
theorem dX11_taken_136 : decode cX11_taken 136 = .ok (.ireturn, 1) := by decide +kernel
theorem dX11_act_0 : decode cX11_act 0 = .ok (.aload_n 0, 1) := by decide +kernel
theorem dX11_act_1 : decode cX11_act 1 = .ok (.getfield 96, 3) := by decide +kernel
theorem dX11_act_4 : decode cX11_act 4 = .ok (.invokevirtual 344, 3) := by decide +kernel
theorem dX11_act_7 : decode cX11_act 7 = .ok (.iload_n 1, 1) := by decide +kernel
theorem dX11_act_8 : decode cX11_act 8 = .ok (.invokestatic 299, 3) := by decide +kernel
theorem dX11_act_11 : decode cX11_act 11 = .ok (.ifCond .eq 12, 3) := by decide +kernel
theorem dX11_act_14 : decode cX11_act 14 = .ok (.iload_n 2, 1) := by decide +kernel
theorem dX11_act_15 : decode cX11_act 15 = .ok (.iconst 0, 1) := by decide +kernel
theorem dX11_act_16 : decode cX11_act 16 = .ok (.iconst 3, 1) := by decide +kernel
theorem dX11_act_17 : decode cX11_act 17 = .ok (.invokestatic 100, 3) := by decide +kernel
theorem dX11_act_20 : decode cX11_act 20 = .ok (.ifCond .ne 5, 3) := by decide +kernel
theorem dX11_act_23 : decode cX11_act 23 = .ok (.iconst 0, 1) := by decide +kernel
theorem dX11_act_24 : decode cX11_act 24 = .ok (.ireturn, 1) := by decide +kernel
theorem dX11_act_25 : decode cX11_act 25 = .ok (.aload_n 0, 1) := by decide +kernel
theorem dX11_act_26 : decode cX11_act 26 = .ok (.getfield 89, 3) := by decide +kernel
theorem dX11_act_29 : decode cX11_act 29 = .ok (.iload_n 1, 1) := by decide +kernel
theorem dX11_act_30 : decode cX11_act 30 = .ok (.invokevirtual 329, 3) := by decide +kernel
theorem dX11_act_33 : decode cX11_act 33 = .ok (.istore 4, 2) := by decide +kernel
theorem dX11_act_35 : decode cX11_act 35 = .ok (.aload_n 0, 1) := by decide +kernel
theorem dX11_act_36 : decode cX11_act 36 = .ok (.getfield 10, 3) := by decide +kernel
theorem dX11_act_39 : decode cX11_act 39 = .ok (.getfield 130, 3) := by decide +kernel
theorem dX11_act_42 : decode cX11_act 42 = .ok (.iload 4, 2) := by decide +kernel
theorem dX11_act_44 : decode cX11_act 44 = .ok (.invokevirtual 140, 3) := by decide +kernel
theorem dX11_act_47 : decode cX11_act 47 = .ok (.ifCond .ne 5, 3) := by decide +kernel
theorem dX11_act_50 : decode cX11_act 50 = .ok (.iconst 0, 1) := by decide +kernel
theorem dX11_act_51 : decode cX11_act 51 = .ok (.ireturn, 1) := by decide +kernel
theorem dX11_act_52 : decode cX11_act 52 = .ok (.aload_n 0, 1) := by decide +kernel
theorem dX11_act_53 : decode cX11_act 53 = .ok (.getfield 96, 3) := by decide +kernel
theorem dX11_act_56 : decode cX11_act 56 = .ok (.aload_n 0, 1) := by decide +kernel
theorem dX11_act_57 : decode cX11_act 57 = .ok (.getfield 10, 3) := by decide +kernel
theorem dX11_act_60 : decode cX11_act 60 = .ok (.getfield 130, 3) := by decide +kernel
theorem dX11_act_63 : decode cX11_act 63 = .ok (.getfield 144, 3) := by decide +kernel
theorem dX11_act_66 : decode cX11_act 66 = .ok (.iload 4, 2) := by decide +kernel
theorem dX11_act_68 : decode cX11_act 68 = .ok (.iaload, 1) := by decide +kernel
theorem dX11_act_69 : decode cX11_act 69 = .ok (.iload 4, 2) := by decide +kernel
theorem dX11_act_71 : decode cX11_act 71 = .ok (.aload_n 0, 1) := by decide +kernel
theorem dX11_act_72 : decode cX11_act 72 = .ok (.getfield 10, 3) := by decide +kernel
theorem dX11_act_75 : decode cX11_act 75 = .ok (.getfield 130, 3) := by decide +kernel
theorem dX11_act_78 : decode cX11_act 78 = .ok (.getfield 156, 3) := by decide +kernel
theorem dX11_act_81 : decode cX11_act 81 = .ok (.iload 4, 2) := by decide +kernel
theorem dX11_act_83 : decode cX11_act 83 = .ok (.iaload, 1) := by decide +kernel
theorem dX11_act_84 : decode cX11_act 84 = .ok (.invokevirtual 347, 3) := by decide +kernel
theorem dX11_act_87 : decode cX11_act 87 = .ok (.aload_n 0, 1) := by decide +kernel
theorem dX11_act_88 : decode cX11_act 88 = .ok (.getfield 96, 3) := by decide +kernel
theorem dX11_act_91 : decode cX11_act 91 = .ok (.iload_n 2, 1) := by decide +kernel
theorem dX11_act_92 : decode cX11_act 92 = .ok (.iload_n 3, 1) := by decide +kernel
theorem dX11_act_93 : decode cX11_act 93 = .ok (.invokevirtual 350, 3) := by decide +kernel
theorem dX11_act_96 : decode cX11_act 96 = .ok (.ireturn, 1) := by decide +kernel
theorem dX11_trace_0 : decode cX11_trace 0 = .ok (.iload_n 1, 1) := by decide +kernel
theorem dX11_trace_1 : decode cX11_trace 1 = .ok (.iconst 0, 1) := by decide +kernel
theorem dX11_trace_2 : decode cX11_trace 2 = .ok (.aload_n 0, 1) := by decide +kernel
theorem dX11_trace_3 : decode cX11_trace 3 = .ok (.getfield 96, 3) := by decide +kernel
theorem dX11_trace_6 : decode cX11_trace 6 = .ok (.getfield 353, 3) := by decide +kernel
theorem dX11_trace_9 : decode cX11_trace 9 = .ok (.iconst 1, 1) := by decide +kernel
theorem dX11_trace_10 : decode cX11_trace 10 = .ok (.isub, 1) := by decide +kernel
theorem dX11_trace_11 : decode cX11_trace 11 = .ok (.invokestatic 100, 3) := by decide +kernel
theorem dX11_trace_14 : decode cX11_trace 14 = .ok (.ifCond .ne 6, 3) := by decide +kernel
theorem dX11_trace_17 : decode cX11_trace 17 = .ok (.bipush (-3), 2) := by decide +kernel
theorem dX11_trace_19 : decode cX11_trace 19 = .ok (.ireturn, 1) := by decide +kernel
theorem dX11_trace_20 : decode cX11_trace 20 = .ok (.aload_n 0, 1) := by decide +kernel
theorem dX11_trace_21 : decode cX11_trace 21 = .ok (.getfield 96, 3) := by decide +kernel
theorem dX11_trace_24 : decode cX11_trace 24 = .ok (.getfield 356, 3) := by decide +kernel
theorem dX11_trace_27 : decode cX11_trace 27 = .ok (.iload_n 1, 1) := by decide +kernel
theorem dX11_trace_28 : decode cX11_trace 28 = .ok (.iaload, 1) := by decide +kernel
theorem dX11_trace_29 : decode cX11_trace 29 = .ok (.ireturn, 1) := by decide +kernel
theorem dX11_many_0 : decode cX11_many 0 = .ok (.iload_n 1, 1) := by decide +kernel
theorem dX11_many_1 : decode cX11_many 1 = .ok (.tableswitch 78 0 4 #[35, 46, 54, 62, 70], 35) := by decide +kernel
theorem dX11_many_36 : decode cX11_many 36 = .ok (.aload_n 0, 1) := by decide +kernel
theorem dX11_many_37 : decode cX11_many 37 = .ok (.getfield 10, 3) := by decide +kernel
theorem dX11_many_40 : decode cX11_many 40 = .ok (.getfield 130, 3) := by decide +kernel
theorem dX11_many_43 : decode cX11_many 43 = .ok (.getfield 131, 3) := by decide +kernel
theorem dX11_many_46 : decode cX11_many 46 = .ok (.ireturn, 1) := by decide +kernel
theorem dX11_many_47 : decode cX11_many 47 = .ok (.aload_n 0, 1) := by decide +kernel
theorem dX11_many_48 : decode cX11_many 48 = .ok (.getfield 22, 3) := by decide +kernel
theorem dX11_many_51 : decode cX11_many 51 = .ok (.getfield 258, 3) := by decide +kernel
theorem dX11_many_54 : decode cX11_many 54 = .ok (.ireturn, 1) := by decide +kernel
theorem dX11_many_55 : decode cX11_many 55 = .ok (.aload_n 0, 1) := by decide +kernel
theorem dX11_many_56 : decode cX11_many 56 = .ok (.getfield 75, 3) := by decide +kernel
theorem dX11_many_59 : decode cX11_many 59 = .ok (.getfield 126, 3) := by decide +kernel
theorem dX11_many_62 : decode cX11_many 62 = .ok (.ireturn, 1) := by decide +kernel
theorem dX11_many_63 : decode cX11_many 63 = .ok (.aload_n 0, 1) := by decide +kernel
theorem dX11_many_64 : decode cX11_many 64 = .ok (.getfield 36, 3) := by decide +kernel
theorem dX11_many_67 : decode cX11_many 67 = .ok (.getfield 359, 3) := by decide +kernel
theorem dX11_many_70 : decode cX11_many 70 = .ok (.ireturn, 1) := by decide +kernel
theorem dX11_many_71 : decode cX11_many 71 = .ok (.aload_n 0, 1) := by decide +kernel
theorem dX11_many_72 : decode cX11_many 72 = .ok (.getfield 96, 3) := by decide +kernel
theorem dX11_many_75 : decode cX11_many 75 = .ok (.getfield 353, 3) := by decide +kernel
theorem dX11_many_78 : decode cX11_many 78 = .ok (.ireturn, 1) := by decide +kernel
theorem dX11_many_79 : decode cX11_many 79 = .ok (.iconst (-1), 1) := by decide +kernel
theorem dX11_many_80 : decode cX11_many 80 = .ok (.ireturn, 1) := by decide +kernel
theorem dX11_keep_0 : decode cX11_keep 0 = .ok (.aload_n 0, 1) := by decide +kernel
theorem dX11_keep_1 : decode cX11_keep 1 = .ok (.getfield 16, 3) := by decide +kernel
theorem dX11_keep_4 : decode cX11_keep 4 = .ok (.aload_n 0, 1) := by decide +kernel
theorem dX11_keep_5 : decode cX11_keep 5 = .ok (.getfield 10, 3) := by decide +kernel
theorem dX11_keep_8 : decode cX11_keep 8 = .ok (.invokevirtual 360, 3) := by decide +kernel
theorem dX11_keep_11 : decode cX11_keep 11 = .ok (.aload_n 0, 1) := by decide +kernel
theorem dX11_keep_12 : decode cX11_keep 12 = .ok (.getfield 26, 3) := by decide +kernel
theorem dX11_keep_15 : decode cX11_keep 15 = .ok (.aload_n 0, 1) := by decide +kernel
theorem dX11_keep_16 : decode cX11_keep 16 = .ok (.getfield 22, 3) := by decide +kernel
theorem dX11_keep_19 : decode cX11_keep 19 = .ok (.invokevirtual 363, 3) := by decide +kernel
theorem dX11_keep_22 : decode cX11_keep 22 = .ok (.aload_n 0, 1) := by decide +kernel
theorem dX11_keep_23 : decode cX11_keep 23 = .ok (.iconst 1, 1) := by decide +kernel
theorem dX11_keep_24 : decode cX11_keep 24 = .ok (.putfield 29, 3) := by decide +kernel
theorem dX11_keep_27 : decode cX11_keep 27 = .ok (.iconst 1, 1) := by decide +kernel
theorem dX11_keep_28 : decode cX11_keep 28 = .ok (.ireturn, 1) := by decide +kernel
theorem dX11_again_0 : decode cX11_again 0 = .ok (.aload_n 0, 1) := by decide +kernel
theorem dX11_again_1 : decode cX11_again 1 = .ok (.getfield 29, 3) := by decide +kernel
theorem dX11_again_4 : decode cX11_again 4 = .ok (.ifCond .ne 6, 3) := by decide +kernel
theorem dX11_again_7 : decode cX11_again 7 = .ok (.bipush (-3), 2) := by decide +kernel
theorem dX11_again_9 : decode cX11_again 9 = .ok (.ireturn, 1) := by decide +kernel
theorem dX11_again_10 : decode cX11_again 10 = .ok (.aload_n 0, 1) := by decide +kernel
theorem dX11_again_11 : decode cX11_again 11 = .ok (.getfield 10, 3) := by decide +kernel
theorem dX11_again_14 : decode cX11_again 14 = .ok (.aload_n 0, 1) := by decide +kernel
theorem dX11_again_15 : decode cX11_again 15 = .ok (.getfield 16, 3) := by decide +kernel
theorem dX11_again_18 : decode cX11_again 18 = .ok (.invokevirtual 360, 3) := by decide +kernel
theorem dX11_again_21 : decode cX11_again 21 = .ok (.aload_n 0, 1) := by decide +kernel
theorem dX11_again_22 : decode cX11_again 22 = .ok (.getfield 22, 3) := by decide +kernel
theorem dX11_again_25 : decode cX11_again 25 = .ok (.aload_n 0, 1) := by decide +kernel
theorem dX11_again_26 : decode cX11_again 26 = .ok (.getfield 26, 3) := by decide +kernel
theorem dX11_again_29 : decode cX11_again 29 = .ok (.invokevirtual 363, 3) := by decide +kernel
theorem dX11_again_32 : decode cX11_again 32 = .ok (.aload_n 0, 1) := by decide +kernel
theorem dX11_again_33 : decode cX11_again 33 = .ok (.getfield 10, 3) := by decide +kernel
theorem dX11_again_36 : decode cX11_again 36 = .ok (.getfield 130, 3) := by decide +kernel
theorem dX11_again_39 : decode cX11_again 39 = .ok (.getfield 131, 3) := by decide +kernel
theorem dX11_again_42 : decode cX11_again 42 = .ok (.ireturn, 1) := by decide +kernel
theorem dX11_followPlan_0 : decode cX11_followPlan 0 = .ok (.aload_n 0, 1) := by decide +kernel
theorem dX11_followPlan_1 : decode cX11_followPlan 1 = .ok (.getfield 43, 3) := by decide +kernel
theorem dX11_followPlan_4 : decode cX11_followPlan 4 = .ok (.aload_n 0, 1) := by decide +kernel
theorem dX11_followPlan_5 : decode cX11_followPlan 5 = .ok (.getfield 10, 3) := by decide +kernel
theorem dX11_followPlan_8 : decode cX11_followPlan 8 = .ok (.iconst 0, 1) := by decide +kernel
theorem dX11_followPlan_9 : decode cX11_followPlan 9 = .ok (.invokevirtual 208, 3) := by decide +kernel
theorem dX11_followPlan_12 : decode cX11_followPlan 12 = .ok (.aload_n 0, 1) := by decide +kernel
theorem dX11_followPlan_13 : decode cX11_followPlan 13 = .ok (.getfield 43, 3) := by decide +kernel
theorem dX11_followPlan_16 : decode cX11_followPlan 16 = .ok (.aload_n 0, 1) := by decide +kernel
theorem dX11_followPlan_17 : decode cX11_followPlan 17 = .ok (.getfield 10, 3) := by decide +kernel
theorem dX11_followPlan_20 : decode cX11_followPlan 20 = .ok (.getfield 130, 3) := by decide +kernel
theorem dX11_followPlan_23 : decode cX11_followPlan 23 = .ok (.aload_n 0, 1) := by decide +kernel
theorem dX11_followPlan_24 : decode cX11_followPlan 24 = .ok (.getfield 10, 3) := by decide +kernel
theorem dX11_followPlan_27 : decode cX11_followPlan 27 = .ok (.getfield 183, 3) := by decide +kernel
theorem dX11_followPlan_30 : decode cX11_followPlan 30 = .ok (.invokevirtual 366, 3) := by decide +kernel
theorem dX11_followPlan_33 : decode cX11_followPlan 33 = .ok (.return_, 1) := by decide +kernel
theorem dX11_within_0 : decode cX11_within 0 = .ok (.iload_n 0, 1) := by decide +kernel
theorem dX11_within_1 : decode cX11_within 1 = .ok (.iload_n 1, 1) := by decide +kernel
theorem dX11_within_2 : decode cX11_within 2 = .ok (.if_icmp .lt 12, 3) := by decide +kernel
theorem dX11_within_5 : decode cX11_within 5 = .ok (.iload_n 0, 1) := by decide +kernel
theorem dX11_within_6 : decode cX11_within 6 = .ok (.iload_n 2, 1) := by decide +kernel
theorem dX11_within_7 : decode cX11_within 7 = .ok (.if_icmp .gt 7, 3) := by decide +kernel
theorem dX11_within_10 : decode cX11_within 10 = .ok (.iconst 1, 1) := by decide +kernel
theorem dX11_within_11 : decode cX11_within 11 = .ok (.goto 4, 3) := by decide +kernel
theorem dX11_within_14 : decode cX11_within 14 = .ok (.iconst 0, 1) := by decide +kernel
theorem dX11_within_15 : decode cX11_within 15 = .ok (.ireturn, 1) := by decide +kernel
theorem dX11_isJob_0 : decode cX11_isJob 0 = .ok (.iload_n 0, 1) := by decide +kernel
theorem dX11_isJob_1 : decode cX11_isJob 1 = .ok (.iconst 0, 1) := by decide +kernel
theorem dX11_isJob_2 : decode cX11_isJob 2 = .ok (.iconst 5, 1) := by decide +kernel
theorem dX11_isJob_3 : decode cX11_isJob 3 = .ok (.invokestatic 100, 3) := by decide +kernel
theorem dX11_isJob_6 : decode cX11_isJob 6 = .ok (.ifCond .eq 47, 3) := by decide +kernel
theorem dX11_isJob_9 : decode cX11_isJob 9 = .ok (.iload_n 1, 1) := by decide +kernel
theorem dX11_isJob_10 : decode cX11_isJob 10 = .ok (.iconst 1, 1) := by decide +kernel
theorem dX11_isJob_11 : decode cX11_isJob 11 = .ok (.bipush 9, 2) := by decide +kernel
theorem dX11_isJob_13 : decode cX11_isJob 13 = .ok (.invokestatic 100, 3) := by decide +kernel
theorem dX11_isJob_16 : decode cX11_isJob 16 = .ok (.ifCond .eq 37, 3) := by decide +kernel
theorem dX11_isJob_19 : decode cX11_isJob 19 = .ok (.iload_n 2, 1) := by decide +kernel
theorem dX11_isJob_20 : decode cX11_isJob 20 = .ok (.iconst 0, 1) := by decide +kernel
theorem dX11_isJob_21 : decode cX11_isJob 21 = .ok (.iconst 1, 1) := by decide +kernel
theorem dX11_isJob_22 : decode cX11_isJob 22 = .ok (.invokestatic 100, 3) := by decide +kernel
theorem dX11_isJob_25 : decode cX11_isJob 25 = .ok (.ifCond .eq 28, 3) := by decide +kernel
theorem dX11_isJob_28 : decode cX11_isJob 28 = .ok (.iload_n 3, 1) := by decide +kernel
theorem dX11_isJob_29 : decode cX11_isJob 29 = .ok (.iconst 0, 1) := by decide +kernel
theorem dX11_isJob_30 : decode cX11_isJob 30 = .ok (.bipush 60, 2) := by decide +kernel
theorem dX11_isJob_32 : decode cX11_isJob 32 = .ok (.invokestatic 100, 3) := by decide +kernel
theorem dX11_isJob_35 : decode cX11_isJob 35 = .ok (.ifCond .eq 18, 3) := by decide +kernel
theorem dX11_isJob_38 : decode cX11_isJob 38 = .ok (.iload 4, 2) := by decide +kernel
theorem dX11_isJob_40 : decode cX11_isJob 40 = .ok (.iconst 0, 1) := by decide +kernel
theorem dX11_isJob_41 : decode cX11_isJob 41 = .ok (.bipush 99, 2) := by decide +kernel
theorem dX11_isJob_43 : decode cX11_isJob 43 = .ok (.invokestatic 100, 3) := by decide +kernel
theorem dX11_isJob_46 : decode cX11_isJob 46 = .ok (.ifCond .eq 7, 3) := by decide +kernel
theorem dX11_isJob_49 : decode cX11_isJob 49 = .ok (.iconst 1, 1) := by decide +kernel
theorem dX11_isJob_50 : decode cX11_isJob 50 = .ok (.goto 4, 3) := by decide +kernel
theorem dX11_isJob_53 : decode cX11_isJob 53 = .ok (.iconst 0, 1) := by decide +kernel
theorem dX11_isJob_54 : decode cX11_isJob 54 = .ok (.ireturn, 1) := by decide +kernel
theorem dX11_isUnder_0 : decode cX11_isUnder 0 = .ok (.iload_n 0, 1) := by decide +kernel
theorem dX11_isUnder_1 : decode cX11_isUnder 1 = .ok (.iload_n 1, 1) := by decide +kernel
theorem dX11_isUnder_2 : decode cX11_isUnder 2 = .ok (.if_icmp .eq 27, 3) := by decide +kernel
theorem dX11_isUnder_5 : decode cX11_isUnder 5 = .ok (.iload_n 1, 1) := by decide +kernel
theorem dX11_isUnder_6 : decode cX11_isUnder 6 = .ok (.ifCond .eq 23, 3) := by decide +kernel
theorem dX11_isUnder_9 : decode cX11_isUnder 9 = .ok (.iload_n 0, 1) := by decide +kernel
theorem dX11_isUnder_10 : decode cX11_isUnder 10 = .ok (.iconst 3, 1) := by decide +kernel
theorem dX11_isUnder_11 : decode cX11_isUnder 11 = .ok (.if_icmp .ne 8, 3) := by decide +kernel
theorem dX11_isUnder_14 : decode cX11_isUnder 14 = .ok (.iload_n 1, 1) := by decide +kernel
theorem dX11_isUnder_15 : decode cX11_isUnder 15 = .ok (.iconst 2, 1) := by decide +kernel
theorem dX11_isUnder_16 : decode cX11_isUnder 16 = .ok (.if_icmp .eq 13, 3) := by decide +kernel
theorem dX11_isUnder_19 : decode cX11_isUnder 19 = .ok (.iload_n 0, 1) := by decide +kernel
theorem dX11_isUnder_20 : decode cX11_isUnder 20 = .ok (.iconst 4, 1) := by decide +kernel
theorem dX11_isUnder_21 : decode cX11_isUnder 21 = .ok (.if_icmp .ne 12, 3) := by decide +kernel
theorem dX11_isUnder_24 : decode cX11_isUnder 24 = .ok (.iload_n 1, 1) := by decide +kernel
theorem dX11_isUnder_25 : decode cX11_isUnder 25 = .ok (.iconst 1, 1) := by decide +kernel
theorem dX11_isUnder_26 : decode cX11_isUnder 26 = .ok (.if_icmp .ne 7, 3) := by decide +kernel
theorem dX11_isUnder_29 : decode cX11_isUnder 29 = .ok (.iconst 1, 1) := by decide +kernel
theorem dX11_isUnder_30 : decode cX11_isUnder 30 = .ok (.goto 4, 3) := by decide +kernel
theorem dX11_isUnder_33 : decode cX11_isUnder 33 = .ok (.iconst 0, 1) := by decide +kernel
theorem dX11_isUnder_34 : decode cX11_isUnder 34 = .ok (.ireturn, 1) := by decide +kernel
theorem dX11_digitsOf_0 : decode cX11_digitsOf 0 = .ok (.iconst 0, 1) := by decide +kernel
theorem dX11_digitsOf_1 : decode cX11_digitsOf 1 = .ok (.istore_n 2, 1) := by decide +kernel
theorem dX11_digitsOf_2 : decode cX11_digitsOf 2 = .ok (.iconst 0, 1) := by decide +kernel
theorem dX11_digitsOf_3 : decode cX11_digitsOf 3 = .ok (.istore_n 3, 1) := by decide +kernel
theorem dX11_digitsOf_4 : decode cX11_digitsOf 4 = .ok (.iload_n 3, 1) := by decide +kernel
theorem dX11_digitsOf_5 : decode cX11_digitsOf 5 = .ok (.iload_n 1, 1) := by decide +kernel
theorem dX11_digitsOf_6 : decode cX11_digitsOf 6 = .ok (.if_icmp .ge 25, 3) := by decide +kernel
theorem dX11_digitsOf_9 : decode cX11_digitsOf 9 = .ok (.iload_n 3, 1) := by decide +kernel
theorem dX11_digitsOf_10 : decode cX11_digitsOf 10 = .ok (.aload_n 0, 1) := by decide +kernel
theorem dX11_digitsOf_11 : decode cX11_digitsOf 11 = .ok (.arraylength, 1) := by decide +kernel
theorem dX11_digitsOf_12 : decode cX11_digitsOf 12 = .ok (.if_icmp .ge 19, 3) := by decide +kernel
theorem dX11_digitsOf_15 : decode cX11_digitsOf 15 = .ok (.iload_n 2, 1) := by decide +kernel
theorem dX11_digitsOf_16 : decode cX11_digitsOf 16 = .ok (.aload_n 0, 1) := by decide +kernel
theorem dX11_digitsOf_17 : decode cX11_digitsOf 17 = .ok (.iload_n 3, 1) := by decide +kernel
theorem dX11_digitsOf_18 : decode cX11_digitsOf 18 = .ok (.iaload, 1) := by decide +kernel
theorem dX11_digitsOf_19 : decode cX11_digitsOf 19 = .ok (.iconst 3, 1) := by decide +kernel
theorem dX11_digitsOf_20 : decode cX11_digitsOf 20 = .ok (.iload_n 3, 1) := by decide +kernel
theorem dX11_digitsOf_21 : decode cX11_digitsOf 21 = .ok (.imul, 1) := by decide +kernel
theorem dX11_digitsOf_22 : decode cX11_digitsOf 22 = .ok (.ishl, 1) := by decide +kernel
theorem dX11_digitsOf_23 : decode cX11_digitsOf 23 = .ok (.ior, 1) := by decide +kernel
theorem dX11_digitsOf_24 : decode cX11_digitsOf 24 = .ok (.istore_n 2, 1) := by decide +kernel
theorem dX11_digitsOf_25 : decode cX11_digitsOf 25 = .ok (.iinc 3 1, 3) := by decide +kernel
theorem dX11_digitsOf_28 : decode cX11_digitsOf 28 = .ok (.goto (-24), 3) := by decide +kernel
theorem dX11_digitsOf_31 : decode cX11_digitsOf 31 = .ok (.iload_n 2, 1) := by decide +kernel
theorem dX11_digitsOf_32 : decode cX11_digitsOf 32 = .ok (.ireturn, 1) := by decide +kernel
theorem dX11_partOf_0 : decode cX11_partOf 0 = .ok (.iload_n 1, 1) := by decide +kernel
theorem dX11_partOf_1 : decode cX11_partOf 1 = .ok (.istore_n 3, 1) := by decide +kernel
theorem dX11_partOf_2 : decode cX11_partOf 2 = .ok (.iload_n 0, 1) := by decide +kernel
theorem dX11_partOf_3 : decode cX11_partOf 3 = .ok (.istore 4, 2) := by decide +kernel
theorem dX11_partOf_5 : decode cX11_partOf 5 = .ok (.iload_n 3, 1) := by decide +kernel
theorem dX11_partOf_6 : decode cX11_partOf 6 = .ok (.ifCond .le 22, 3) := by decide +kernel
theorem dX11_partOf_9 : decode cX11_partOf 9 = .ok (.iload 4, 2) := by decide +kernel
theorem dX11_partOf_11 : decode cX11_partOf 11 = .ok (.iconst 2, 1) := by decide +kernel
theorem dX11_partOf_12 : decode cX11_partOf 12 = .ok (.irem, 1) := by decide +kernel
theorem dX11_partOf_13 : decode cX11_partOf 13 = .ok (.ifCond .ne 15, 3) := by decide +kernel
theorem dX11_partOf_16 : decode cX11_partOf 16 = .ok (.iload 4, 2) := by decide +kernel
theorem dX11_partOf_18 : decode cX11_partOf 18 = .ok (.iconst 2, 1) := by decide +kernel
theorem dX11_partOf_19 : decode cX11_partOf 19 = .ok (.idiv, 1) := by decide +kernel
theorem dX11_partOf_20 : decode cX11_partOf 20 = .ok (.istore 4, 2) := by decide +kernel
theorem dX11_partOf_22 : decode cX11_partOf 22 = .ok (.iinc 3 (-1), 3) := by decide +kernel
theorem dX11_partOf_25 : decode cX11_partOf 25 = .ok (.goto (-20), 3) := by decide +kernel
theorem dX11_partOf_28 : decode cX11_partOf 28 = .ok (.iload_n 2, 1) := by decide +kernel
theorem dX11_partOf_29 : decode cX11_partOf 29 = .ok (.ifCond .ne 8, 3) := by decide +kernel
theorem dX11_partOf_32 : decode cX11_partOf 32 = .ok (.iload 4, 2) := by decide +kernel
theorem dX11_partOf_34 : decode cX11_partOf 34 = .ok (.goto 6, 3) := by decide +kernel
theorem dX11_partOf_37 : decode cX11_partOf 37 = .ok (.iconst 1, 1) := by decide +kernel
theorem dX11_partOf_38 : decode cX11_partOf 38 = .ok (.iload_n 3, 1) := by decide +kernel
theorem dX11_partOf_39 : decode cX11_partOf 39 = .ok (.ishl, 1) := by decide +kernel
theorem dX11_partOf_40 : decode cX11_partOf 40 = .ok (.ireturn, 1) := by decide +kernel
theorem dX12_init_0 : decode cX12_init 0 = .ok (.aload_n 0, 1) := by decide +kernel
theorem dX12_init_1 : decode cX12_init 1 = .ok (.invokespecial 1, 3) := by decide +kernel
theorem dX12_init_4 : decode cX12_init 4 = .ok (.aload_n 0, 1) := by decide +kernel
theorem dX12_init_5 : decode cX12_init 5 = .ok (.bipush 50, 2) := by decide +kernel
theorem dX12_init_7 : decode cX12_init 7 = .ok (.newarray .int, 2) := by decide +kernel
theorem dX12_init_9 : decode cX12_init 9 = .ok (.putfield 7, 3) := by decide +kernel
theorem dX12_init_12 : decode cX12_init 12 = .ok (.aload_n 0, 1) := by decide +kernel
theorem dX12_init_13 : decode cX12_init 13 = .ok (.iconst 4, 1) := by decide +kernel
theorem dX12_init_14 : decode cX12_init 14 = .ok (.newarray .int, 2) := by decide +kernel
theorem dX12_init_16 : decode cX12_init 16 = .ok (.dup, 1) := by decide +kernel
theorem dX12_init_17 : decode cX12_init 17 = .ok (.iconst 0, 1) := by decide +kernel
theorem dX12_init_18 : decode cX12_init 18 = .ok (.iconst 2, 1) := by decide +kernel
theorem dX12_init_19 : decode cX12_init 19 = .ok (.iastore, 1) := by decide +kernel
theorem dX12_init_20 : decode cX12_init 20 = .ok (.dup, 1) := by decide +kernel
theorem dX12_init_21 : decode cX12_init 21 = .ok (.iconst 1, 1) := by decide +kernel
theorem dX12_init_22 : decode cX12_init 22 = .ok (.iconst 1, 1) := by decide +kernel
theorem dX12_init_23 : decode cX12_init 23 = .ok (.iastore, 1) := by decide +kernel
theorem dX12_init_24 : decode cX12_init 24 = .ok (.dup, 1) := by decide +kernel
theorem dX12_init_25 : decode cX12_init 25 = .ok (.iconst 2, 1) := by decide +kernel
theorem dX12_init_26 : decode cX12_init 26 = .ok (.iconst 5, 1) := by decide +kernel
theorem dX12_init_27 : decode cX12_init 27 = .ok (.iastore, 1) := by decide +kernel
theorem dX12_init_28 : decode cX12_init 28 = .ok (.dup, 1) := by decide +kernel
theorem dX12_init_29 : decode cX12_init 29 = .ok (.iconst 3, 1) := by decide +kernel
theorem dX12_init_30 : decode cX12_init 30 = .ok (.iconst 1, 1) := by decide +kernel
theorem dX12_init_31 : decode cX12_init 31 = .ok (.iastore, 1) := by decide +kernel
theorem dX12_init_32 : decode cX12_init 32 = .ok (.putfield 13, 3) := by decide +kernel
theorem dX12_init_35 : decode cX12_init 35 = .ok (.aload_n 0, 1) := by decide +kernel
theorem dX12_init_36 : decode cX12_init 36 = .ok (.iconst 4, 1) := by decide +kernel
theorem dX12_init_37 : decode cX12_init 37 = .ok (.newarray .int, 2) := by decide +kernel
theorem dX12_init_39 : decode cX12_init 39 = .ok (.dup, 1) := by decide +kernel
theorem dX12_init_40 : decode cX12_init 40 = .ok (.iconst 0, 1) := by decide +kernel
theorem dX12_init_41 : decode cX12_init 41 = .ok (.iconst 1, 1) := by decide +kernel
theorem dX12_init_42 : decode cX12_init 42 = .ok (.iastore, 1) := by decide +kernel
theorem dX12_init_43 : decode cX12_init 43 = .ok (.dup, 1) := by decide +kernel
theorem dX12_init_44 : decode cX12_init 44 = .ok (.iconst 1, 1) := by decide +kernel
theorem dX12_init_45 : decode cX12_init 45 = .ok (.iconst 0, 1) := by decide +kernel
theorem dX12_init_46 : decode cX12_init 46 = .ok (.iastore, 1) := by decide +kernel
theorem dX12_init_47 : decode cX12_init 47 = .ok (.dup, 1) := by decide +kernel
theorem dX12_init_48 : decode cX12_init 48 = .ok (.iconst 2, 1) := by decide +kernel
theorem dX12_init_49 : decode cX12_init 49 = .ok (.iconst 0, 1) := by decide +kernel
theorem dX12_init_50 : decode cX12_init 50 = .ok (.iastore, 1) := by decide +kernel
theorem dX12_init_51 : decode cX12_init 51 = .ok (.dup, 1) := by decide +kernel
theorem dX12_init_52 : decode cX12_init 52 = .ok (.iconst 3, 1) := by decide +kernel
theorem dX12_init_53 : decode cX12_init 53 = .ok (.iconst 0, 1) := by decide +kernel
theorem dX12_init_54 : decode cX12_init 54 = .ok (.iastore, 1) := by decide +kernel
theorem dX12_init_55 : decode cX12_init 55 = .ok (.putfield 16, 3) := by decide +kernel
theorem dX12_init_58 : decode cX12_init 58 = .ok (.aload_n 0, 1) := by decide +kernel
theorem dX12_init_59 : decode cX12_init 59 = .ok (.iconst 4, 1) := by decide +kernel
theorem dX12_init_60 : decode cX12_init 60 = .ok (.newarray .int, 2) := by decide +kernel
theorem dX12_init_62 : decode cX12_init 62 = .ok (.dup, 1) := by decide +kernel
theorem dX12_init_63 : decode cX12_init 63 = .ok (.iconst 0, 1) := by decide +kernel
theorem dX12_init_64 : decode cX12_init 64 = .ok (.iconst 4, 1) := by decide +kernel
theorem dX12_init_65 : decode cX12_init 65 = .ok (.iastore, 1) := by decide +kernel
theorem dX12_init_66 : decode cX12_init 66 = .ok (.dup, 1) := by decide +kernel
theorem dX12_init_67 : decode cX12_init 67 = .ok (.iconst 1, 1) := by decide +kernel
theorem dX12_init_68 : decode cX12_init 68 = .ok (.iconst 3, 1) := by decide +kernel
theorem dX12_init_69 : decode cX12_init 69 = .ok (.iastore, 1) := by decide +kernel
theorem dX12_init_70 : decode cX12_init 70 = .ok (.dup, 1) := by decide +kernel
theorem dX12_init_71 : decode cX12_init 71 = .ok (.iconst 2, 1) := by decide +kernel
theorem dX12_init_72 : decode cX12_init 72 = .ok (.bipush 99, 2) := by decide +kernel
theorem dX12_init_74 : decode cX12_init 74 = .ok (.iastore, 1) := by decide +kernel
theorem dX12_init_75 : decode cX12_init 75 = .ok (.dup, 1) := by decide +kernel
theorem dX12_init_76 : decode cX12_init 76 = .ok (.iconst 3, 1) := by decide +kernel
theorem dX12_init_77 : decode cX12_init 77 = .ok (.iconst 4, 1) := by decide +kernel
theorem dX12_init_78 : decode cX12_init 78 = .ok (.iastore, 1) := by decide +kernel
theorem dX12_init_79 : decode cX12_init 79 = .ok (.putfield 19, 3) := by decide +kernel
theorem dX12_init_82 : decode cX12_init 82 = .ok (.aload_n 0, 1) := by decide +kernel
theorem dX12_init_83 : decode cX12_init 83 = .ok (.bipush 61, 2) := by decide +kernel
theorem dX12_init_85 : decode cX12_init 85 = .ok (.newarray .int, 2) := by decide +kernel
theorem dX12_init_87 : decode cX12_init 87 = .ok (.putfield 22, 3) := by decide +kernel
theorem dX12_init_90 : decode cX12_init 90 = .ok (.aload_n 0, 1) := by decide +kernel
theorem dX12_init_91 : decode cX12_init 91 = .ok (.bipush 61, 2) := by decide +kernel
theorem dX12_init_93 : decode cX12_init 93 = .ok (.newarray .int, 2) := by decide +kernel
theorem dX12_init_95 : decode cX12_init 95 = .ok (.putfield 25, 3) := by decide +kernel
theorem dX12_init_98 : decode cX12_init 98 = .ok (.aload_n 0, 1) := by decide +kernel
theorem dX12_init_99 : decode cX12_init 99 = .ok (.bipush 8, 2) := by decide +kernel
theorem dX12_init_101 : decode cX12_init 101 = .ok (.newarray .int, 2) := by decide +kernel
theorem dX12_init_103 : decode cX12_init 103 = .ok (.putfield 28, 3) := by decide +kernel
theorem dX12_init_106 : decode cX12_init 106 = .ok (.aload_n 0, 1) := by decide +kernel
theorem dX12_init_107 : decode cX12_init 107 = .ok (.bipush 18, 2) := by decide +kernel
theorem dX12_init_109 : decode cX12_init 109 = .ok (.newarray .int, 2) := by decide +kernel
theorem dX12_init_111 : decode cX12_init 111 = .ok (.putfield 31, 3) := by decide +kernel
theorem dX12_init_114 : decode cX12_init 114 = .ok (.aload_n 0, 1) := by decide +kernel
theorem dX12_init_115 : decode cX12_init 115 = .ok (.iconst 1, 1) := by decide +kernel
theorem dX12_init_116 : decode cX12_init 116 = .ok (.putfield 34, 3) := by decide +kernel
theorem dX12_init_119 : decode cX12_init 119 = .ok (.aload_n 0, 1) := by decide +kernel
theorem dX12_init_120 : decode cX12_init 120 = .ok (.sipush 200, 3) := by decide +kernel
theorem dX12_init_123 : decode cX12_init 123 = .ok (.newarray .int, 2) := by decide +kernel
theorem dX12_init_125 : decode cX12_init 125 = .ok (.putfield 38, 3) := by decide +kernel
theorem dX12_init_128 : decode cX12_init 128 = .ok (.aload_n 0, 1) := by decide +kernel
theorem dX12_init_129 : decode cX12_init 129 = .ok (.bipush 30, 2) := by decide +kernel
theorem dX12_init_131 : decode cX12_init 131 = .ok (.newarray .int, 2) := by decide +kernel
theorem dX12_init_133 : decode cX12_init 133 = .ok (.putfield 41, 3) := by decide +kernel
theorem dX12_init_136 : decode cX12_init 136 = .ok (.aload_n 0, 1) := by decide +kernel
theorem dX12_init_137 : decode cX12_init 137 = .ok (.iconst 4, 1) := by decide +kernel
theorem dX12_init_138 : decode cX12_init 138 = .ok (.newarray .int, 2) := by decide +kernel
theorem dX12_init_140 : decode cX12_init 140 = .ok (.putfield 44, 3) := by decide +kernel
theorem dX12_init_143 : decode cX12_init 143 = .ok (.aload_n 0, 1) := by decide +kernel
theorem dX12_init_144 : decode cX12_init 144 = .ok (.bipush 8, 2) := by decide +kernel
theorem dX12_init_146 : decode cX12_init 146 = .ok (.newarray .int, 2) := by decide +kernel
theorem dX12_init_148 : decode cX12_init 148 = .ok (.putfield 47, 3) := by decide +kernel
theorem dX12_init_151 : decode cX12_init 151 = .ok (.aload_n 0, 1) := by decide +kernel
theorem dX12_init_152 : decode cX12_init 152 = .ok (.bipush 8, 2) := by decide +kernel
theorem dX12_init_154 : decode cX12_init 154 = .ok (.newarray .int, 2) := by decide +kernel
theorem dX12_init_156 : decode cX12_init 156 = .ok (.putfield 50, 3) := by decide +kernel
theorem dX12_init_159 : decode cX12_init 159 = .ok (.aload_n 0, 1) := by decide +kernel
theorem dX12_init_160 : decode cX12_init 160 = .ok (.bipush 8, 2) := by decide +kernel
theorem dX12_init_162 : decode cX12_init 162 = .ok (.newarray .int, 2) := by decide +kernel
theorem dX12_init_164 : decode cX12_init 164 = .ok (.putfield 53, 3) := by decide +kernel
theorem dX12_init_167 : decode cX12_init 167 = .ok (.aload_n 0, 1) := by decide +kernel
theorem dX12_init_168 : decode cX12_init 168 = .ok (.bipush 8, 2) := by decide +kernel
theorem dX12_init_170 : decode cX12_init 170 = .ok (.newarray .int, 2) := by decide +kernel
theorem dX12_init_172 : decode cX12_init 172 = .ok (.putfield 56, 3) := by decide +kernel
theorem dX12_init_175 : decode cX12_init 175 = .ok (.aload_n 0, 1) := by decide +kernel
theorem dX12_init_176 : decode cX12_init 176 = .ok (.bipush 64, 2) := by decide +kernel
theorem dX12_init_178 : decode cX12_init 178 = .ok (.newarray .int, 2) := by decide +kernel
theorem dX12_init_180 : decode cX12_init 180 = .ok (.putfield 59, 3) := by decide +kernel
theorem dX12_init_183 : decode cX12_init 183 = .ok (.aload_n 0, 1) := by decide +kernel
theorem dX12_init_184 : decode cX12_init 184 = .ok (.bipush 64, 2) := by decide +kernel
theorem dX12_init_186 : decode cX12_init 186 = .ok (.newarray .int, 2) := by decide +kernel
theorem dX12_init_188 : decode cX12_init 188 = .ok (.putfield 62, 3) := by decide +kernel
theorem dX12_init_191 : decode cX12_init 191 = .ok (.aload_n 0, 1) := by decide +kernel
theorem dX12_init_192 : decode cX12_init 192 = .ok (.bipush 18, 2) := by decide +kernel
theorem dX12_init_194 : decode cX12_init 194 = .ok (.newarray .int, 2) := by decide +kernel
theorem dX12_init_196 : decode cX12_init 196 = .ok (.putfield 65, 3) := by decide +kernel
theorem dX12_init_199 : decode cX12_init 199 = .ok (.aload_n 0, 1) := by decide +kernel
theorem dX12_init_200 : decode cX12_init 200 = .ok (.iconst 4, 1) := by decide +kernel
theorem dX12_init_201 : decode cX12_init 201 = .ok (.newarray .int, 2) := by decide +kernel
theorem dX12_init_203 : decode cX12_init 203 = .ok (.dup, 1) := by decide +kernel
theorem dX12_init_204 : decode cX12_init 204 = .ok (.iconst 0, 1) := by decide +kernel
theorem dX12_init_205 : decode cX12_init 205 = .ok (.iconst (-1), 1) := by decide +kernel
theorem dX12_init_206 : decode cX12_init 206 = .ok (.iastore, 1) := by decide +kernel
theorem dX12_init_207 : decode cX12_init 207 = .ok (.dup, 1) := by decide +kernel
theorem dX12_init_208 : decode cX12_init 208 = .ok (.iconst 1, 1) := by decide +kernel
theorem dX12_init_209 : decode cX12_init 209 = .ok (.iconst (-1), 1) := by decide +kernel
theorem dX12_init_210 : decode cX12_init 210 = .ok (.iastore, 1) := by decide +kernel
theorem dX12_init_211 : decode cX12_init 211 = .ok (.dup, 1) := by decide +kernel
theorem dX12_init_212 : decode cX12_init 212 = .ok (.iconst 2, 1) := by decide +kernel
theorem dX12_init_213 : decode cX12_init 213 = .ok (.iconst (-1), 1) := by decide +kernel
theorem dX12_init_214 : decode cX12_init 214 = .ok (.iastore, 1) := by decide +kernel
theorem dX12_init_215 : decode cX12_init 215 = .ok (.dup, 1) := by decide +kernel
theorem dX12_init_216 : decode cX12_init 216 = .ok (.iconst 3, 1) := by decide +kernel
theorem dX12_init_217 : decode cX12_init 217 = .ok (.iconst (-1), 1) := by decide +kernel
theorem dX12_init_218 : decode cX12_init 218 = .ok (.iastore, 1) := by decide +kernel
theorem dX12_init_219 : decode cX12_init 219 = .ok (.putfield 68, 3) := by decide +kernel
theorem dX12_init_222 : decode cX12_init 222 = .ok (.aload_n 0, 1) := by decide +kernel
theorem dX12_init_223 : decode cX12_init 223 = .ok (.iconst 4, 1) := by decide +kernel
theorem dX12_init_224 : decode cX12_init 224 = .ok (.newarray .int, 2) := by decide +kernel
theorem dX12_init_226 : decode cX12_init 226 = .ok (.putfield 71, 3) := by decide +kernel
theorem dX12_init_229 : decode cX12_init 229 = .ok (.aload_n 0, 1) := by decide +kernel
theorem dX12_init_230 : decode cX12_init 230 = .ok (.sipush 160, 3) := by decide +kernel
theorem dX12_init_233 : decode cX12_init 233 = .ok (.newarray .long, 2) := by decide +kernel
theorem dX12_init_235 : decode cX12_init 235 = .ok (.putfield 74, 3) := by decide +kernel
theorem dX12_init_238 : decode cX12_init 238 = .ok (.aload_n 0, 1) := by decide +kernel
theorem dX12_init_239 : decode cX12_init 239 = .ok (.iconst 4, 1) := by decide +kernel
theorem dX12_init_240 : decode cX12_init 240 = .ok (.newarray .int, 2) := by decide +kernel
theorem dX12_init_242 : decode cX12_init 242 = .ok (.dup, 1) := by decide +kernel
theorem dX12_init_243 : decode cX12_init 243 = .ok (.iconst 0, 1) := by decide +kernel
theorem dX12_init_244 : decode cX12_init 244 = .ok (.iconst (-1), 1) := by decide +kernel
theorem dX12_init_245 : decode cX12_init 245 = .ok (.iastore, 1) := by decide +kernel
theorem dX12_init_246 : decode cX12_init 246 = .ok (.dup, 1) := by decide +kernel
theorem dX12_init_247 : decode cX12_init 247 = .ok (.iconst 1, 1) := by decide +kernel
theorem dX12_init_248 : decode cX12_init 248 = .ok (.iconst (-1), 1) := by decide +kernel
theorem dX12_init_249 : decode cX12_init 249 = .ok (.iastore, 1) := by decide +kernel
theorem dX12_init_250 : decode cX12_init 250 = .ok (.dup, 1) := by decide +kernel
theorem dX12_init_251 : decode cX12_init 251 = .ok (.iconst 2, 1) := by decide +kernel
theorem dX12_init_252 : decode cX12_init 252 = .ok (.iconst (-1), 1) := by decide +kernel
theorem dX12_init_253 : decode cX12_init 253 = .ok (.iastore, 1) := by decide +kernel
theorem dX12_init_254 : decode cX12_init 254 = .ok (.dup, 1) := by decide +kernel
theorem dX12_init_255 : decode cX12_init 255 = .ok (.iconst 3, 1) := by decide +kernel
theorem dX12_init_256 : decode cX12_init 256 = .ok (.iconst (-1), 1) := by decide +kernel
theorem dX12_init_257 : decode cX12_init 257 = .ok (.iastore, 1) := by decide +kernel
theorem dX12_init_258 : decode cX12_init 258 = .ok (.putfield 78, 3) := by decide +kernel
theorem dX12_init_261 : decode cX12_init 261 = .ok (.aload_n 0, 1) := by decide +kernel
theorem dX12_init_262 : decode cX12_init 262 = .ok (.iconst 4, 1) := by decide +kernel
theorem dX12_init_263 : decode cX12_init 263 = .ok (.newarray .int, 2) := by decide +kernel
theorem dX12_init_265 : decode cX12_init 265 = .ok (.putfield 81, 3) := by decide +kernel
theorem dX12_init_268 : decode cX12_init 268 = .ok (.aload_n 0, 1) := by decide +kernel
theorem dX12_init_269 : decode cX12_init 269 = .ok (.iconst 4, 1) := by decide +kernel
theorem dX12_init_270 : decode cX12_init 270 = .ok (.newarray .int, 2) := by decide +kernel
theorem dX12_init_272 : decode cX12_init 272 = .ok (.putfield 84, 3) := by decide +kernel
theorem dX12_init_275 : decode cX12_init 275 = .ok (.aload_n 0, 1) := by decide +kernel
theorem dX12_init_276 : decode cX12_init 276 = .ok (.bipush 30, 2) := by decide +kernel
theorem dX12_init_278 : decode cX12_init 278 = .ok (.newarray .int, 2) := by decide +kernel
theorem dX12_init_280 : decode cX12_init 280 = .ok (.putfield 87, 3) := by decide +kernel
theorem dX12_init_283 : decode cX12_init 283 = .ok (.aload_n 0, 1) := by decide +kernel
theorem dX12_init_284 : decode cX12_init 284 = .ok (.sipush 260, 3) := by decide +kernel
theorem dX12_init_287 : decode cX12_init 287 = .ok (.newarray .int, 2) := by decide +kernel
theorem dX12_init_289 : decode cX12_init 289 = .ok (.putfield 90, 3) := by decide +kernel
theorem dX12_init_292 : decode cX12_init 292 = .ok (.aload_n 0, 1) := by decide +kernel
theorem dX12_init_293 : decode cX12_init 293 = .ok (.bipush 7, 2) := by decide +kernel
theorem dX12_init_295 : decode cX12_init 295 = .ok (.newarray .int, 2) := by decide +kernel
theorem dX12_init_297 : decode cX12_init 297 = .ok (.putfield 93, 3) := by decide +kernel
theorem dX12_init_300 : decode cX12_init 300 = .ok (.return_, 1) := by decide +kernel
theorem dX12_in_0 : decode cX12_in 0 = .ok (.iload_n 0, 1) := by decide +kernel
theorem dX12_in_1 : decode cX12_in 1 = .ok (.iload_n 1, 1) := by decide +kernel
theorem dX12_in_2 : decode cX12_in 2 = .ok (.if_icmp .lt 12, 3) := by decide +kernel
theorem dX12_in_5 : decode cX12_in 5 = .ok (.iload_n 0, 1) := by decide +kernel
theorem dX12_in_6 : decode cX12_in 6 = .ok (.iload_n 2, 1) := by decide +kernel
theorem dX12_in_7 : decode cX12_in 7 = .ok (.if_icmp .gt 7, 3) := by decide +kernel
theorem dX12_in_10 : decode cX12_in 10 = .ok (.iconst 1, 1) := by decide +kernel
theorem dX12_in_11 : decode cX12_in 11 = .ok (.goto 4, 3) := by decide +kernel
theorem dX12_in_14 : decode cX12_in 14 = .ok (.iconst 0, 1) := by decide +kernel
theorem dX12_in_15 : decode cX12_in 15 = .ok (.ireturn, 1) := by decide +kernel
theorem dX12_isJob_0 : decode cX12_isJob 0 = .ok (.iload_n 1, 1) := by decide +kernel
theorem dX12_isJob_1 : decode cX12_isJob 1 = .ok (.iconst 0, 1) := by decide +kernel
theorem dX12_isJob_2 : decode cX12_isJob 2 = .ok (.aload_n 0, 1) := by decide +kernel
theorem dX12_isJob_3 : decode cX12_isJob 3 = .ok (.getfield 96, 3) := by decide +kernel
theorem dX12_isJob_6 : decode cX12_isJob 6 = .ok (.iconst 1, 1) := by decide +kernel
theorem dX12_isJob_7 : decode cX12_isJob 7 = .ok (.isub, 1) := by decide +kernel
theorem dX12_isJob_8 : decode cX12_isJob 8 = .ok (.invokestatic 99, 3) := by decide +kernel
theorem dX12_isJob_11 : decode cX12_isJob 11 = .ok (.ireturn, 1) := by decide +kernel
theorem dX12_isSide_0 : decode cX12_isSide 0 = .ok (.iload_n 0, 1) := by decide +kernel
theorem dX12_isSide_1 : decode cX12_isSide 1 = .ok (.iconst 0, 1) := by decide +kernel
theorem dX12_isSide_2 : decode cX12_isSide 2 = .ok (.iconst 1, 1) := by decide +kernel
theorem dX12_isSide_3 : decode cX12_isSide 3 = .ok (.invokestatic 99, 3) := by decide +kernel
theorem dX12_isSide_6 : decode cX12_isSide 6 = .ok (.ireturn, 1) := by decide +kernel
theorem dX12_its_0 : decode cX12_its 0 = .ok (.aload_n 0, 1) := by decide +kernel
theorem dX12_its_1 : decode cX12_its 1 = .ok (.getfield 7, 3) := by decide +kernel
theorem dX12_its_4 : decode cX12_its 4 = .ok (.iconst 5, 1) := by decide +kernel
theorem dX12_its_5 : decode cX12_its 5 = .ok (.iload_n 1, 1) := by decide +kernel
theorem dX12_its_6 : decode cX12_its 6 = .ok (.imul, 1) := by decide +kernel
theorem dX12_its_7 : decode cX12_its 7 = .ok (.iload_n 2, 1) := by decide +kernel
theorem dX12_its_8 : decode cX12_its 8 = .ok (.iadd, 1) := by decide +kernel
theorem dX12_its_9 : decode cX12_its 9 = .ok (.iaload, 1) := by decide +kernel
theorem dX12_its_10 : decode cX12_its 10 = .ok (.ireturn, 1) := by decide +kernel
theorem dX12_restOf_0 : decode cX12_restOf 0 = .ok (.iload_n 0, 1) := by decide +kernel
theorem dX12_restOf_1 : decode cX12_restOf 1 = .ok (.iconst 5, 1) := by decide +kernel
theorem dX12_restOf_2 : decode cX12_restOf 2 = .ok (.if_icmp .ne 11, 3) := by decide +kernel
theorem dX12_restOf_5 : decode cX12_restOf 5 = .ok (.iload_n 1, 1) := by decide +kernel
theorem dX12_restOf_6 : decode cX12_restOf 6 = .ok (.iconst 1, 1) := by decide +kernel
theorem dX12_restOf_7 : decode cX12_restOf 7 = .ok (.iadd, 1) := by decide +kernel
theorem dX12_restOf_8 : decode cX12_restOf 8 = .ok (.iconst 2, 1) := by decide +kernel
theorem dX12_restOf_9 : decode cX12_restOf 9 = .ok (.idiv, 1) := by decide +kernel
theorem dX12_restOf_10 : decode cX12_restOf 10 = .ok (.goto 4, 3) := by decide +kernel
theorem dX12_restOf_13 : decode cX12_restOf 13 = .ok (.iload_n 1, 1) := by decide +kernel
theorem dX12_restOf_14 : decode cX12_restOf 14 = .ok (.ireturn, 1) := by decide +kernel
theorem dX12_isLike_0 : decode cX12_isLike 0 = .ok (.iload_n 0, 1) := by decide +kernel
theorem dX12_isLike_1 : decode cX12_isLike 1 = .ok (.iconst 0, 1) := by decide +kernel
theorem dX12_isLike_2 : decode cX12_isLike 2 = .ok (.iconst 5, 1) := by decide +kernel
theorem dX12_isLike_3 : decode cX12_isLike 3 = .ok (.invokestatic 99, 3) := by decide +kernel
theorem dX12_isLike_6 : decode cX12_isLike 6 = .ok (.ifCond .eq 24, 3) := by decide +kernel
theorem dX12_isLike_9 : decode cX12_isLike 9 = .ok (.iload_n 1, 1) := by decide +kernel
theorem dX12_isLike_10 : decode cX12_isLike 10 = .ok (.iconst 1, 1) := by decide +kernel
theorem dX12_isLike_11 : decode cX12_isLike 11 = .ok (.bipush 9, 2) := by decide +kernel
theorem dX12_isLike_13 : decode cX12_isLike 13 = .ok (.invokestatic 99, 3) := by decide +kernel
theorem dX12_isLike_16 : decode cX12_isLike 16 = .ok (.ifCond .eq 14, 3) := by decide +kernel
theorem dX12_isLike_19 : decode cX12_isLike 19 = .ok (.iload_n 2, 1) := by decide +kernel
theorem dX12_isLike_20 : decode cX12_isLike 20 = .ok (.invokestatic 103, 3) := by decide +kernel
theorem dX12_isLike_23 : decode cX12_isLike 23 = .ok (.ifCond .eq 7, 3) := by decide +kernel
theorem dX12_isLike_26 : decode cX12_isLike 26 = .ok (.iconst 1, 1) := by decide +kernel
theorem dX12_isLike_27 : decode cX12_isLike 27 = .ok (.goto 4, 3) := by decide +kernel
theorem dX12_isLike_30 : decode cX12_isLike 30 = .ok (.iconst 0, 1) := by decide +kernel
theorem dX12_isLike_31 : decode cX12_isLike 31 = .ok (.ireturn, 1) := by decide +kernel
theorem dX12_isPromised_0 : decode cX12_isPromised 0 = .ok (.iload_n 0, 1) := by decide +kernel
theorem dX12_isPromised_1 : decode cX12_isPromised 1 = .ok (.iconst 0, 1) := by decide +kernel
theorem dX12_isPromised_2 : decode cX12_isPromised 2 = .ok (.bipush 60, 2) := by decide +kernel
theorem dX12_isPromised_4 : decode cX12_isPromised 4 = .ok (.invokestatic 99, 3) := by decide +kernel
theorem dX12_isPromised_7 : decode cX12_isPromised 7 = .ok (.ifCond .eq 17, 3) := by decide +kernel
theorem dX12_isPromised_10 : decode cX12_isPromised 10 = .ok (.iload_n 1, 1) := by decide +kernel
theorem dX12_isPromised_11 : decode cX12_isPromised 11 = .ok (.iconst 0, 1) := by decide +kernel
theorem dX12_isPromised_12 : decode cX12_isPromised 12 = .ok (.bipush 99, 2) := by decide +kernel
theorem dX12_isPromised_14 : decode cX12_isPromised 14 = .ok (.invokestatic 99, 3) := by decide +kernel
theorem dX12_isPromised_17 : decode cX12_isPromised 17 = .ok (.ifCond .eq 7, 3) := by decide +kernel
theorem dX12_isPromised_20 : decode cX12_isPromised 20 = .ok (.iconst 1, 1) := by decide +kernel
theorem dX12_isPromised_21 : decode cX12_isPromised 21 = .ok (.goto 4, 3) := by decide +kernel
theorem dX12_isPromised_24 : decode cX12_isPromised 24 = .ok (.iconst 0, 1) := by decide +kernel
theorem dX12_isPromised_25 : decode cX12_isPromised 25 = .ok (.ireturn, 1) := by decide +kernel
theorem dX12_lay_0 : decode cX12_lay 0 = .ok (.aload_n 0, 1) := by decide +kernel
theorem dX12_lay_1 : decode cX12_lay 1 = .ok (.getfield 7, 3) := by decide +kernel
theorem dX12_lay_4 : decode cX12_lay 4 = .ok (.iconst 5, 1) := by decide +kernel
theorem dX12_lay_5 : decode cX12_lay 5 = .ok (.iload_n 1, 1) := by decide +kernel
theorem dX12_lay_6 : decode cX12_lay 6 = .ok (.imul, 1) := by decide +kernel
theorem dX12_lay_7 : decode cX12_lay 7 = .ok (.iload_n 2, 1) := by decide +kernel
theorem dX12_lay_8 : decode cX12_lay 8 = .ok (.iastore, 1) := by decide +kernel
theorem dX12_lay_9 : decode cX12_lay 9 = .ok (.aload_n 0, 1) := by decide +kernel
theorem dX12_lay_10 : decode cX12_lay 10 = .ok (.getfield 7, 3) := by decide +kernel
theorem dX12_lay_13 : decode cX12_lay 13 = .ok (.iconst 5, 1) := by decide +kernel
theorem dX12_lay_14 : decode cX12_lay 14 = .ok (.iload_n 1, 1) := by decide +kernel
theorem dX12_lay_15 : decode cX12_lay 15 = .ok (.imul, 1) := by decide +kernel
theorem dX12_lay_16 : decode cX12_lay 16 = .ok (.iconst 1, 1) := by decide +kernel
theorem dX12_lay_17 : decode cX12_lay 17 = .ok (.iadd, 1) := by decide +kernel
theorem dX12_lay_18 : decode cX12_lay 18 = .ok (.iload_n 2, 1) := by decide +kernel
theorem dX12_lay_19 : decode cX12_lay 19 = .ok (.iload_n 3, 1) := by decide +kernel
theorem dX12_lay_20 : decode cX12_lay 20 = .ok (.invokestatic 107, 3) := by decide +kernel
theorem dX12_lay_23 : decode cX12_lay 23 = .ok (.iastore, 1) := by decide +kernel
theorem dX12_lay_24 : decode cX12_lay 24 = .ok (.aload_n 0, 1) := by decide +kernel
theorem dX12_lay_25 : decode cX12_lay 25 = .ok (.getfield 7, 3) := by decide +kernel
theorem dX12_lay_28 : decode cX12_lay 28 = .ok (.iconst 5, 1) := by decide +kernel
theorem dX12_lay_29 : decode cX12_lay 29 = .ok (.iload_n 1, 1) := by decide +kernel
theorem dX12_lay_30 : decode cX12_lay 30 = .ok (.imul, 1) := by decide +kernel
theorem dX12_lay_31 : decode cX12_lay 31 = .ok (.iconst 2, 1) := by decide +kernel
theorem dX12_lay_32 : decode cX12_lay 32 = .ok (.iadd, 1) := by decide +kernel
theorem dX12_lay_33 : decode cX12_lay 33 = .ok (.iload 4, 2) := by decide +kernel
theorem dX12_lay_35 : decode cX12_lay 35 = .ok (.iastore, 1) := by decide +kernel
theorem dX12_lay_36 : decode cX12_lay 36 = .ok (.aload_n 0, 1) := by decide +kernel
theorem dX12_lay_37 : decode cX12_lay 37 = .ok (.getfield 7, 3) := by decide +kernel
theorem dX12_lay_40 : decode cX12_lay 40 = .ok (.iconst 5, 1) := by decide +kernel
theorem dX12_lay_41 : decode cX12_lay 41 = .ok (.iload_n 1, 1) := by decide +kernel
theorem dX12_lay_42 : decode cX12_lay 42 = .ok (.imul, 1) := by decide +kernel
theorem dX12_lay_43 : decode cX12_lay 43 = .ok (.iconst 3, 1) := by decide +kernel
theorem dX12_lay_44 : decode cX12_lay 44 = .ok (.iadd, 1) := by decide +kernel
theorem dX12_lay_45 : decode cX12_lay 45 = .ok (.iload 5, 2) := by decide +kernel
theorem dX12_lay_47 : decode cX12_lay 47 = .ok (.iastore, 1) := by decide +kernel
theorem dX12_lay_48 : decode cX12_lay 48 = .ok (.aload_n 0, 1) := by decide +kernel
theorem dX12_lay_49 : decode cX12_lay 49 = .ok (.getfield 7, 3) := by decide +kernel
theorem dX12_lay_52 : decode cX12_lay 52 = .ok (.iconst 5, 1) := by decide +kernel
theorem dX12_lay_53 : decode cX12_lay 53 = .ok (.iload_n 1, 1) := by decide +kernel
theorem dX12_lay_54 : decode cX12_lay 54 = .ok (.imul, 1) := by decide +kernel
theorem dX12_lay_55 : decode cX12_lay 55 = .ok (.iconst 4, 1) := by decide +kernel
theorem dX12_lay_56 : decode cX12_lay 56 = .ok (.iadd, 1) := by decide +kernel
theorem dX12_lay_57 : decode cX12_lay 57 = .ok (.iload 6, 2) := by decide +kernel
theorem dX12_lay_59 : decode cX12_lay 59 = .ok (.iastore, 1) := by decide +kernel
theorem dX12_lay_60 : decode cX12_lay 60 = .ok (.return_, 1) := by decide +kernel
theorem dX12_feed_0 : decode cX12_feed 0 = .ok (.iload_n 3, 1) := by decide +kernel
theorem dX12_feed_1 : decode cX12_feed 1 = .ok (.iconst 1, 1) := by decide +kernel
theorem dX12_feed_2 : decode cX12_feed 2 = .ok (.bipush 8, 2) := by decide +kernel
theorem dX12_feed_4 : decode cX12_feed 4 = .ok (.invokestatic 99, 3) := by decide +kernel
theorem dX12_feed_7 : decode cX12_feed 7 = .ok (.ifCond .ne 5, 3) := by decide +kernel
theorem dX12_feed_10 : decode cX12_feed 10 = .ok (.iconst (-1), 1) := by decide +kernel
theorem dX12_feed_11 : decode cX12_feed 11 = .ok (.ireturn, 1) := by decide +kernel
theorem dX12_feed_12 : decode cX12_feed 12 = .ok (.aload_n 0, 1) := by decide +kernel
theorem dX12_feed_13 : decode cX12_feed 13 = .ok (.getfield 111, 3) := by decide +kernel
theorem dX12_feed_16 : decode cX12_feed 16 = .ok (.iload_n 3, 1) := by decide +kernel
theorem dX12_feed_17 : decode cX12_feed 17 = .ok (.iadd, 1) := by decide +kernel
theorem dX12_feed_18 : decode cX12_feed 18 = .ok (.sipush 200, 3) := by decide +kernel
theorem dX12_feed_21 : decode cX12_feed 21 = .ok (.if_icmp .le 6, 3) := by decide +kernel
theorem dX12_feed_24 : decode cX12_feed 24 = .ok (.bipush (-2), 2) := by decide +kernel
theorem dX12_feed_26 : decode cX12_feed 26 = .ok (.ireturn, 1) := by decide +kernel
theorem dX12_feed_27 : decode cX12_feed 27 = .ok (.iconst 0, 1) := by decide +kernel
theorem dX12_feed_28 : decode cX12_feed 28 = .ok (.istore 4, 2) := by decide +kernel
theorem dX12_feed_30 : decode cX12_feed 30 = .ok (.iload 4, 2) := by decide +kernel
theorem dX12_feed_32 : decode cX12_feed 32 = .ok (.iload_n 3, 1) := by decide +kernel
theorem dX12_feed_33 : decode cX12_feed 33 = .ok (.if_icmp .ge 40, 3) := by decide +kernel
theorem dX12_feed_36 : decode cX12_feed 36 = .ok (.aload_n 0, 1) := by decide +kernel
theorem dX12_feed_37 : decode cX12_feed 37 = .ok (.getfield 38, 3) := by decide +kernel
theorem dX12_feed_40 : decode cX12_feed 40 = .ok (.aload_n 0, 1) := by decide +kernel
theorem dX12_feed_41 : decode cX12_feed 41 = .ok (.getfield 111, 3) := by decide +kernel
theorem dX12_feed_44 : decode cX12_feed 44 = .ok (.lload_n 1, 1) := by decide +kernel
theorem dX12_feed_45 : decode cX12_feed 45 = .ok (.bipush 8, 2) := by decide +kernel
theorem dX12_feed_47 : decode cX12_feed 47 = .ok (.iload 4, 2) := by decide +kernel
theorem dX12_feed_49 : decode cX12_feed 49 = .ok (.imul, 1) := by decide +kernel
theorem dX12_feed_50 : decode cX12_feed 50 = .ok (.lshr, 1) := by decide +kernel
theorem dX12_feed_51 : decode cX12_feed 51 = .ok (.ldc2_w 114, 3) := by decide +kernel
theorem dX12_feed_54 : decode cX12_feed 54 = .ok (.land, 1) := by decide +kernel
theorem dX12_feed_55 : decode cX12_feed 55 = .ok (.l2i, 1) := by decide +kernel
theorem dX12_feed_56 : decode cX12_feed 56 = .ok (.iastore, 1) := by decide +kernel
theorem dX12_feed_57 : decode cX12_feed 57 = .ok (.aload_n 0, 1) := by decide +kernel
theorem dX12_feed_58 : decode cX12_feed 58 = .ok (.dup, 1) := by decide +kernel
theorem dX12_feed_59 : decode cX12_feed 59 = .ok (.getfield 111, 3) := by decide +kernel
theorem dX12_feed_62 : decode cX12_feed 62 = .ok (.iconst 1, 1) := by decide +kernel
theorem dX12_feed_63 : decode cX12_feed 63 = .ok (.iadd, 1) := by decide +kernel
theorem dX12_feed_64 : decode cX12_feed 64 = .ok (.putfield 111, 3) := by decide +kernel
theorem dX12_feed_67 : decode cX12_feed 67 = .ok (.iinc 4 1, 3) := by decide +kernel
theorem dX12_feed_70 : decode cX12_feed 70 = .ok (.goto (-40), 3) := by decide +kernel
theorem dX12_feed_73 : decode cX12_feed 73 = .ok (.aload_n 0, 1) := by decide +kernel
theorem dX12_feed_74 : decode cX12_feed 74 = .ok (.getfield 111, 3) := by decide +kernel
theorem dX12_feed_77 : decode cX12_feed 77 = .ok (.ireturn, 1) := by decide +kernel
theorem dX12_byteAt_0 : decode cX12_byteAt 0 = .ok (.iload_n 1, 1) := by decide +kernel
theorem dX12_byteAt_1 : decode cX12_byteAt 1 = .ok (.aload_n 0, 1) := by decide +kernel
theorem dX12_byteAt_2 : decode cX12_byteAt 2 = .ok (.getfield 111, 3) := by decide +kernel
theorem dX12_byteAt_5 : decode cX12_byteAt 5 = .ok (.if_icmp .ge 12, 3) := by decide +kernel
theorem dX12_byteAt_8 : decode cX12_byteAt 8 = .ok (.aload_n 0, 1) := by decide +kernel
theorem dX12_byteAt_9 : decode cX12_byteAt 9 = .ok (.getfield 38, 3) := by decide +kernel
theorem dX12_byteAt_12 : decode cX12_byteAt 12 = .ok (.iload_n 1, 1) := by decide +kernel
theorem dX12_byteAt_13 : decode cX12_byteAt 13 = .ok (.iaload, 1) := by decide +kernel
theorem dX12_byteAt_14 : decode cX12_byteAt 14 = .ok (.goto 4, 3) := by decide +kernel
theorem dX12_byteAt_17 : decode cX12_byteAt 17 = .ok (.iconst (-1), 1) := by decide +kernel
theorem dX12_byteAt_18 : decode cX12_byteAt 18 = .ok (.ireturn, 1) := by decide +kernel
theorem dX12_isLetter_0 : decode cX12_isLetter 0 = .ok (.iload_n 0, 1) := by decide +kernel
theorem dX12_isLetter_1 : decode cX12_isLetter 1 = .ok (.bipush 97, 2) := by decide +kernel
theorem dX12_isLetter_3 : decode cX12_isLetter 3 = .ok (.bipush 122, 2) := by decide +kernel
theorem dX12_isLetter_5 : decode cX12_isLetter 5 = .ok (.invokestatic 99, 3) := by decide +kernel
theorem dX12_isLetter_8 : decode cX12_isLetter 8 = .ok (.ireturn, 1) := by decide +kernel
theorem dX12_isDigit_0 : decode cX12_isDigit 0 = .ok (.iload_n 0, 1) := by decide +kernel
theorem dX12_isDigit_1 : decode cX12_isDigit 1 = .ok (.bipush 48, 2) := by decide +kernel
theorem dX12_isDigit_3 : decode cX12_isDigit 3 = .ok (.bipush 57, 2) := by decide +kernel
theorem dX12_isDigit_5 : decode cX12_isDigit 5 = .ok (.invokestatic 99, 3) := by decide +kernel
theorem dX12_isDigit_8 : decode cX12_isDigit 8 = .ok (.ireturn, 1) := by decide +kernel
theorem dX12_advance_0 : decode cX12_advance 0 = .ok (.aload_n 0, 1) := by decide +kernel
theorem dX12_advance_1 : decode cX12_advance 1 = .ok (.aload_n 0, 1) := by decide +kernel
theorem dX12_advance_2 : decode cX12_advance 2 = .ok (.getfield 116, 3) := by decide +kernel
theorem dX12_advance_5 : decode cX12_advance 5 = .ok (.putfield 119, 3) := by decide +kernel
theorem dX12_advance_8 : decode cX12_advance 8 = .ok (.aload_n 0, 1) := by decide +kernel
theorem dX12_advance_9 : decode cX12_advance 9 = .ok (.aload_n 0, 1) := by decide +kernel
theorem dX12_advance_10 : decode cX12_advance 10 = .ok (.getfield 119, 3) := by decide +kernel
theorem dX12_advance_13 : decode cX12_advance 13 = .ok (.invokevirtual 122, 3) := by decide +kernel
theorem dX12_advance_16 : decode cX12_advance 16 = .ok (.bipush 32, 2) := by decide +kernel
theorem dX12_advance_18 : decode cX12_advance 18 = .ok (.if_icmp .ne 16, 3) := by decide +kernel
theorem dX12_advance_21 : decode cX12_advance 21 = .ok (.aload_n 0, 1) := by decide +kernel
theorem dX12_advance_22 : decode cX12_advance 22 = .ok (.dup, 1) := by decide +kernel
theorem dX12_advance_23 : decode cX12_advance 23 = .ok (.getfield 119, 3) := by decide +kernel
theorem dX12_advance_26 : decode cX12_advance 26 = .ok (.iconst 1, 1) := by decide +kernel
theorem dX12_advance_27 : decode cX12_advance 27 = .ok (.iadd, 1) := by decide +kernel
theorem dX12_advance_28 : decode cX12_advance 28 = .ok (.putfield 119, 3) := by decide +kernel
theorem dX12_advance_31 : decode cX12_advance 31 = .ok (.goto (-23), 3) := by decide +kernel
theorem dX12_advance_34 : decode cX12_advance 34 = .ok (.aload_n 0, 1) := by decide +kernel
theorem dX12_advance_35 : decode cX12_advance 35 = .ok (.aload_n 0, 1) := by decide +kernel
theorem dX12_advance_36 : decode cX12_advance 36 = .ok (.getfield 119, 3) := by decide +kernel
theorem dX12_advance_39 : decode cX12_advance 39 = .ok (.putfield 116, 3) := by decide +kernel
theorem dX12_advance_42 : decode cX12_advance 42 = .ok (.aload_n 0, 1) := by decide +kernel
theorem dX12_advance_43 : decode cX12_advance 43 = .ok (.aload_n 0, 1) := by decide +kernel
theorem dX12_advance_44 : decode cX12_advance 44 = .ok (.getfield 119, 3) := by decide +kernel
theorem dX12_advance_47 : decode cX12_advance 47 = .ok (.invokevirtual 122, 3) := by decide +kernel
theorem dX12_advance_50 : decode cX12_advance 50 = .ok (.istore_n 1, 1) := by decide +kernel
theorem dX12_advance_51 : decode cX12_advance 51 = .ok (.aload_n 0, 1) := by decide +kernel
theorem dX12_advance_52 : decode cX12_advance 52 = .ok (.iload_n 1, 1) := by decide +kernel
theorem dX12_advance_53 : decode cX12_advance 53 = .ok (.ifCond .ge 7, 3) := by decide +kernel
theorem dX12_advance_56 : decode cX12_advance 56 = .ok (.iconst 0, 1) := by decide +kernel
theorem dX12_advance_57 : decode cX12_advance 57 = .ok (.goto 26, 3) := by decide +kernel
theorem dX12_advance_60 : decode cX12_advance 60 = .ok (.iload_n 1, 1) := by decide +kernel
theorem dX12_advance_61 : decode cX12_advance 61 = .ok (.invokestatic 126, 3) := by decide +kernel
theorem dX12_advance_64 : decode cX12_advance 64 = .ok (.ifCond .eq 7, 3) := by decide +kernel
theorem dX12_advance_67 : decode cX12_advance 67 = .ok (.iconst 1, 1) := by decide +kernel
theorem dX12_advance_68 : decode cX12_advance 68 = .ok (.goto 15, 3) := by decide +kernel
theorem dX12_advance_71 : decode cX12_advance 71 = .ok (.iload_n 1, 1) := by decide +kernel
theorem dX12_advance_72 : decode cX12_advance 72 = .ok (.invokestatic 129, 3) := by decide +kernel
theorem dX12_advance_75 : decode cX12_advance 75 = .ok (.ifCond .eq 7, 3) := by decide +kernel
theorem dX12_advance_78 : decode cX12_advance 78 = .ok (.iconst 2, 1) := by decide +kernel
theorem dX12_advance_79 : decode cX12_advance 79 = .ok (.goto 4, 3) := by decide +kernel
theorem dX12_advance_82 : decode cX12_advance 82 = .ok (.iconst 3, 1) := by decide +kernel
theorem dX12_advance_83 : decode cX12_advance 83 = .ok (.putfield 132, 3) := by decide +kernel
theorem dX12_advance_86 : decode cX12_advance 86 = .ok (.aload_n 0, 1) := by decide +kernel
theorem dX12_advance_87 : decode cX12_advance 87 = .ok (.lconst 0, 1) := by decide +kernel
theorem dX12_advance_88 : decode cX12_advance 88 = .ok (.putfield 135, 3) := by decide +kernel
theorem dX12_advance_91 : decode cX12_advance 91 = .ok (.aload_n 0, 1) := by decide +kernel
theorem dX12_advance_92 : decode cX12_advance 92 = .ok (.aload_n 0, 1) := by decide +kernel
theorem dX12_advance_93 : decode cX12_advance 93 = .ok (.getfield 132, 3) := by decide +kernel
theorem dX12_advance_96 : decode cX12_advance 96 = .ok (.iconst 2, 1) := by decide +kernel
theorem dX12_advance_97 : decode cX12_advance 97 = .ok (.if_icmp .ne 7, 3) := by decide +kernel
theorem dX12_advance_100 : decode cX12_advance 100 = .ok (.iconst 0, 1) := by decide +kernel
theorem dX12_advance_101 : decode cX12_advance 101 = .ok (.goto 4, 3) := by decide +kernel
theorem dX12_advance_104 : decode cX12_advance 104 = .ok (.iload_n 1, 1) := by decide +kernel
theorem dX12_advance_105 : decode cX12_advance 105 = .ok (.putfield 139, 3) := by decide +kernel
theorem dX12_advance_108 : decode cX12_advance 108 = .ok (.aload_n 0, 1) := by decide +kernel
theorem dX12_advance_109 : decode cX12_advance 109 = .ok (.getfield 132, 3) := by decide +kernel
theorem dX12_advance_112 : decode cX12_advance 112 = .ok (.iconst 3, 1) := by decide +kernel
theorem dX12_advance_113 : decode cX12_advance 113 = .ok (.if_icmp .ne 13, 3) := by decide +kernel
theorem dX12_advance_116 : decode cX12_advance 116 = .ok (.aload_n 0, 1) := by decide +kernel
theorem dX12_advance_117 : decode cX12_advance 117 = .ok (.dup, 1) := by decide +kernel
theorem dX12_advance_118 : decode cX12_advance 118 = .ok (.getfield 116, 3) := by decide +kernel
theorem dX12_advance_121 : decode cX12_advance 121 = .ok (.iconst 1, 1) := by decide +kernel
theorem dX12_advance_122 : decode cX12_advance 122 = .ok (.iadd, 1) := by decide +kernel
theorem dX12_advance_123 : decode cX12_advance 123 = .ok (.putfield 116, 3) := by decide +kernel
theorem dX12_advance_126 : decode cX12_advance 126 = .ok (.aload_n 0, 1) := by decide +kernel
theorem dX12_advance_127 : decode cX12_advance 127 = .ok (.getfield 132, 3) := by decide +kernel
theorem dX12_advance_130 : decode cX12_advance 130 = .ok (.iconst 1, 1) := by decide +kernel
theorem dX12_advance_131 : decode cX12_advance 131 = .ok (.if_icmp .ne 76, 3) := by decide +kernel
theorem dX12_advance_134 : decode cX12_advance 134 = .ok (.aload_n 0, 1) := by decide +kernel
theorem dX12_advance_135 : decode cX12_advance 135 = .ok (.aload_n 0, 1) := by decide +kernel
theorem dX12_advance_136 : decode cX12_advance 136 = .ok (.getfield 116, 3) := by decide +kernel
theorem dX12_advance_139 : decode cX12_advance 139 = .ok (.invokevirtual 122, 3) := by decide +kernel
theorem dX12_advance_142 : decode cX12_advance 142 = .ok (.invokestatic 126, 3) := by decide +kernel
theorem dX12_advance_145 : decode cX12_advance 145 = .ok (.ifCond .eq 62, 3) := by decide +kernel
theorem dX12_advance_148 : decode cX12_advance 148 = .ok (.aload_n 0, 1) := by decide +kernel
theorem dX12_advance_149 : decode cX12_advance 149 = .ok (.aload_n 0, 1) := by decide +kernel
theorem dX12_advance_150 : decode cX12_advance 150 = .ok (.getfield 116, 3) := by decide +kernel
theorem dX12_advance_153 : decode cX12_advance 153 = .ok (.aload_n 0, 1) := by decide +kernel
theorem dX12_advance_154 : decode cX12_advance 154 = .ok (.getfield 119, 3) := by decide +kernel
theorem dX12_advance_157 : decode cX12_advance 157 = .ok (.isub, 1) := by decide +kernel
theorem dX12_advance_158 : decode cX12_advance 158 = .ok (.bipush 8, 2) := by decide +kernel
theorem dX12_advance_160 : decode cX12_advance 160 = .ok (.if_icmp .ge 28, 3) := by decide +kernel
theorem dX12_advance_163 : decode cX12_advance 163 = .ok (.ldc2_w 142, 3) := by decide +kernel
theorem dX12_advance_166 : decode cX12_advance 166 = .ok (.aload_n 0, 1) := by decide +kernel
theorem dX12_advance_167 : decode cX12_advance 167 = .ok (.getfield 135, 3) := by decide +kernel
theorem dX12_advance_170 : decode cX12_advance 170 = .ok (.lmul, 1) := by decide +kernel
theorem dX12_advance_171 : decode cX12_advance 171 = .ok (.aload_n 0, 1) := by decide +kernel
theorem dX12_advance_172 : decode cX12_advance 172 = .ok (.aload_n 0, 1) := by decide +kernel
theorem dX12_advance_173 : decode cX12_advance 173 = .ok (.getfield 116, 3) := by decide +kernel
theorem dX12_advance_176 : decode cX12_advance 176 = .ok (.invokevirtual 122, 3) := by decide +kernel
theorem dX12_advance_179 : decode cX12_advance 179 = .ok (.i2l, 1) := by decide +kernel
theorem dX12_advance_180 : decode cX12_advance 180 = .ok (.ladd, 1) := by decide +kernel
theorem dX12_advance_181 : decode cX12_advance 181 = .ok (.ldc2_w 144, 3) := by decide +kernel
theorem dX12_advance_184 : decode cX12_advance 184 = .ok (.lsub, 1) := by decide +kernel
theorem dX12_advance_185 : decode cX12_advance 185 = .ok (.goto 6, 3) := by decide +kernel
theorem dX12_advance_188 : decode cX12_advance 188 = .ok (.ldc2_w 146, 3) := by decide +kernel
theorem dX12_advance_191 : decode cX12_advance 191 = .ok (.putfield 135, 3) := by decide +kernel
theorem dX12_advance_194 : decode cX12_advance 194 = .ok (.aload_n 0, 1) := by decide +kernel
theorem dX12_advance_195 : decode cX12_advance 195 = .ok (.dup, 1) := by decide +kernel
theorem dX12_advance_196 : decode cX12_advance 196 = .ok (.getfield 116, 3) := by decide +kernel
theorem dX12_advance_199 : decode cX12_advance 199 = .ok (.iconst 1, 1) := by decide +kernel
theorem dX12_advance_200 : decode cX12_advance 200 = .ok (.iadd, 1) := by decide +kernel
theorem dX12_advance_201 : decode cX12_advance 201 = .ok (.putfield 116, 3) := by decide +kernel
theorem dX12_advance_204 : decode cX12_advance 204 = .ok (.goto (-78), 3) := by decide +kernel
theorem dX12_advance_207 : decode cX12_advance 207 = .ok (.aload_n 0, 1) := by decide +kernel
theorem dX12_advance_208 : decode cX12_advance 208 = .ok (.getfield 132, 3) := by decide +kernel
theorem dX12_advance_211 : decode cX12_advance 211 = .ok (.iconst 2, 1) := by decide +kernel
theorem dX12_advance_212 : decode cX12_advance 212 = .ok (.if_icmp .ne 70, 3) := by decide +kernel
theorem dX12_advance_215 : decode cX12_advance 215 = .ok (.aload_n 0, 1) := by decide +kernel
theorem dX12_advance_216 : decode cX12_advance 216 = .ok (.aload_n 0, 1) := by decide +kernel
theorem dX12_advance_217 : decode cX12_advance 217 = .ok (.getfield 116, 3) := by decide +kernel
theorem dX12_advance_220 : decode cX12_advance 220 = .ok (.invokevirtual 122, 3) := by decide +kernel
theorem dX12_advance_223 : decode cX12_advance 223 = .ok (.invokestatic 129, 3) := by decide +kernel
theorem dX12_advance_226 : decode cX12_advance 226 = .ok (.ifCond .eq 56, 3) := by decide +kernel
theorem dX12_advance_229 : decode cX12_advance 229 = .ok (.aload_n 0, 1) := by decide +kernel
theorem dX12_advance_230 : decode cX12_advance 230 = .ok (.aload_n 0, 1) := by decide +kernel
theorem dX12_advance_231 : decode cX12_advance 231 = .ok (.getfield 116, 3) := by decide +kernel
theorem dX12_advance_234 : decode cX12_advance 234 = .ok (.aload_n 0, 1) := by decide +kernel
theorem dX12_advance_235 : decode cX12_advance 235 = .ok (.getfield 119, 3) := by decide +kernel
theorem dX12_advance_238 : decode cX12_advance 238 = .ok (.isub, 1) := by decide +kernel
theorem dX12_advance_239 : decode cX12_advance 239 = .ok (.iconst 2, 1) := by decide +kernel
theorem dX12_advance_240 : decode cX12_advance 240 = .ok (.if_icmp .ge 25, 3) := by decide +kernel
theorem dX12_advance_243 : decode cX12_advance 243 = .ok (.bipush 10, 2) := by decide +kernel
theorem dX12_advance_245 : decode cX12_advance 245 = .ok (.aload_n 0, 1) := by decide +kernel
theorem dX12_advance_246 : decode cX12_advance 246 = .ok (.getfield 139, 3) := by decide +kernel
theorem dX12_advance_249 : decode cX12_advance 249 = .ok (.imul, 1) := by decide +kernel
theorem dX12_advance_250 : decode cX12_advance 250 = .ok (.aload_n 0, 1) := by decide +kernel
theorem dX12_advance_251 : decode cX12_advance 251 = .ok (.aload_n 0, 1) := by decide +kernel
theorem dX12_advance_252 : decode cX12_advance 252 = .ok (.getfield 116, 3) := by decide +kernel
theorem dX12_advance_255 : decode cX12_advance 255 = .ok (.invokevirtual 122, 3) := by decide +kernel
theorem dX12_advance_258 : decode cX12_advance 258 = .ok (.iadd, 1) := by decide +kernel
theorem dX12_advance_259 : decode cX12_advance 259 = .ok (.bipush 48, 2) := by decide +kernel
theorem dX12_advance_261 : decode cX12_advance 261 = .ok (.isub, 1) := by decide +kernel
theorem dX12_advance_262 : decode cX12_advance 262 = .ok (.goto 4, 3) := by decide +kernel
theorem dX12_advance_265 : decode cX12_advance 265 = .ok (.iconst (-1), 1) := by decide +kernel
theorem dX12_advance_266 : decode cX12_advance 266 = .ok (.putfield 139, 3) := by decide +kernel
theorem dX12_advance_269 : decode cX12_advance 269 = .ok (.aload_n 0, 1) := by decide +kernel
theorem dX12_advance_270 : decode cX12_advance 270 = .ok (.dup, 1) := by decide +kernel
theorem dX12_advance_271 : decode cX12_advance 271 = .ok (.getfield 116, 3) := by decide +kernel
theorem dX12_advance_274 : decode cX12_advance 274 = .ok (.iconst 1, 1) := by decide +kernel
theorem dX12_advance_275 : decode cX12_advance 275 = .ok (.iadd, 1) := by decide +kernel
theorem dX12_advance_276 : decode cX12_advance 276 = .ok (.putfield 116, 3) := by decide +kernel
theorem dX12_advance_279 : decode cX12_advance 279 = .ok (.goto (-72), 3) := by decide +kernel
theorem dX12_advance_282 : decode cX12_advance 282 = .ok (.return_, 1) := by decide +kernel
theorem dX12_isWord_0 : decode cX12_isWord 0 = .ok (.aload_n 0, 1) := by decide +kernel
theorem dX12_isWord_1 : decode cX12_isWord 1 = .ok (.getfield 132, 3) := by decide +kernel
theorem dX12_isWord_4 : decode cX12_isWord 4 = .ok (.iconst 1, 1) := by decide +kernel
theorem dX12_isWord_5 : decode cX12_isWord 5 = .ok (.if_icmp .ne 16, 3) := by decide +kernel
theorem dX12_isWord_8 : decode cX12_isWord 8 = .ok (.aload_n 0, 1) := by decide +kernel
theorem dX12_isWord_9 : decode cX12_isWord 9 = .ok (.getfield 135, 3) := by decide +kernel
theorem dX12_isWord_12 : decode cX12_isWord 12 = .ok (.lload_n 1, 1) := by decide +kernel
theorem dX12_isWord_13 : decode cX12_isWord 13 = .ok (.lcmp, 1) := by decide +kernel
theorem dX12_isWord_14 : decode cX12_isWord 14 = .ok (.ifCond .ne 7, 3) := by decide +kernel
theorem dX12_isWord_17 : decode cX12_isWord 17 = .ok (.iconst 1, 1) := by decide +kernel
theorem dX12_isWord_18 : decode cX12_isWord 18 = .ok (.goto 4, 3) := by decide +kernel
theorem dX12_isWord_21 : decode cX12_isWord 21 = .ok (.iconst 0, 1) := by decide +kernel
theorem dX12_isWord_22 : decode cX12_isWord 22 = .ok (.ireturn, 1) := by decide +kernel
theorem dX12_isMark_0 : decode cX12_isMark 0 = .ok (.aload_n 0, 1) := by decide +kernel
theorem dX12_isMark_1 : decode cX12_isMark 1 = .ok (.getfield 132, 3) := by decide +kernel
theorem dX12_isMark_4 : decode cX12_isMark 4 = .ok (.iconst 3, 1) := by decide +kernel
theorem dX12_isMark_5 : decode cX12_isMark 5 = .ok (.if_icmp .ne 15, 3) := by decide +kernel
theorem dX12_isMark_8 : decode cX12_isMark 8 = .ok (.aload_n 0, 1) := by decide +kernel
theorem dX12_isMark_9 : decode cX12_isMark 9 = .ok (.getfield 139, 3) := by decide +kernel
theorem dX12_isMark_12 : decode cX12_isMark 12 = .ok (.iload_n 1, 1) := by decide +kernel
theorem dX12_isMark_13 : decode cX12_isMark 13 = .ok (.if_icmp .ne 7, 3) := by decide +kernel
theorem dX12_isMark_16 : decode cX12_isMark 16 = .ok (.iconst 1, 1) := by decide +kernel
theorem dX12_isMark_17 : decode cX12_isMark 17 = .ok (.goto 4, 3) := by decide +kernel
theorem dX12_isMark_20 : decode cX12_isMark 20 = .ok (.iconst 0, 1) := by decide +kernel
theorem dX12_isMark_21 : decode cX12_isMark 21 = .ok (.ireturn, 1) := by decide +kernel
theorem dX12_kindHere_0 : decode cX12_kindHere 0 = .ok (.aload_n 0, 1) := by decide +kernel
theorem dX12_kindHere_1 : decode cX12_kindHere 1 = .ok (.ldc2_w 148, 3) := by decide +kernel
theorem dX12_kindHere_4 : decode cX12_kindHere 4 = .ok (.invokevirtual 150, 3) := by decide +kernel
theorem dX12_kindHere_7 : decode cX12_kindHere 7 = .ok (.ifCond .eq 7, 3) := by decide +kernel
theorem dX12_kindHere_10 : decode cX12_kindHere 10 = .ok (.iconst 0, 1) := by decide +kernel
theorem dX12_kindHere_11 : decode cX12_kindHere 11 = .ok (.goto 74, 3) := by decide +kernel
theorem dX12_kindHere_14 : decode cX12_kindHere 14 = .ok (.aload_n 0, 1) := by decide +kernel
theorem dX12_kindHere_15 : decode cX12_kindHere 15 = .ok (.ldc2_w 154, 3) := by decide +kernel
theorem dX12_kindHere_18 : decode cX12_kindHere 18 = .ok (.invokevirtual 150, 3) := by decide +kernel
theorem dX12_kindHere_21 : decode cX12_kindHere 21 = .ok (.ifCond .eq 7, 3) := by decide +kernel
theorem dX12_kindHere_24 : decode cX12_kindHere 24 = .ok (.iconst 1, 1) := by decide +kernel
theorem dX12_kindHere_25 : decode cX12_kindHere 25 = .ok (.goto 60, 3) := by decide +kernel
theorem dX12_kindHere_28 : decode cX12_kindHere 28 = .ok (.aload_n 0, 1) := by decide +kernel
theorem dX12_kindHere_29 : decode cX12_kindHere 29 = .ok (.ldc2_w 156, 3) := by decide +kernel
theorem dX12_kindHere_32 : decode cX12_kindHere 32 = .ok (.invokevirtual 150, 3) := by decide +kernel
theorem dX12_kindHere_35 : decode cX12_kindHere 35 = .ok (.ifCond .eq 7, 3) := by decide +kernel
theorem dX12_kindHere_38 : decode cX12_kindHere 38 = .ok (.iconst 2, 1) := by decide +kernel
theorem dX12_kindHere_39 : decode cX12_kindHere 39 = .ok (.goto 46, 3) := by decide +kernel
theorem dX12_kindHere_42 : decode cX12_kindHere 42 = .ok (.aload_n 0, 1) := by decide +kernel
theorem dX12_kindHere_43 : decode cX12_kindHere 43 = .ok (.ldc2_w 158, 3) := by decide +kernel
theorem dX12_kindHere_46 : decode cX12_kindHere 46 = .ok (.invokevirtual 150, 3) := by decide +kernel
theorem dX12_kindHere_49 : decode cX12_kindHere 49 = .ok (.ifCond .eq 7, 3) := by decide +kernel
theorem dX12_kindHere_52 : decode cX12_kindHere 52 = .ok (.iconst 3, 1) := by decide +kernel
theorem dX12_kindHere_53 : decode cX12_kindHere 53 = .ok (.goto 32, 3) := by decide +kernel
theorem dX12_kindHere_56 : decode cX12_kindHere 56 = .ok (.aload_n 0, 1) := by decide +kernel
theorem dX12_kindHere_57 : decode cX12_kindHere 57 = .ok (.ldc2_w 160, 3) := by decide +kernel
theorem dX12_kindHere_60 : decode cX12_kindHere 60 = .ok (.invokevirtual 150, 3) := by decide +kernel
theorem dX12_kindHere_63 : decode cX12_kindHere 63 = .ok (.ifCond .eq 7, 3) := by decide +kernel
theorem dX12_kindHere_66 : decode cX12_kindHere 66 = .ok (.iconst 4, 1) := by decide +kernel
theorem dX12_kindHere_67 : decode cX12_kindHere 67 = .ok (.goto 18, 3) := by decide +kernel
theorem dX12_kindHere_70 : decode cX12_kindHere 70 = .ok (.aload_n 0, 1) := by decide +kernel
theorem dX12_kindHere_71 : decode cX12_kindHere 71 = .ok (.ldc2_w 162, 3) := by decide +kernel
theorem dX12_kindHere_74 : decode cX12_kindHere 74 = .ok (.invokevirtual 150, 3) := by decide +kernel
theorem dX12_kindHere_77 : decode cX12_kindHere 77 = .ok (.ifCond .eq 7, 3) := by decide +kernel
theorem dX12_kindHere_80 : decode cX12_kindHere 80 = .ok (.iconst 5, 1) := by decide +kernel
theorem dX12_kindHere_81 : decode cX12_kindHere 81 = .ok (.goto 4, 3) := by decide +kernel
theorem dX12_kindHere_84 : decode cX12_kindHere 84 = .ok (.iconst (-1), 1) := by decide +kernel
theorem dX12_kindHere_85 : decode cX12_kindHere 85 = .ok (.ireturn, 1) := by decide +kernel
theorem dX12_lawHere_0 : decode cX12_lawHere 0 = .ok (.aload_n 0, 1) := by decide +kernel
theorem dX12_lawHere_1 : decode cX12_lawHere 1 = .ok (.ldc2_w 164, 3) := by decide +kernel
theorem dX12_lawHere_4 : decode cX12_lawHere 4 = .ok (.invokevirtual 150, 3) := by decide +kernel
theorem dX12_lawHere_7 : decode cX12_lawHere 7 = .ok (.ifCond .eq 7, 3) := by decide +kernel
theorem dX12_lawHere_10 : decode cX12_lawHere 10 = .ok (.iconst 0, 1) := by decide +kernel
theorem dX12_lawHere_11 : decode cX12_lawHere 11 = .ok (.goto 32, 3) := by decide +kernel
theorem dX12_lawHere_14 : decode cX12_lawHere 14 = .ok (.aload_n 0, 1) := by decide +kernel
theorem dX12_lawHere_15 : decode cX12_lawHere 15 = .ok (.ldc2_w 166, 3) := by decide +kernel
theorem dX12_lawHere_18 : decode cX12_lawHere 18 = .ok (.invokevirtual 150, 3) := by decide +kernel
theorem dX12_lawHere_21 : decode cX12_lawHere 21 = .ok (.ifCond .eq 7, 3) := by decide +kernel
theorem dX12_lawHere_24 : decode cX12_lawHere 24 = .ok (.iconst 2, 1) := by decide +kernel
theorem dX12_lawHere_25 : decode cX12_lawHere 25 = .ok (.goto 18, 3) := by decide +kernel
theorem dX12_lawHere_28 : decode cX12_lawHere 28 = .ok (.aload_n 0, 1) := by decide +kernel
theorem dX12_lawHere_29 : decode cX12_lawHere 29 = .ok (.ldc2_w 168, 3) := by decide +kernel
theorem dX12_lawHere_32 : decode cX12_lawHere 32 = .ok (.invokevirtual 150, 3) := by decide +kernel
theorem dX12_lawHere_35 : decode cX12_lawHere 35 = .ok (.ifCond .eq 7, 3) := by decide +kernel
theorem dX12_lawHere_38 : decode cX12_lawHere 38 = .ok (.iconst 1, 1) := by decide +kernel
theorem dX12_lawHere_39 : decode cX12_lawHere 39 = .ok (.goto 4, 3) := by decide +kernel
theorem dX12_lawHere_42 : decode cX12_lawHere 42 = .ok (.iconst (-1), 1) := by decide +kernel
theorem dX12_lawHere_43 : decode cX12_lawHere 43 = .ok (.ireturn, 1) := by decide +kernel
theorem dX12_wantNumber_0 : decode cX12_wantNumber 0 = .ok (.aload_n 0, 1) := by decide +kernel
theorem dX12_wantNumber_1 : decode cX12_wantNumber 1 = .ok (.getfield 139, 3) := by decide +kernel
theorem dX12_wantNumber_4 : decode cX12_wantNumber 4 = .ok (.istore_n 3, 1) := by decide +kernel
theorem dX12_wantNumber_5 : decode cX12_wantNumber 5 = .ok (.aload_n 0, 1) := by decide +kernel
theorem dX12_wantNumber_6 : decode cX12_wantNumber 6 = .ok (.aload_n 0, 1) := by decide +kernel
theorem dX12_wantNumber_7 : decode cX12_wantNumber 7 = .ok (.getfield 170, 3) := by decide +kernel
theorem dX12_wantNumber_10 : decode cX12_wantNumber 10 = .ok (.ifCond .eq 24, 3) := by decide +kernel
theorem dX12_wantNumber_13 : decode cX12_wantNumber 13 = .ok (.aload_n 0, 1) := by decide +kernel
theorem dX12_wantNumber_14 : decode cX12_wantNumber 14 = .ok (.getfield 132, 3) := by decide +kernel
theorem dX12_wantNumber_17 : decode cX12_wantNumber 17 = .ok (.iconst 2, 1) := by decide +kernel
theorem dX12_wantNumber_18 : decode cX12_wantNumber 18 = .ok (.if_icmp .ne 16, 3) := by decide +kernel
theorem dX12_wantNumber_21 : decode cX12_wantNumber 21 = .ok (.iload_n 3, 1) := by decide +kernel
theorem dX12_wantNumber_22 : decode cX12_wantNumber 22 = .ok (.iload_n 1, 1) := by decide +kernel
theorem dX12_wantNumber_23 : decode cX12_wantNumber 23 = .ok (.iload_n 2, 1) := by decide +kernel
theorem dX12_wantNumber_24 : decode cX12_wantNumber 24 = .ok (.invokestatic 99, 3) := by decide +kernel
theorem dX12_wantNumber_27 : decode cX12_wantNumber 27 = .ok (.ifCond .eq 7, 3) := by decide +kernel
theorem dX12_wantNumber_30 : decode cX12_wantNumber 30 = .ok (.iconst 1, 1) := by decide +kernel
theorem dX12_wantNumber_31 : decode cX12_wantNumber 31 = .ok (.goto 4, 3) := by decide +kernel
theorem dX12_wantNumber_34 : decode cX12_wantNumber 34 = .ok (.iconst 0, 1) := by decide +kernel
theorem dX12_wantNumber_35 : decode cX12_wantNumber 35 = .ok (.putfield 170, 3) := by decide +kernel
theorem dX12_wantNumber_38 : decode cX12_wantNumber 38 = .ok (.aload_n 0, 1) := by decide +kernel
theorem dX12_wantNumber_39 : decode cX12_wantNumber 39 = .ok (.getfield 170, 3) := by decide +kernel
theorem dX12_wantNumber_42 : decode cX12_wantNumber 42 = .ok (.ifCond .eq 7, 3) := by decide +kernel
theorem dX12_wantNumber_45 : decode cX12_wantNumber 45 = .ok (.aload_n 0, 1) := by decide +kernel
theorem dX12_wantNumber_46 : decode cX12_wantNumber 46 = .ok (.invokevirtual 174, 3) := by decide +kernel
theorem dX12_wantNumber_49 : decode cX12_wantNumber 49 = .ok (.iload_n 3, 1) := by decide +kernel
theorem dX12_wantNumber_50 : decode cX12_wantNumber 50 = .ok (.ireturn, 1) := by decide +kernel
theorem dX12_wantWord_0 : decode cX12_wantWord 0 = .ok (.aload_n 0, 1) := by decide +kernel
theorem dX12_wantWord_1 : decode cX12_wantWord 1 = .ok (.aload_n 0, 1) := by decide +kernel
theorem dX12_wantWord_2 : decode cX12_wantWord 2 = .ok (.getfield 170, 3) := by decide +kernel
theorem dX12_wantWord_5 : decode cX12_wantWord 5 = .ok (.ifCond .eq 15, 3) := by decide +kernel
theorem dX12_wantWord_8 : decode cX12_wantWord 8 = .ok (.aload_n 0, 1) := by decide +kernel
theorem dX12_wantWord_9 : decode cX12_wantWord 9 = .ok (.lload_n 1, 1) := by decide +kernel
theorem dX12_wantWord_10 : decode cX12_wantWord 10 = .ok (.invokevirtual 150, 3) := by decide +kernel
theorem dX12_wantWord_13 : decode cX12_wantWord 13 = .ok (.ifCond .eq 7, 3) := by decide +kernel
theorem dX12_wantWord_16 : decode cX12_wantWord 16 = .ok (.iconst 1, 1) := by decide +kernel
theorem dX12_wantWord_17 : decode cX12_wantWord 17 = .ok (.goto 4, 3) := by decide +kernel
theorem dX12_wantWord_20 : decode cX12_wantWord 20 = .ok (.iconst 0, 1) := by decide +kernel
theorem dX12_wantWord_21 : decode cX12_wantWord 21 = .ok (.putfield 170, 3) := by decide +kernel
theorem dX12_wantWord_24 : decode cX12_wantWord 24 = .ok (.aload_n 0, 1) := by decide +kernel
theorem dX12_wantWord_25 : decode cX12_wantWord 25 = .ok (.getfield 170, 3) := by decide +kernel
theorem dX12_wantWord_28 : decode cX12_wantWord 28 = .ok (.ifCond .eq 7, 3) := by decide +kernel
theorem dX12_wantWord_31 : decode cX12_wantWord 31 = .ok (.aload_n 0, 1) := by decide +kernel
theorem dX12_wantWord_32 : decode cX12_wantWord 32 = .ok (.invokevirtual 174, 3) := by decide +kernel
theorem dX12_wantWord_35 : decode cX12_wantWord 35 = .ok (.return_, 1) := by decide +kernel
theorem dX12_wantEnd_0 : decode cX12_wantEnd 0 = .ok (.aload_n 0, 1) := by decide +kernel
theorem dX12_wantEnd_1 : decode cX12_wantEnd 1 = .ok (.aload_n 0, 1) := by decide +kernel
theorem dX12_wantEnd_2 : decode cX12_wantEnd 2 = .ok (.getfield 170, 3) := by decide +kernel
theorem dX12_wantEnd_5 : decode cX12_wantEnd 5 = .ok (.ifCond .eq 16, 3) := by decide +kernel
theorem dX12_wantEnd_8 : decode cX12_wantEnd 8 = .ok (.aload_n 0, 1) := by decide +kernel
theorem dX12_wantEnd_9 : decode cX12_wantEnd 9 = .ok (.bipush 59, 2) := by decide +kernel
theorem dX12_wantEnd_11 : decode cX12_wantEnd 11 = .ok (.invokevirtual 177, 3) := by decide +kernel
theorem dX12_wantEnd_14 : decode cX12_wantEnd 14 = .ok (.ifCond .eq 7, 3) := by decide +kernel
theorem dX12_wantEnd_17 : decode cX12_wantEnd 17 = .ok (.iconst 1, 1) := by decide +kernel
theorem dX12_wantEnd_18 : decode cX12_wantEnd 18 = .ok (.goto 4, 3) := by decide +kernel
theorem dX12_wantEnd_21 : decode cX12_wantEnd 21 = .ok (.iconst 0, 1) := by decide +kernel
theorem dX12_wantEnd_22 : decode cX12_wantEnd 22 = .ok (.putfield 170, 3) := by decide +kernel
theorem dX12_wantEnd_25 : decode cX12_wantEnd 25 = .ok (.aload_n 0, 1) := by decide +kernel
theorem dX12_wantEnd_26 : decode cX12_wantEnd 26 = .ok (.getfield 170, 3) := by decide +kernel
theorem dX12_wantEnd_29 : decode cX12_wantEnd 29 = .ok (.ifCond .eq 7, 3) := by decide +kernel
theorem dX12_wantEnd_32 : decode cX12_wantEnd 32 = .ok (.aload_n 0, 1) := by decide +kernel
theorem dX12_wantEnd_33 : decode cX12_wantEnd 33 = .ok (.invokevirtual 174, 3) := by decide +kernel
theorem dX12_wantEnd_36 : decode cX12_wantEnd 36 = .ok (.return_, 1) := by decide +kernel
theorem dX12_wantJob_0 : decode cX12_wantJob 0 = .ok (.aload_n 0, 1) := by decide +kernel
theorem dX12_wantJob_1 : decode cX12_wantJob 1 = .ok (.aload_n 0, 1) := by decide +kernel
theorem dX12_wantJob_2 : decode cX12_wantJob 2 = .ok (.getfield 180, 3) := by decide +kernel
theorem dX12_wantJob_5 : decode cX12_wantJob 5 = .ok (.bipush 6, 2) := by decide +kernel
theorem dX12_wantJob_7 : decode cX12_wantJob 7 = .ok (.if_icmp .ge 7, 3) := by decide +kernel
theorem dX12_wantJob_10 : decode cX12_wantJob 10 = .ok (.iconst 1, 1) := by decide +kernel
theorem dX12_wantJob_11 : decode cX12_wantJob 11 = .ok (.goto 4, 3) := by decide +kernel
theorem dX12_wantJob_14 : decode cX12_wantJob 14 = .ok (.iconst 0, 1) := by decide +kernel
theorem dX12_wantJob_15 : decode cX12_wantJob 15 = .ok (.putfield 170, 3) := by decide +kernel
theorem dX12_wantJob_18 : decode cX12_wantJob 18 = .ok (.aload_n 0, 1) := by decide +kernel
theorem dX12_wantJob_19 : decode cX12_wantJob 19 = .ok (.getfield 170, 3) := by decide +kernel
theorem dX12_wantJob_22 : decode cX12_wantJob 22 = .ok (.ifCond .eq 15, 3) := by decide +kernel
theorem dX12_wantJob_25 : decode cX12_wantJob 25 = .ok (.aload_n 0, 1) := by decide +kernel
theorem dX12_wantJob_26 : decode cX12_wantJob 26 = .ok (.getfield 132, 3) := by decide +kernel
theorem dX12_wantJob_29 : decode cX12_wantJob 29 = .ok (.iconst 1, 1) := by decide +kernel
theorem dX12_wantJob_30 : decode cX12_wantJob 30 = .ok (.if_icmp .ne 7, 3) := by decide +kernel
theorem dX12_wantJob_33 : decode cX12_wantJob 33 = .ok (.aload_n 0, 1) := by decide +kernel
theorem dX12_wantJob_34 : decode cX12_wantJob 34 = .ok (.invokevirtual 174, 3) := by decide +kernel
theorem dX12_wantJob_37 : decode cX12_wantJob 37 = .ok (.aload_n 0, 1) := by decide +kernel
theorem dX12_wantJob_38 : decode cX12_wantJob 38 = .ok (.iconst 1, 1) := by decide +kernel
theorem dX12_wantJob_39 : decode cX12_wantJob 39 = .ok (.bipush 9, 2) := by decide +kernel
theorem dX12_wantJob_41 : decode cX12_wantJob 41 = .ok (.invokevirtual 183, 3) := by decide +kernel
theorem dX12_wantJob_44 : decode cX12_wantJob 44 = .ok (.istore_n 2, 1) := by decide +kernel
theorem dX12_wantJob_45 : decode cX12_wantJob 45 = .ok (.aload_n 0, 1) := by decide +kernel
theorem dX12_wantJob_46 : decode cX12_wantJob 46 = .ok (.getfield 170, 3) := by decide +kernel
theorem dX12_wantJob_49 : decode cX12_wantJob 49 = .ok (.ifCond .eq 17, 3) := by decide +kernel
theorem dX12_wantJob_52 : decode cX12_wantJob 52 = .ok (.aload_n 0, 1) := by decide +kernel
theorem dX12_wantJob_53 : decode cX12_wantJob 53 = .ok (.ldc2_w 186, 3) := by decide +kernel
theorem dX12_wantJob_56 : decode cX12_wantJob 56 = .ok (.invokevirtual 150, 3) := by decide +kernel
theorem dX12_wantJob_59 : decode cX12_wantJob 59 = .ok (.ifCond .eq 7, 3) := by decide +kernel
theorem dX12_wantJob_62 : decode cX12_wantJob 62 = .ok (.iconst 1, 1) := by decide +kernel
theorem dX12_wantJob_63 : decode cX12_wantJob 63 = .ok (.goto 4, 3) := by decide +kernel
theorem dX12_wantJob_66 : decode cX12_wantJob 66 = .ok (.iconst 0, 1) := by decide +kernel
theorem dX12_wantJob_67 : decode cX12_wantJob 67 = .ok (.istore_n 3, 1) := by decide +kernel
theorem dX12_wantJob_68 : decode cX12_wantJob 68 = .ok (.iload_n 3, 1) := by decide +kernel
theorem dX12_wantJob_69 : decode cX12_wantJob 69 = .ok (.ifCond .eq 7, 3) := by decide +kernel
theorem dX12_wantJob_72 : decode cX12_wantJob 72 = .ok (.aload_n 0, 1) := by decide +kernel
theorem dX12_wantJob_73 : decode cX12_wantJob 73 = .ok (.invokevirtual 174, 3) := by decide +kernel
theorem dX12_wantJob_76 : decode cX12_wantJob 76 = .ok (.aload_n 0, 1) := by decide +kernel
theorem dX12_wantJob_77 : decode cX12_wantJob 77 = .ok (.ldc2_w 188, 3) := by decide +kernel
theorem dX12_wantJob_80 : decode cX12_wantJob 80 = .ok (.invokevirtual 190, 3) := by decide +kernel
theorem dX12_wantJob_83 : decode cX12_wantJob 83 = .ok (.aload_n 0, 1) := by decide +kernel
theorem dX12_wantJob_84 : decode cX12_wantJob 84 = .ok (.iconst 0, 1) := by decide +kernel
theorem dX12_wantJob_85 : decode cX12_wantJob 85 = .ok (.bipush 60, 2) := by decide +kernel
theorem dX12_wantJob_87 : decode cX12_wantJob 87 = .ok (.invokevirtual 183, 3) := by decide +kernel
theorem dX12_wantJob_90 : decode cX12_wantJob 90 = .ok (.istore 4, 2) := by decide +kernel
theorem dX12_wantJob_92 : decode cX12_wantJob 92 = .ok (.aload_n 0, 1) := by decide +kernel
theorem dX12_wantJob_93 : decode cX12_wantJob 93 = .ok (.ldc2_w 194, 3) := by decide +kernel
theorem dX12_wantJob_96 : decode cX12_wantJob 96 = .ok (.invokevirtual 190, 3) := by decide +kernel
theorem dX12_wantJob_99 : decode cX12_wantJob 99 = .ok (.aload_n 0, 1) := by decide +kernel
theorem dX12_wantJob_100 : decode cX12_wantJob 100 = .ok (.iconst 0, 1) := by decide +kernel
theorem dX12_wantJob_101 : decode cX12_wantJob 101 = .ok (.bipush 99, 2) := by decide +kernel
theorem dX12_wantJob_103 : decode cX12_wantJob 103 = .ok (.invokevirtual 183, 3) := by decide +kernel
theorem dX12_wantJob_106 : decode cX12_wantJob 106 = .ok (.istore 5, 2) := by decide +kernel
theorem dX12_wantJob_108 : decode cX12_wantJob 108 = .ok (.aload_n 0, 1) := by decide +kernel
theorem dX12_wantJob_109 : decode cX12_wantJob 109 = .ok (.invokevirtual 196, 3) := by decide +kernel
theorem dX12_wantJob_112 : decode cX12_wantJob 112 = .ok (.aload_n 0, 1) := by decide +kernel
theorem dX12_wantJob_113 : decode cX12_wantJob 113 = .ok (.getfield 170, 3) := by decide +kernel
theorem dX12_wantJob_116 : decode cX12_wantJob 116 = .ok (.ifCond .eq 79, 3) := by decide +kernel
theorem dX12_wantJob_119 : decode cX12_wantJob 119 = .ok (.iconst 5, 1) := by decide +kernel
theorem dX12_wantJob_120 : decode cX12_wantJob 120 = .ok (.aload_n 0, 1) := by decide +kernel
theorem dX12_wantJob_121 : decode cX12_wantJob 121 = .ok (.getfield 180, 3) := by decide +kernel
theorem dX12_wantJob_124 : decode cX12_wantJob 124 = .ok (.imul, 1) := by decide +kernel
theorem dX12_wantJob_125 : decode cX12_wantJob 125 = .ok (.istore 6, 2) := by decide +kernel
theorem dX12_wantJob_127 : decode cX12_wantJob 127 = .ok (.aload_n 0, 1) := by decide +kernel
theorem dX12_wantJob_128 : decode cX12_wantJob 128 = .ok (.getfield 41, 3) := by decide +kernel
theorem dX12_wantJob_131 : decode cX12_wantJob 131 = .ok (.iload 6, 2) := by decide +kernel
theorem dX12_wantJob_133 : decode cX12_wantJob 133 = .ok (.iload_n 1, 1) := by decide +kernel
theorem dX12_wantJob_134 : decode cX12_wantJob 134 = .ok (.iastore, 1) := by decide +kernel
theorem dX12_wantJob_135 : decode cX12_wantJob 135 = .ok (.aload_n 0, 1) := by decide +kernel
theorem dX12_wantJob_136 : decode cX12_wantJob 136 = .ok (.getfield 41, 3) := by decide +kernel
theorem dX12_wantJob_139 : decode cX12_wantJob 139 = .ok (.iload 6, 2) := by decide +kernel
theorem dX12_wantJob_141 : decode cX12_wantJob 141 = .ok (.iconst 1, 1) := by decide +kernel
theorem dX12_wantJob_142 : decode cX12_wantJob 142 = .ok (.iadd, 1) := by decide +kernel
theorem dX12_wantJob_143 : decode cX12_wantJob 143 = .ok (.iload_n 2, 1) := by decide +kernel
theorem dX12_wantJob_144 : decode cX12_wantJob 144 = .ok (.iastore, 1) := by decide +kernel
theorem dX12_wantJob_145 : decode cX12_wantJob 145 = .ok (.aload_n 0, 1) := by decide +kernel
theorem dX12_wantJob_146 : decode cX12_wantJob 146 = .ok (.getfield 41, 3) := by decide +kernel
theorem dX12_wantJob_149 : decode cX12_wantJob 149 = .ok (.iload 6, 2) := by decide +kernel
theorem dX12_wantJob_151 : decode cX12_wantJob 151 = .ok (.iconst 2, 1) := by decide +kernel
theorem dX12_wantJob_152 : decode cX12_wantJob 152 = .ok (.iadd, 1) := by decide +kernel
theorem dX12_wantJob_153 : decode cX12_wantJob 153 = .ok (.iload_n 3, 1) := by decide +kernel
theorem dX12_wantJob_154 : decode cX12_wantJob 154 = .ok (.ifCond .eq 7, 3) := by decide +kernel
theorem dX12_wantJob_157 : decode cX12_wantJob 157 = .ok (.iconst 1, 1) := by decide +kernel
theorem dX12_wantJob_158 : decode cX12_wantJob 158 = .ok (.goto 4, 3) := by decide +kernel
theorem dX12_wantJob_161 : decode cX12_wantJob 161 = .ok (.iconst 0, 1) := by decide +kernel
theorem dX12_wantJob_162 : decode cX12_wantJob 162 = .ok (.iastore, 1) := by decide +kernel
theorem dX12_wantJob_163 : decode cX12_wantJob 163 = .ok (.aload_n 0, 1) := by decide +kernel
theorem dX12_wantJob_164 : decode cX12_wantJob 164 = .ok (.getfield 41, 3) := by decide +kernel
theorem dX12_wantJob_167 : decode cX12_wantJob 167 = .ok (.iload 6, 2) := by decide +kernel
theorem dX12_wantJob_169 : decode cX12_wantJob 169 = .ok (.iconst 3, 1) := by decide +kernel
theorem dX12_wantJob_170 : decode cX12_wantJob 170 = .ok (.iadd, 1) := by decide +kernel
theorem dX12_wantJob_171 : decode cX12_wantJob 171 = .ok (.iload 4, 2) := by decide +kernel
theorem dX12_wantJob_173 : decode cX12_wantJob 173 = .ok (.iastore, 1) := by decide +kernel
theorem dX12_wantJob_174 : decode cX12_wantJob 174 = .ok (.aload_n 0, 1) := by decide +kernel
theorem dX12_wantJob_175 : decode cX12_wantJob 175 = .ok (.getfield 41, 3) := by decide +kernel
theorem dX12_wantJob_178 : decode cX12_wantJob 178 = .ok (.iload 6, 2) := by decide +kernel
theorem dX12_wantJob_180 : decode cX12_wantJob 180 = .ok (.iconst 4, 1) := by decide +kernel
theorem dX12_wantJob_181 : decode cX12_wantJob 181 = .ok (.iadd, 1) := by decide +kernel
theorem dX12_wantJob_182 : decode cX12_wantJob 182 = .ok (.iload 5, 2) := by decide +kernel
theorem dX12_wantJob_184 : decode cX12_wantJob 184 = .ok (.iastore, 1) := by decide +kernel
theorem dX12_wantJob_185 : decode cX12_wantJob 185 = .ok (.aload_n 0, 1) := by decide +kernel
theorem dX12_wantJob_186 : decode cX12_wantJob 186 = .ok (.dup, 1) := by decide +kernel
theorem dX12_wantJob_187 : decode cX12_wantJob 187 = .ok (.getfield 180, 3) := by decide +kernel
theorem dX12_wantJob_190 : decode cX12_wantJob 190 = .ok (.iconst 1, 1) := by decide +kernel
theorem dX12_wantJob_191 : decode cX12_wantJob 191 = .ok (.iadd, 1) := by decide +kernel
theorem dX12_wantJob_192 : decode cX12_wantJob 192 = .ok (.putfield 180, 3) := by decide +kernel
theorem dX12_wantJob_195 : decode cX12_wantJob 195 = .ok (.return_, 1) := by decide +kernel
theorem dX12_wantLaw_0 : decode cX12_wantLaw 0 = .ok (.aload_n 0, 1) := by decide +kernel
theorem dX12_wantLaw_1 : decode cX12_wantLaw 1 = .ok (.invokevirtual 174, 3) := by decide +kernel
theorem dX12_wantLaw_4 : decode cX12_wantLaw 4 = .ok (.aload_n 0, 1) := by decide +kernel
theorem dX12_wantLaw_5 : decode cX12_wantLaw 5 = .ok (.aload_n 0, 1) := by decide +kernel
theorem dX12_wantLaw_6 : decode cX12_wantLaw 6 = .ok (.getfield 16, 3) := by decide +kernel
theorem dX12_wantLaw_9 : decode cX12_wantLaw 9 = .ok (.iload_n 1, 1) := by decide +kernel
theorem dX12_wantLaw_10 : decode cX12_wantLaw 10 = .ok (.iaload, 1) := by decide +kernel
theorem dX12_wantLaw_11 : decode cX12_wantLaw 11 = .ok (.aload_n 0, 1) := by decide +kernel
theorem dX12_wantLaw_12 : decode cX12_wantLaw 12 = .ok (.getfield 19, 3) := by decide +kernel
theorem dX12_wantLaw_15 : decode cX12_wantLaw 15 = .ok (.iload_n 1, 1) := by decide +kernel
theorem dX12_wantLaw_16 : decode cX12_wantLaw 16 = .ok (.iaload, 1) := by decide +kernel
theorem dX12_wantLaw_17 : decode cX12_wantLaw 17 = .ok (.invokevirtual 183, 3) := by decide +kernel
theorem dX12_wantLaw_20 : decode cX12_wantLaw 20 = .ok (.istore_n 2, 1) := by decide +kernel
theorem dX12_wantLaw_21 : decode cX12_wantLaw 21 = .ok (.aload_n 0, 1) := by decide +kernel
theorem dX12_wantLaw_22 : decode cX12_wantLaw 22 = .ok (.invokevirtual 196, 3) := by decide +kernel
theorem dX12_wantLaw_25 : decode cX12_wantLaw 25 = .ok (.aload_n 0, 1) := by decide +kernel
theorem dX12_wantLaw_26 : decode cX12_wantLaw 26 = .ok (.getfield 44, 3) := by decide +kernel
theorem dX12_wantLaw_29 : decode cX12_wantLaw 29 = .ok (.iload_n 1, 1) := by decide +kernel
theorem dX12_wantLaw_30 : decode cX12_wantLaw 30 = .ok (.aload_n 0, 1) := by decide +kernel
theorem dX12_wantLaw_31 : decode cX12_wantLaw 31 = .ok (.getfield 170, 3) := by decide +kernel
theorem dX12_wantLaw_34 : decode cX12_wantLaw 34 = .ok (.ifCond .eq 7, 3) := by decide +kernel
theorem dX12_wantLaw_37 : decode cX12_wantLaw 37 = .ok (.iload_n 2, 1) := by decide +kernel
theorem dX12_wantLaw_38 : decode cX12_wantLaw 38 = .ok (.goto 9, 3) := by decide +kernel
theorem dX12_wantLaw_41 : decode cX12_wantLaw 41 = .ok (.aload_n 0, 1) := by decide +kernel
theorem dX12_wantLaw_42 : decode cX12_wantLaw 42 = .ok (.getfield 44, 3) := by decide +kernel
theorem dX12_wantLaw_45 : decode cX12_wantLaw 45 = .ok (.iload_n 1, 1) := by decide +kernel
theorem dX12_wantLaw_46 : decode cX12_wantLaw 46 = .ok (.iaload, 1) := by decide +kernel
theorem dX12_wantLaw_47 : decode cX12_wantLaw 47 = .ok (.iastore, 1) := by decide +kernel
theorem dX12_wantLaw_48 : decode cX12_wantLaw 48 = .ok (.return_, 1) := by decide +kernel
theorem dX12_board_0 : decode cX12_board 0 = .ok (.aload_n 0, 1) := by decide +kernel
theorem dX12_board_1 : decode cX12_board 1 = .ok (.iconst 0, 1) := by decide +kernel
theorem dX12_board_2 : decode cX12_board 2 = .ok (.putfield 116, 3) := by decide +kernel
theorem dX12_board_5 : decode cX12_board 5 = .ok (.aload_n 0, 1) := by decide +kernel
theorem dX12_board_6 : decode cX12_board 6 = .ok (.iconst 1, 1) := by decide +kernel
theorem dX12_board_7 : decode cX12_board 7 = .ok (.putfield 170, 3) := by decide +kernel
theorem dX12_board_10 : decode cX12_board 10 = .ok (.aload_n 0, 1) := by decide +kernel
theorem dX12_board_11 : decode cX12_board 11 = .ok (.iconst 0, 1) := by decide +kernel
theorem dX12_board_12 : decode cX12_board 12 = .ok (.putfield 180, 3) := by decide +kernel
theorem dX12_board_15 : decode cX12_board 15 = .ok (.iconst 0, 1) := by decide +kernel
theorem dX12_board_16 : decode cX12_board 16 = .ok (.istore_n 1, 1) := by decide +kernel
theorem dX12_board_17 : decode cX12_board 17 = .ok (.iload_n 1, 1) := by decide +kernel
theorem dX12_board_18 : decode cX12_board 18 = .ok (.iconst 4, 1) := by decide +kernel
theorem dX12_board_19 : decode cX12_board 19 = .ok (.if_icmp .ge 21, 3) := by decide +kernel
theorem dX12_board_22 : decode cX12_board 22 = .ok (.aload_n 0, 1) := by decide +kernel
theorem dX12_board_23 : decode cX12_board 23 = .ok (.getfield 44, 3) := by decide +kernel
theorem dX12_board_26 : decode cX12_board 26 = .ok (.iload_n 1, 1) := by decide +kernel
theorem dX12_board_27 : decode cX12_board 27 = .ok (.aload_n 0, 1) := by decide +kernel
theorem dX12_board_28 : decode cX12_board 28 = .ok (.getfield 13, 3) := by decide +kernel
theorem dX12_board_31 : decode cX12_board 31 = .ok (.iload_n 1, 1) := by decide +kernel
theorem dX12_board_32 : decode cX12_board 32 = .ok (.iaload, 1) := by decide +kernel
theorem dX12_board_33 : decode cX12_board 33 = .ok (.iastore, 1) := by decide +kernel
theorem dX12_board_34 : decode cX12_board 34 = .ok (.iinc 1 1, 3) := by decide +kernel
theorem dX12_board_37 : decode cX12_board 37 = .ok (.goto (-20), 3) := by decide +kernel
theorem dX12_board_40 : decode cX12_board 40 = .ok (.aload_n 0, 1) := by decide +kernel
theorem dX12_board_41 : decode cX12_board 41 = .ok (.invokevirtual 174, 3) := by decide +kernel
theorem dX12_board_44 : decode cX12_board 44 = .ok (.aload_n 0, 1) := by decide +kernel
theorem dX12_board_45 : decode cX12_board 45 = .ok (.getfield 170, 3) := by decide +kernel
theorem dX12_board_48 : decode cX12_board 48 = .ok (.ifCond .eq 74, 3) := by decide +kernel
theorem dX12_board_51 : decode cX12_board 51 = .ok (.aload_n 0, 1) := by decide +kernel
theorem dX12_board_52 : decode cX12_board 52 = .ok (.getfield 132, 3) := by decide +kernel
theorem dX12_board_55 : decode cX12_board 55 = .ok (.ifCond .eq 67, 3) := by decide +kernel
theorem dX12_board_58 : decode cX12_board 58 = .ok (.aload_n 0, 1) := by decide +kernel
theorem dX12_board_59 : decode cX12_board 59 = .ok (.invokevirtual 199, 3) := by decide +kernel
theorem dX12_board_62 : decode cX12_board 62 = .ok (.ifCond .ge 11, 3) := by decide +kernel
theorem dX12_board_65 : decode cX12_board 65 = .ok (.aload_n 0, 1) := by decide +kernel
theorem dX12_board_66 : decode cX12_board 66 = .ok (.getfield 132, 3) := by decide +kernel
theorem dX12_board_69 : decode cX12_board 69 = .ok (.iconst 2, 1) := by decide +kernel
theorem dX12_board_70 : decode cX12_board 70 = .ok (.if_icmp .ne 26, 3) := by decide +kernel
theorem dX12_board_73 : decode cX12_board 73 = .ok (.aload_n 0, 1) := by decide +kernel
theorem dX12_board_74 : decode cX12_board 74 = .ok (.aload_n 0, 1) := by decide +kernel
theorem dX12_board_75 : decode cX12_board 75 = .ok (.getfield 132, 3) := by decide +kernel
theorem dX12_board_78 : decode cX12_board 78 = .ok (.iconst 2, 1) := by decide +kernel
theorem dX12_board_79 : decode cX12_board 79 = .ok (.if_icmp .ne 7, 3) := by decide +kernel
theorem dX12_board_82 : decode cX12_board 82 = .ok (.iconst 0, 1) := by decide +kernel
theorem dX12_board_83 : decode cX12_board 83 = .ok (.goto 7, 3) := by decide +kernel
theorem dX12_board_86 : decode cX12_board 86 = .ok (.aload_n 0, 1) := by decide +kernel
theorem dX12_board_87 : decode cX12_board 87 = .ok (.invokevirtual 199, 3) := by decide +kernel
theorem dX12_board_90 : decode cX12_board 90 = .ok (.invokevirtual 203, 3) := by decide +kernel
theorem dX12_board_93 : decode cX12_board 93 = .ok (.goto (-49), 3) := by decide +kernel
theorem dX12_board_96 : decode cX12_board 96 = .ok (.aload_n 0, 1) := by decide +kernel
theorem dX12_board_97 : decode cX12_board 97 = .ok (.invokevirtual 207, 3) := by decide +kernel
theorem dX12_board_100 : decode cX12_board 100 = .ok (.ifCond .lt 14, 3) := by decide +kernel
theorem dX12_board_103 : decode cX12_board 103 = .ok (.aload_n 0, 1) := by decide +kernel
theorem dX12_board_104 : decode cX12_board 104 = .ok (.aload_n 0, 1) := by decide +kernel
theorem dX12_board_105 : decode cX12_board 105 = .ok (.invokevirtual 207, 3) := by decide +kernel
theorem dX12_board_108 : decode cX12_board 108 = .ok (.invokevirtual 210, 3) := by decide +kernel
theorem dX12_board_111 : decode cX12_board 111 = .ok (.goto (-67), 3) := by decide +kernel
theorem dX12_board_114 : decode cX12_board 114 = .ok (.aload_n 0, 1) := by decide +kernel
theorem dX12_board_115 : decode cX12_board 115 = .ok (.iconst 0, 1) := by decide +kernel
theorem dX12_board_116 : decode cX12_board 116 = .ok (.putfield 170, 3) := by decide +kernel
theorem dX12_board_119 : decode cX12_board 119 = .ok (.goto (-75), 3) := by decide +kernel
theorem dX12_board_122 : decode cX12_board 122 = .ok (.aload_n 0, 1) := by decide +kernel
theorem dX12_board_123 : decode cX12_board 123 = .ok (.iconst 0, 1) := by decide +kernel
theorem dX12_board_124 : decode cX12_board 124 = .ok (.putfield 111, 3) := by decide +kernel
theorem dX12_board_127 : decode cX12_board 127 = .ok (.aload_n 0, 1) := by decide +kernel
theorem dX12_board_128 : decode cX12_board 128 = .ok (.getfield 170, 3) := by decide +kernel
theorem dX12_board_131 : decode cX12_board 131 = .ok (.ifCond .ne 11, 3) := by decide +kernel
theorem dX12_board_134 : decode cX12_board 134 = .ok (.bipush (-100), 2) := by decide +kernel
theorem dX12_board_136 : decode cX12_board 136 = .ok (.aload_n 0, 1) := by decide +kernel
theorem dX12_board_137 : decode cX12_board 137 = .ok (.getfield 119, 3) := by decide +kernel
theorem dX12_board_140 : decode cX12_board 140 = .ok (.isub, 1) := by decide +kernel
theorem dX12_board_141 : decode cX12_board 141 = .ok (.ireturn, 1) := by decide +kernel
theorem dX12_board_142 : decode cX12_board 142 = .ok (.aload_n 0, 1) := by decide +kernel
theorem dX12_board_143 : decode cX12_board 143 = .ok (.aload_n 0, 1) := by decide +kernel
theorem dX12_board_144 : decode cX12_board 144 = .ok (.getfield 180, 3) := by decide +kernel
theorem dX12_board_147 : decode cX12_board 147 = .ok (.putfield 96, 3) := by decide +kernel
theorem dX12_board_150 : decode cX12_board 150 = .ok (.iconst 0, 1) := by decide +kernel
theorem dX12_board_151 : decode cX12_board 151 = .ok (.istore_n 1, 1) := by decide +kernel
theorem dX12_board_152 : decode cX12_board 152 = .ok (.iload_n 1, 1) := by decide +kernel
theorem dX12_board_153 : decode cX12_board 153 = .ok (.aload_n 0, 1) := by decide +kernel
theorem dX12_board_154 : decode cX12_board 154 = .ok (.getfield 96, 3) := by decide +kernel
theorem dX12_board_157 : decode cX12_board 157 = .ok (.if_icmp .ge 63, 3) := by decide +kernel
theorem dX12_board_160 : decode cX12_board 160 = .ok (.iconst 5, 1) := by decide +kernel
theorem dX12_board_161 : decode cX12_board 161 = .ok (.iload_n 1, 1) := by decide +kernel
theorem dX12_board_162 : decode cX12_board 162 = .ok (.imul, 1) := by decide +kernel
theorem dX12_board_163 : decode cX12_board 163 = .ok (.istore_n 2, 1) := by decide +kernel
theorem dX12_board_164 : decode cX12_board 164 = .ok (.aload_n 0, 1) := by decide +kernel
theorem dX12_board_165 : decode cX12_board 165 = .ok (.iload_n 1, 1) := by decide +kernel
theorem dX12_board_166 : decode cX12_board 166 = .ok (.aload_n 0, 1) := by decide +kernel
theorem dX12_board_167 : decode cX12_board 167 = .ok (.getfield 41, 3) := by decide +kernel
theorem dX12_board_170 : decode cX12_board 170 = .ok (.iload_n 2, 1) := by decide +kernel
theorem dX12_board_171 : decode cX12_board 171 = .ok (.iaload, 1) := by decide +kernel
theorem dX12_board_172 : decode cX12_board 172 = .ok (.aload_n 0, 1) := by decide +kernel
theorem dX12_board_173 : decode cX12_board 173 = .ok (.getfield 41, 3) := by decide +kernel
theorem dX12_board_176 : decode cX12_board 176 = .ok (.iload_n 2, 1) := by decide +kernel
theorem dX12_board_177 : decode cX12_board 177 = .ok (.iconst 1, 1) := by decide +kernel
theorem dX12_board_178 : decode cX12_board 178 = .ok (.iadd, 1) := by decide +kernel
theorem dX12_board_179 : decode cX12_board 179 = .ok (.iaload, 1) := by decide +kernel
theorem dX12_board_180 : decode cX12_board 180 = .ok (.aload_n 0, 1) := by decide +kernel
theorem dX12_board_181 : decode cX12_board 181 = .ok (.getfield 41, 3) := by decide +kernel
theorem dX12_board_184 : decode cX12_board 184 = .ok (.iload_n 2, 1) := by decide +kernel
theorem dX12_board_185 : decode cX12_board 185 = .ok (.iconst 2, 1) := by decide +kernel
theorem dX12_board_186 : decode cX12_board 186 = .ok (.iadd, 1) := by decide +kernel
theorem dX12_board_187 : decode cX12_board 187 = .ok (.iaload, 1) := by decide +kernel
theorem dX12_board_188 : decode cX12_board 188 = .ok (.aload_n 0, 1) := by decide +kernel
theorem dX12_board_189 : decode cX12_board 189 = .ok (.getfield 41, 3) := by decide +kernel
theorem dX12_board_192 : decode cX12_board 192 = .ok (.iload_n 2, 1) := by decide +kernel
theorem dX12_board_193 : decode cX12_board 193 = .ok (.iconst 3, 1) := by decide +kernel
theorem dX12_board_194 : decode cX12_board 194 = .ok (.iadd, 1) := by decide +kernel
theorem dX12_board_195 : decode cX12_board 195 = .ok (.iaload, 1) := by decide +kernel
theorem dX12_board_196 : decode cX12_board 196 = .ok (.aload_n 0, 1) := by decide +kernel
theorem dX12_board_197 : decode cX12_board 197 = .ok (.getfield 41, 3) := by decide +kernel
theorem dX12_board_200 : decode cX12_board 200 = .ok (.iload_n 2, 1) := by decide +kernel
theorem dX12_board_201 : decode cX12_board 201 = .ok (.iconst 4, 1) := by decide +kernel
theorem dX12_board_202 : decode cX12_board 202 = .ok (.iadd, 1) := by decide +kernel
theorem dX12_board_203 : decode cX12_board 203 = .ok (.iaload, 1) := by decide +kernel
theorem dX12_board_204 : decode cX12_board 204 = .ok (.invokevirtual 213, 3) := by decide +kernel
theorem dX12_board_207 : decode cX12_board 207 = .ok (.aload_n 0, 1) := by decide +kernel
theorem dX12_board_208 : decode cX12_board 208 = .ok (.getfield 28, 3) := by decide +kernel
theorem dX12_board_211 : decode cX12_board 211 = .ok (.iload_n 1, 1) := by decide +kernel
theorem dX12_board_212 : decode cX12_board 212 = .ok (.iload_n 1, 1) := by decide +kernel
theorem dX12_board_213 : decode cX12_board 213 = .ok (.iastore, 1) := by decide +kernel
theorem dX12_board_214 : decode cX12_board 214 = .ok (.iinc 1 1, 3) := by decide +kernel
theorem dX12_board_217 : decode cX12_board 217 = .ok (.goto (-65), 3) := by decide +kernel
theorem dX12_board_220 : decode cX12_board 220 = .ok (.iconst 0, 1) := by decide +kernel
theorem dX12_board_221 : decode cX12_board 221 = .ok (.istore_n 1, 1) := by decide +kernel
theorem dX12_board_222 : decode cX12_board 222 = .ok (.iload_n 1, 1) := by decide +kernel
theorem dX12_board_223 : decode cX12_board 223 = .ok (.iconst 4, 1) := by decide +kernel
theorem dX12_board_224 : decode cX12_board 224 = .ok (.if_icmp .ge 21, 3) := by decide +kernel
theorem dX12_board_227 : decode cX12_board 227 = .ok (.aload_n 0, 1) := by decide +kernel
theorem dX12_board_228 : decode cX12_board 228 = .ok (.getfield 13, 3) := by decide +kernel
theorem dX12_board_231 : decode cX12_board 231 = .ok (.iload_n 1, 1) := by decide +kernel
theorem dX12_board_232 : decode cX12_board 232 = .ok (.aload_n 0, 1) := by decide +kernel
theorem dX12_board_233 : decode cX12_board 233 = .ok (.getfield 44, 3) := by decide +kernel
theorem dX12_board_236 : decode cX12_board 236 = .ok (.iload_n 1, 1) := by decide +kernel
theorem dX12_board_237 : decode cX12_board 237 = .ok (.iaload, 1) := by decide +kernel
theorem dX12_board_238 : decode cX12_board 238 = .ok (.iastore, 1) := by decide +kernel
theorem dX12_board_239 : decode cX12_board 239 = .ok (.iinc 1 1, 3) := by decide +kernel
theorem dX12_board_242 : decode cX12_board 242 = .ok (.goto (-20), 3) := by decide +kernel
theorem dX12_board_245 : decode cX12_board 245 = .ok (.iconst 0, 1) := by decide +kernel
theorem dX12_board_246 : decode cX12_board 246 = .ok (.istore_n 1, 1) := by decide +kernel
theorem dX12_board_247 : decode cX12_board 247 = .ok (.iload_n 1, 1) := by decide +kernel
theorem dX12_board_248 : decode cX12_board 248 = .ok (.bipush 60, 2) := by decide +kernel
theorem dX12_board_250 : decode cX12_board 250 = .ok (.if_icmp .gt 23, 3) := by decide +kernel
theorem dX12_board_253 : decode cX12_board 253 = .ok (.aload_n 0, 1) := by decide +kernel
theorem dX12_board_254 : decode cX12_board 254 = .ok (.getfield 22, 3) := by decide +kernel
theorem dX12_board_257 : decode cX12_board 257 = .ok (.iload_n 1, 1) := by decide +kernel
theorem dX12_board_258 : decode cX12_board 258 = .ok (.iconst 0, 1) := by decide +kernel
theorem dX12_board_259 : decode cX12_board 259 = .ok (.iastore, 1) := by decide +kernel
theorem dX12_board_260 : decode cX12_board 260 = .ok (.aload_n 0, 1) := by decide +kernel
theorem dX12_board_261 : decode cX12_board 261 = .ok (.getfield 25, 3) := by decide +kernel
theorem dX12_board_264 : decode cX12_board 264 = .ok (.iload_n 1, 1) := by decide +kernel
theorem dX12_board_265 : decode cX12_board 265 = .ok (.iconst 0, 1) := by decide +kernel
theorem dX12_board_266 : decode cX12_board 266 = .ok (.iastore, 1) := by decide +kernel
theorem dX12_board_267 : decode cX12_board 267 = .ok (.iinc 1 1, 3) := by decide +kernel
theorem dX12_board_270 : decode cX12_board 270 = .ok (.goto (-23), 3) := by decide +kernel
theorem dX12_board_273 : decode cX12_board 273 = .ok (.aload_n 0, 1) := by decide +kernel
theorem dX12_board_274 : decode cX12_board 274 = .ok (.iconst 0, 1) := by decide +kernel
theorem dX12_board_275 : decode cX12_board 275 = .ok (.putfield 217, 3) := by decide +kernel
theorem dX12_board_278 : decode cX12_board 278 = .ok (.aload_n 0, 1) := by decide +kernel
theorem dX12_board_279 : decode cX12_board 279 = .ok (.iconst 0, 1) := by decide +kernel
theorem dX12_board_280 : decode cX12_board 280 = .ok (.putfield 220, 3) := by decide +kernel
theorem dX12_board_283 : decode cX12_board 283 = .ok (.aload_n 0, 1) := by decide +kernel
theorem dX12_board_284 : decode cX12_board 284 = .ok (.iconst 0, 1) := by decide +kernel
theorem dX12_board_285 : decode cX12_board 285 = .ok (.putfield 223, 3) := by decide +kernel
theorem dX12_board_288 : decode cX12_board 288 = .ok (.aload_n 0, 1) := by decide +kernel
theorem dX12_board_289 : decode cX12_board 289 = .ok (.iconst 0, 1) := by decide +kernel
theorem dX12_board_290 : decode cX12_board 290 = .ok (.putfield 226, 3) := by decide +kernel
theorem dX12_board_293 : decode cX12_board 293 = .ok (.aload_n 0, 1) := by decide +kernel
theorem dX12_board_294 : decode cX12_board 294 = .ok (.iconst 0, 1) := by decide +kernel
theorem dX12_board_295 : decode cX12_board 295 = .ok (.putfield 229, 3) := by decide +kernel
theorem dX12_board_298 : decode cX12_board 298 = .ok (.aload_n 0, 1) := by decide +kernel
theorem dX12_board_299 : decode cX12_board 299 = .ok (.getfield 96, 3) := by decide +kernel
theorem dX12_board_302 : decode cX12_board 302 = .ok (.ireturn, 1) := by decide +kernel
theorem dX12_job_0 : decode cX12_job 0 = .ok (.iload_n 1, 1) := by decide +kernel
theorem dX12_job_1 : decode cX12_job 1 = .ok (.iload_n 2, 1) := by decide +kernel
theorem dX12_job_2 : decode cX12_job 2 = .ok (.iload_n 3, 1) := by decide +kernel
theorem dX12_job_3 : decode cX12_job 3 = .ok (.invokestatic 232, 3) := by decide +kernel
theorem dX12_job_6 : decode cX12_job 6 = .ok (.ifCond .eq 13, 3) := by decide +kernel
theorem dX12_job_9 : decode cX12_job 9 = .ok (.iload 4, 2) := by decide +kernel
theorem dX12_job_11 : decode cX12_job 11 = .ok (.iload 5, 2) := by decide +kernel
theorem dX12_job_13 : decode cX12_job 13 = .ok (.invokestatic 235, 3) := by decide +kernel
theorem dX12_job_16 : decode cX12_job 16 = .ok (.ifCond .ne 5, 3) := by decide +kernel
theorem dX12_job_19 : decode cX12_job 19 = .ok (.iconst (-1), 1) := by decide +kernel
theorem dX12_job_20 : decode cX12_job 20 = .ok (.ireturn, 1) := by decide +kernel
theorem dX12_job_21 : decode cX12_job 21 = .ok (.aload_n 0, 1) := by decide +kernel
theorem dX12_job_22 : decode cX12_job 22 = .ok (.getfield 96, 3) := by decide +kernel
theorem dX12_job_25 : decode cX12_job 25 = .ok (.bipush 6, 2) := by decide +kernel
theorem dX12_job_27 : decode cX12_job 27 = .ok (.if_icmp .ne 6, 3) := by decide +kernel
theorem dX12_job_30 : decode cX12_job 30 = .ok (.bipush (-2), 2) := by decide +kernel
theorem dX12_job_32 : decode cX12_job 32 = .ok (.ireturn, 1) := by decide +kernel
theorem dX12_job_33 : decode cX12_job 33 = .ok (.aload_n 0, 1) := by decide +kernel
theorem dX12_job_34 : decode cX12_job 34 = .ok (.aload_n 0, 1) := by decide +kernel
theorem dX12_job_35 : decode cX12_job 35 = .ok (.getfield 96, 3) := by decide +kernel
theorem dX12_job_38 : decode cX12_job 38 = .ok (.iload_n 1, 1) := by decide +kernel
theorem dX12_job_39 : decode cX12_job 39 = .ok (.iload_n 2, 1) := by decide +kernel
theorem dX12_job_40 : decode cX12_job 40 = .ok (.iload_n 3, 1) := by decide +kernel
theorem dX12_job_41 : decode cX12_job 41 = .ok (.iload 4, 2) := by decide +kernel
theorem dX12_job_43 : decode cX12_job 43 = .ok (.iload 5, 2) := by decide +kernel
theorem dX12_job_45 : decode cX12_job 45 = .ok (.invokevirtual 213, 3) := by decide +kernel
theorem dX12_job_48 : decode cX12_job 48 = .ok (.aload_n 0, 1) := by decide +kernel
theorem dX12_job_49 : decode cX12_job 49 = .ok (.getfield 28, 3) := by decide +kernel
theorem dX12_job_52 : decode cX12_job 52 = .ok (.aload_n 0, 1) := by decide +kernel
theorem dX12_job_53 : decode cX12_job 53 = .ok (.getfield 96, 3) := by decide +kernel
theorem dX12_job_56 : decode cX12_job 56 = .ok (.aload_n 0, 1) := by decide +kernel
theorem dX12_job_57 : decode cX12_job 57 = .ok (.getfield 96, 3) := by decide +kernel
theorem dX12_job_60 : decode cX12_job 60 = .ok (.iastore, 1) := by decide +kernel
theorem dX12_job_61 : decode cX12_job 61 = .ok (.aload_n 0, 1) := by decide +kernel
theorem dX12_job_62 : decode cX12_job 62 = .ok (.dup, 1) := by decide +kernel
theorem dX12_job_63 : decode cX12_job 63 = .ok (.getfield 96, 3) := by decide +kernel
theorem dX12_job_66 : decode cX12_job 66 = .ok (.iconst 1, 1) := by decide +kernel
theorem dX12_job_67 : decode cX12_job 67 = .ok (.iadd, 1) := by decide +kernel
theorem dX12_job_68 : decode cX12_job 68 = .ok (.putfield 96, 3) := by decide +kernel
theorem dX12_job_71 : decode cX12_job 71 = .ok (.aload_n 0, 1) := by decide +kernel
theorem dX12_job_72 : decode cX12_job 72 = .ok (.getfield 96, 3) := by decide +kernel
theorem dX12_job_75 : decode cX12_job 75 = .ok (.iconst 1, 1) := by decide +kernel
theorem dX12_job_76 : decode cX12_job 76 = .ok (.isub, 1) := by decide +kernel
theorem dX12_job_77 : decode cX12_job 77 = .ok (.ireturn, 1) := by decide +kernel
theorem dX12_jobOf_0 : decode cX12_jobOf 0 = .ok (.aload_n 0, 1) := by decide +kernel
theorem dX12_jobOf_1 : decode cX12_jobOf 1 = .ok (.iload_n 1, 1) := by decide +kernel
theorem dX12_jobOf_2 : decode cX12_jobOf 2 = .ok (.invokevirtual 239, 3) := by decide +kernel
theorem dX12_jobOf_5 : decode cX12_jobOf 5 = .ok (.ifCond .eq 21, 3) := by decide +kernel
theorem dX12_jobOf_8 : decode cX12_jobOf 8 = .ok (.iload_n 2, 1) := by decide +kernel
theorem dX12_jobOf_9 : decode cX12_jobOf 9 = .ok (.iconst 0, 1) := by decide +kernel
theorem dX12_jobOf_10 : decode cX12_jobOf 10 = .ok (.iconst 4, 1) := by decide +kernel
theorem dX12_jobOf_11 : decode cX12_jobOf 11 = .ok (.invokestatic 99, 3) := by decide +kernel
theorem dX12_jobOf_14 : decode cX12_jobOf 14 = .ok (.ifCond .eq 12, 3) := by decide +kernel
theorem dX12_jobOf_17 : decode cX12_jobOf 17 = .ok (.aload_n 0, 1) := by decide +kernel
theorem dX12_jobOf_18 : decode cX12_jobOf 18 = .ok (.iload_n 1, 1) := by decide +kernel
theorem dX12_jobOf_19 : decode cX12_jobOf 19 = .ok (.iload_n 2, 1) := by decide +kernel
theorem dX12_jobOf_20 : decode cX12_jobOf 20 = .ok (.invokevirtual 242, 3) := by decide +kernel
theorem dX12_jobOf_23 : decode cX12_jobOf 23 = .ok (.goto 4, 3) := by decide +kernel
theorem dX12_jobOf_26 : decode cX12_jobOf 26 = .ok (.iconst (-1), 1) := by decide +kernel
theorem dX12_jobOf_27 : decode cX12_jobOf 27 = .ok (.ireturn, 1) := by decide +kernel
theorem dX12_goesAway_0 : decode cX12_goesAway 0 = .ok (.iconst 5, 1) := by decide +kernel
theorem dX12_goesAway_1 : decode cX12_goesAway 1 = .ok (.iload_n 1, 1) := by decide +kernel
theorem dX12_goesAway_2 : decode cX12_goesAway 2 = .ok (.imul, 1) := by decide +kernel
theorem dX12_goesAway_3 : decode cX12_goesAway 3 = .ok (.istore_n 2, 1) := by decide +kernel
theorem dX12_goesAway_4 : decode cX12_goesAway 4 = .ok (.iload_n 2, 1) := by decide +kernel
theorem dX12_goesAway_5 : decode cX12_goesAway 5 = .ok (.iconst 5, 1) := by decide +kernel
theorem dX12_goesAway_6 : decode cX12_goesAway 6 = .ok (.aload_n 0, 1) := by decide +kernel
theorem dX12_goesAway_7 : decode cX12_goesAway 7 = .ok (.getfield 96, 3) := by decide +kernel
theorem dX12_goesAway_10 : decode cX12_goesAway 10 = .ok (.iconst 1, 1) := by decide +kernel
theorem dX12_goesAway_11 : decode cX12_goesAway 11 = .ok (.isub, 1) := by decide +kernel
theorem dX12_goesAway_12 : decode cX12_goesAway 12 = .ok (.imul, 1) := by decide +kernel
theorem dX12_goesAway_13 : decode cX12_goesAway 13 = .ok (.if_icmp .ge 23, 3) := by decide +kernel
theorem dX12_goesAway_16 : decode cX12_goesAway 16 = .ok (.aload_n 0, 1) := by decide +kernel
theorem dX12_goesAway_17 : decode cX12_goesAway 17 = .ok (.getfield 7, 3) := by decide +kernel
theorem dX12_goesAway_20 : decode cX12_goesAway 20 = .ok (.iload_n 2, 1) := by decide +kernel
theorem dX12_goesAway_21 : decode cX12_goesAway 21 = .ok (.aload_n 0, 1) := by decide +kernel
theorem dX12_goesAway_22 : decode cX12_goesAway 22 = .ok (.getfield 7, 3) := by decide +kernel
theorem dX12_goesAway_25 : decode cX12_goesAway 25 = .ok (.iload_n 2, 1) := by decide +kernel
theorem dX12_goesAway_26 : decode cX12_goesAway 26 = .ok (.iconst 5, 1) := by decide +kernel
theorem dX12_goesAway_27 : decode cX12_goesAway 27 = .ok (.iadd, 1) := by decide +kernel
theorem dX12_goesAway_28 : decode cX12_goesAway 28 = .ok (.iaload, 1) := by decide +kernel
theorem dX12_goesAway_29 : decode cX12_goesAway 29 = .ok (.iastore, 1) := by decide +kernel
theorem dX12_goesAway_30 : decode cX12_goesAway 30 = .ok (.iinc 2 1, 3) := by decide +kernel
theorem dX12_goesAway_33 : decode cX12_goesAway 33 = .ok (.goto (-29), 3) := by decide +kernel
theorem dX12_goesAway_36 : decode cX12_goesAway 36 = .ok (.iconst 0, 1) := by decide +kernel
theorem dX12_goesAway_37 : decode cX12_goesAway 37 = .ok (.istore_n 2, 1) := by decide +kernel
theorem dX12_goesAway_38 : decode cX12_goesAway 38 = .ok (.iconst 0, 1) := by decide +kernel
theorem dX12_goesAway_39 : decode cX12_goesAway 39 = .ok (.istore_n 3, 1) := by decide +kernel
theorem dX12_goesAway_40 : decode cX12_goesAway 40 = .ok (.iload_n 3, 1) := by decide +kernel
theorem dX12_goesAway_41 : decode cX12_goesAway 41 = .ok (.aload_n 0, 1) := by decide +kernel
theorem dX12_goesAway_42 : decode cX12_goesAway 42 = .ok (.getfield 96, 3) := by decide +kernel
theorem dX12_goesAway_45 : decode cX12_goesAway 45 = .ok (.if_icmp .ge 47, 3) := by decide +kernel
theorem dX12_goesAway_48 : decode cX12_goesAway 48 = .ok (.aload_n 0, 1) := by decide +kernel
theorem dX12_goesAway_49 : decode cX12_goesAway 49 = .ok (.getfield 28, 3) := by decide +kernel
theorem dX12_goesAway_52 : decode cX12_goesAway 52 = .ok (.iload_n 3, 1) := by decide +kernel
theorem dX12_goesAway_53 : decode cX12_goesAway 53 = .ok (.iaload, 1) := by decide +kernel
theorem dX12_goesAway_54 : decode cX12_goesAway 54 = .ok (.istore 4, 2) := by decide +kernel
theorem dX12_goesAway_56 : decode cX12_goesAway 56 = .ok (.iload 4, 2) := by decide +kernel
theorem dX12_goesAway_58 : decode cX12_goesAway 58 = .ok (.iload_n 1, 1) := by decide +kernel
theorem dX12_goesAway_59 : decode cX12_goesAway 59 = .ok (.if_icmp .eq 27, 3) := by decide +kernel
theorem dX12_goesAway_62 : decode cX12_goesAway 62 = .ok (.aload_n 0, 1) := by decide +kernel
theorem dX12_goesAway_63 : decode cX12_goesAway 63 = .ok (.getfield 28, 3) := by decide +kernel
theorem dX12_goesAway_66 : decode cX12_goesAway 66 = .ok (.iload_n 2, 1) := by decide +kernel
theorem dX12_goesAway_67 : decode cX12_goesAway 67 = .ok (.iload 4, 2) := by decide +kernel
theorem dX12_goesAway_69 : decode cX12_goesAway 69 = .ok (.iload_n 1, 1) := by decide +kernel
theorem dX12_goesAway_70 : decode cX12_goesAway 70 = .ok (.if_icmp .le 10, 3) := by decide +kernel
theorem dX12_goesAway_73 : decode cX12_goesAway 73 = .ok (.iload 4, 2) := by decide +kernel
theorem dX12_goesAway_75 : decode cX12_goesAway 75 = .ok (.iconst 1, 1) := by decide +kernel
theorem dX12_goesAway_76 : decode cX12_goesAway 76 = .ok (.isub, 1) := by decide +kernel
theorem dX12_goesAway_77 : decode cX12_goesAway 77 = .ok (.goto 5, 3) := by decide +kernel
theorem dX12_goesAway_80 : decode cX12_goesAway 80 = .ok (.iload 4, 2) := by decide +kernel
theorem dX12_goesAway_82 : decode cX12_goesAway 82 = .ok (.iastore, 1) := by decide +kernel
theorem dX12_goesAway_83 : decode cX12_goesAway 83 = .ok (.iinc 2 1, 3) := by decide +kernel
theorem dX12_goesAway_86 : decode cX12_goesAway 86 = .ok (.iinc 3 1, 3) := by decide +kernel
theorem dX12_goesAway_89 : decode cX12_goesAway 89 = .ok (.goto (-49), 3) := by decide +kernel
theorem dX12_goesAway_92 : decode cX12_goesAway 92 = .ok (.aload_n 0, 1) := by decide +kernel
theorem dX12_goesAway_93 : decode cX12_goesAway 93 = .ok (.dup, 1) := by decide +kernel
theorem dX12_goesAway_94 : decode cX12_goesAway 94 = .ok (.getfield 96, 3) := by decide +kernel
theorem dX12_goesAway_97 : decode cX12_goesAway 97 = .ok (.iconst 1, 1) := by decide +kernel
theorem dX12_goesAway_98 : decode cX12_goesAway 98 = .ok (.isub, 1) := by decide +kernel
theorem dX12_goesAway_99 : decode cX12_goesAway 99 = .ok (.putfield 96, 3) := by decide +kernel
theorem dX12_goesAway_102 : decode cX12_goesAway 102 = .ok (.return_, 1) := by decide +kernel
theorem dX12_drop_0 : decode cX12_drop 0 = .ok (.aload_n 0, 1) := by decide +kernel
theorem dX12_drop_1 : decode cX12_drop 1 = .ok (.iload_n 1, 1) := by decide +kernel
theorem dX12_drop_2 : decode cX12_drop 2 = .ok (.invokevirtual 239, 3) := by decide +kernel
theorem dX12_drop_5 : decode cX12_drop 5 = .ok (.ifCond .ne 5, 3) := by decide +kernel
theorem dX12_drop_8 : decode cX12_drop 8 = .ok (.iconst (-1), 1) := by decide +kernel
theorem dX12_drop_9 : decode cX12_drop 9 = .ok (.ireturn, 1) := by decide +kernel
theorem dX12_drop_10 : decode cX12_drop 10 = .ok (.aload_n 0, 1) := by decide +kernel
theorem dX12_drop_11 : decode cX12_drop 11 = .ok (.iload_n 1, 1) := by decide +kernel
theorem dX12_drop_12 : decode cX12_drop 12 = .ok (.invokevirtual 245, 3) := by decide +kernel
theorem dX12_drop_15 : decode cX12_drop 15 = .ok (.aload_n 0, 1) := by decide +kernel
theorem dX12_drop_16 : decode cX12_drop 16 = .ok (.getfield 96, 3) := by decide +kernel
theorem dX12_drop_19 : decode cX12_drop 19 = .ok (.ireturn, 1) := by decide +kernel
theorem dX12_set_0 : decode cX12_set 0 = .ok (.iload_n 1, 1) := by decide +kernel
theorem dX12_set_1 : decode cX12_set 1 = .ok (.iconst 0, 1) := by decide +kernel
theorem dX12_set_2 : decode cX12_set 2 = .ok (.iconst 3, 1) := by decide +kernel
theorem dX12_set_3 : decode cX12_set 3 = .ok (.invokestatic 99, 3) := by decide +kernel
theorem dX12_set_6 : decode cX12_set 6 = .ok (.ifCond .eq 7, 3) := by decide +kernel
theorem dX12_set_9 : decode cX12_set 9 = .ok (.iload_n 1, 1) := by decide +kernel
theorem dX12_set_10 : decode cX12_set 10 = .ok (.goto 4, 3) := by decide +kernel
theorem dX12_set_13 : decode cX12_set 13 = .ok (.iconst 0, 1) := by decide +kernel
theorem dX12_set_14 : decode cX12_set 14 = .ok (.istore_n 3, 1) := by decide +kernel
theorem dX12_set_15 : decode cX12_set 15 = .ok (.iload_n 3, 1) := by decide +kernel
theorem dX12_set_16 : decode cX12_set 16 = .ok (.iload_n 1, 1) := by decide +kernel
theorem dX12_set_17 : decode cX12_set 17 = .ok (.if_icmp .ne 22, 3) := by decide +kernel
theorem dX12_set_20 : decode cX12_set 20 = .ok (.iload_n 2, 1) := by decide +kernel
theorem dX12_set_21 : decode cX12_set 21 = .ok (.aload_n 0, 1) := by decide +kernel
theorem dX12_set_22 : decode cX12_set 22 = .ok (.getfield 16, 3) := by decide +kernel
theorem dX12_set_25 : decode cX12_set 25 = .ok (.iload_n 3, 1) := by decide +kernel
theorem dX12_set_26 : decode cX12_set 26 = .ok (.iaload, 1) := by decide +kernel
theorem dX12_set_27 : decode cX12_set 27 = .ok (.aload_n 0, 1) := by decide +kernel
theorem dX12_set_28 : decode cX12_set 28 = .ok (.getfield 19, 3) := by decide +kernel
theorem dX12_set_31 : decode cX12_set 31 = .ok (.iload_n 3, 1) := by decide +kernel
theorem dX12_set_32 : decode cX12_set 32 = .ok (.iaload, 1) := by decide +kernel
theorem dX12_set_33 : decode cX12_set 33 = .ok (.invokestatic 99, 3) := by decide +kernel
theorem dX12_set_36 : decode cX12_set 36 = .ok (.ifCond .ne 5, 3) := by decide +kernel
theorem dX12_set_39 : decode cX12_set 39 = .ok (.iconst (-1), 1) := by decide +kernel
theorem dX12_set_40 : decode cX12_set 40 = .ok (.ireturn, 1) := by decide +kernel
theorem dX12_set_41 : decode cX12_set 41 = .ok (.aload_n 0, 1) := by decide +kernel
theorem dX12_set_42 : decode cX12_set 42 = .ok (.getfield 13, 3) := by decide +kernel
theorem dX12_set_45 : decode cX12_set 45 = .ok (.iload_n 1, 1) := by decide +kernel
theorem dX12_set_46 : decode cX12_set 46 = .ok (.iaload, 1) := by decide +kernel
theorem dX12_set_47 : decode cX12_set 47 = .ok (.istore 4, 2) := by decide +kernel
theorem dX12_set_49 : decode cX12_set 49 = .ok (.aload_n 0, 1) := by decide +kernel
theorem dX12_set_50 : decode cX12_set 50 = .ok (.getfield 13, 3) := by decide +kernel
theorem dX12_set_53 : decode cX12_set 53 = .ok (.iload_n 1, 1) := by decide +kernel
theorem dX12_set_54 : decode cX12_set 54 = .ok (.iload_n 2, 1) := by decide +kernel
theorem dX12_set_55 : decode cX12_set 55 = .ok (.iastore, 1) := by decide +kernel
theorem dX12_set_56 : decode cX12_set 56 = .ok (.iload 4, 2) := by decide +kernel
theorem dX12_set_58 : decode cX12_set 58 = .ok (.ireturn, 1) := by decide +kernel
theorem dX12_lose_0 : decode cX12_lose 0 = .ok (.iload_n 1, 1) := by decide +kernel
theorem dX12_lose_1 : decode cX12_lose 1 = .ok (.iconst 0, 1) := by decide +kernel
theorem dX12_lose_2 : decode cX12_lose 2 = .ok (.bipush 60, 2) := by decide +kernel
theorem dX12_lose_4 : decode cX12_lose 4 = .ok (.invokestatic 99, 3) := by decide +kernel
theorem dX12_lose_7 : decode cX12_lose 7 = .ok (.ifCond .eq 13, 3) := by decide +kernel
theorem dX12_lose_10 : decode cX12_lose 10 = .ok (.iload_n 2, 1) := by decide +kernel
theorem dX12_lose_11 : decode cX12_lose 11 = .ok (.iconst 0, 1) := by decide +kernel
theorem dX12_lose_12 : decode cX12_lose 12 = .ok (.bipush 9, 2) := by decide +kernel
theorem dX12_lose_14 : decode cX12_lose 14 = .ok (.invokestatic 99, 3) := by decide +kernel
theorem dX12_lose_17 : decode cX12_lose 17 = .ok (.ifCond .ne 5, 3) := by decide +kernel
theorem dX12_lose_20 : decode cX12_lose 20 = .ok (.iconst (-1), 1) := by decide +kernel
theorem dX12_lose_21 : decode cX12_lose 21 = .ok (.ireturn, 1) := by decide +kernel
theorem dX12_lose_22 : decode cX12_lose 22 = .ok (.aload_n 0, 1) := by decide +kernel
theorem dX12_lose_23 : decode cX12_lose 23 = .ok (.getfield 22, 3) := by decide +kernel
theorem dX12_lose_26 : decode cX12_lose 26 = .ok (.iload_n 1, 1) := by decide +kernel
theorem dX12_lose_27 : decode cX12_lose 27 = .ok (.iaload, 1) := by decide +kernel
theorem dX12_lose_28 : decode cX12_lose 28 = .ok (.istore_n 3, 1) := by decide +kernel
theorem dX12_lose_29 : decode cX12_lose 29 = .ok (.aload_n 0, 1) := by decide +kernel
theorem dX12_lose_30 : decode cX12_lose 30 = .ok (.getfield 22, 3) := by decide +kernel
theorem dX12_lose_33 : decode cX12_lose 33 = .ok (.iload_n 1, 1) := by decide +kernel
theorem dX12_lose_34 : decode cX12_lose 34 = .ok (.iload_n 2, 1) := by decide +kernel
theorem dX12_lose_35 : decode cX12_lose 35 = .ok (.iastore, 1) := by decide +kernel
theorem dX12_lose_36 : decode cX12_lose 36 = .ok (.iload_n 3, 1) := by decide +kernel
theorem dX12_lose_37 : decode cX12_lose 37 = .ok (.ireturn, 1) := by decide +kernel
theorem dX12_night_0 : decode cX12_night 0 = .ok (.iload_n 1, 1) := by decide +kernel
theorem dX12_night_1 : decode cX12_night 1 = .ok (.iconst 0, 1) := by decide +kernel
theorem dX12_night_2 : decode cX12_night 2 = .ok (.bipush 60, 2) := by decide +kernel
theorem dX12_night_4 : decode cX12_night 4 = .ok (.invokestatic 99, 3) := by decide +kernel
theorem dX12_night_7 : decode cX12_night 7 = .ok (.ifCond .eq 13, 3) := by decide +kernel
theorem dX12_night_10 : decode cX12_night 10 = .ok (.iload_n 2, 1) := by decide +kernel
theorem dX12_night_11 : decode cX12_night 11 = .ok (.iconst 0, 1) := by decide +kernel
theorem dX12_night_12 : decode cX12_night 12 = .ok (.bipush 9, 2) := by decide +kernel
theorem dX12_night_14 : decode cX12_night 14 = .ok (.invokestatic 99, 3) := by decide +kernel
theorem dX12_night_17 : decode cX12_night 17 = .ok (.ifCond .ne 5, 3) := by decide +kernel
theorem dX12_night_20 : decode cX12_night 20 = .ok (.iconst (-1), 1) := by decide +kernel
theorem dX12_night_21 : decode cX12_night 21 = .ok (.ireturn, 1) := by decide +kernel
theorem dX12_night_22 : decode cX12_night 22 = .ok (.aload_n 0, 1) := by decide +kernel
theorem dX12_night_23 : decode cX12_night 23 = .ok (.getfield 25, 3) := by decide +kernel
theorem dX12_night_26 : decode cX12_night 26 = .ok (.iload_n 1, 1) := by decide +kernel
theorem dX12_night_27 : decode cX12_night 27 = .ok (.iaload, 1) := by decide +kernel
theorem dX12_night_28 : decode cX12_night 28 = .ok (.istore_n 3, 1) := by decide +kernel
theorem dX12_night_29 : decode cX12_night 29 = .ok (.aload_n 0, 1) := by decide +kernel
theorem dX12_night_30 : decode cX12_night 30 = .ok (.getfield 25, 3) := by decide +kernel
theorem dX12_night_33 : decode cX12_night 33 = .ok (.iload_n 1, 1) := by decide +kernel
theorem dX12_night_34 : decode cX12_night 34 = .ok (.iload_n 2, 1) := by decide +kernel
theorem dX12_night_35 : decode cX12_night 35 = .ok (.iastore, 1) := by decide +kernel
theorem dX12_night_36 : decode cX12_night 36 = .ok (.iload_n 3, 1) := by decide +kernel
theorem dX12_night_37 : decode cX12_night 37 = .ok (.ireturn, 1) := by decide +kernel
theorem dX12_slotsOf_0 : decode cX12_slotsOf 0 = .ok (.aload_n 0, 1) := by decide +kernel
theorem dX12_slotsOf_1 : decode cX12_slotsOf 1 = .ok (.getfield 13, 3) := by decide +kernel
theorem dX12_slotsOf_4 : decode cX12_slotsOf 4 = .ok (.iconst 0, 1) := by decide +kernel
theorem dX12_slotsOf_5 : decode cX12_slotsOf 5 = .ok (.iaload, 1) := by decide +kernel
theorem dX12_slotsOf_6 : decode cX12_slotsOf 6 = .ok (.istore_n 2, 1) := by decide +kernel
theorem dX12_slotsOf_7 : decode cX12_slotsOf 7 = .ok (.iload_n 1, 1) := by decide +kernel
theorem dX12_slotsOf_8 : decode cX12_slotsOf 8 = .ok (.bipush 60, 2) := by decide +kernel
theorem dX12_slotsOf_10 : decode cX12_slotsOf 10 = .ok (.if_icmp .le 5, 3) := by decide +kernel
theorem dX12_slotsOf_13 : decode cX12_slotsOf 13 = .ok (.iload_n 2, 1) := by decide +kernel
theorem dX12_slotsOf_14 : decode cX12_slotsOf 14 = .ok (.ireturn, 1) := by decide +kernel
theorem dX12_slotsOf_15 : decode cX12_slotsOf 15 = .ok (.iload_n 2, 1) := by decide +kernel
theorem dX12_slotsOf_16 : decode cX12_slotsOf 16 = .ok (.aload_n 0, 1) := by decide +kernel
theorem dX12_slotsOf_17 : decode cX12_slotsOf 17 = .ok (.getfield 22, 3) := by decide +kernel
theorem dX12_slotsOf_20 : decode cX12_slotsOf 20 = .ok (.iload_n 1, 1) := by decide +kernel
theorem dX12_slotsOf_21 : decode cX12_slotsOf 21 = .ok (.iaload, 1) := by decide +kernel
theorem dX12_slotsOf_22 : decode cX12_slotsOf 22 = .ok (.if_icmp .le 14, 3) := by decide +kernel
theorem dX12_slotsOf_25 : decode cX12_slotsOf 25 = .ok (.iload_n 2, 1) := by decide +kernel
theorem dX12_slotsOf_26 : decode cX12_slotsOf 26 = .ok (.aload_n 0, 1) := by decide +kernel
theorem dX12_slotsOf_27 : decode cX12_slotsOf 27 = .ok (.getfield 22, 3) := by decide +kernel
theorem dX12_slotsOf_30 : decode cX12_slotsOf 30 = .ok (.iload_n 1, 1) := by decide +kernel
theorem dX12_slotsOf_31 : decode cX12_slotsOf 31 = .ok (.iaload, 1) := by decide +kernel
theorem dX12_slotsOf_32 : decode cX12_slotsOf 32 = .ok (.isub, 1) := by decide +kernel
theorem dX12_slotsOf_33 : decode cX12_slotsOf 33 = .ok (.goto 4, 3) := by decide +kernel
theorem dX12_slotsOf_36 : decode cX12_slotsOf 36 = .ok (.iconst 0, 1) := by decide +kernel
theorem dX12_slotsOf_37 : decode cX12_slotsOf 37 = .ok (.aload_n 0, 1) := by decide +kernel
theorem dX12_slotsOf_38 : decode cX12_slotsOf 38 = .ok (.getfield 25, 3) := by decide +kernel
theorem dX12_slotsOf_41 : decode cX12_slotsOf 41 = .ok (.iload_n 1, 1) := by decide +kernel
theorem dX12_slotsOf_42 : decode cX12_slotsOf 42 = .ok (.iaload, 1) := by decide +kernel
theorem dX12_slotsOf_43 : decode cX12_slotsOf 43 = .ok (.iadd, 1) := by decide +kernel
theorem dX12_slotsOf_44 : decode cX12_slotsOf 44 = .ok (.ireturn, 1) := by decide +kernel
theorem dX12_slots_0 : decode cX12_slots 0 = .ok (.iload_n 1, 1) := by decide +kernel
theorem dX12_slots_1 : decode cX12_slots 1 = .ok (.iconst 0, 1) := by decide +kernel
theorem dX12_slots_2 : decode cX12_slots 2 = .ok (.bipush 99, 2) := by decide +kernel
theorem dX12_slots_4 : decode cX12_slots 4 = .ok (.invokestatic 99, 3) := by decide +kernel
theorem dX12_slots_7 : decode cX12_slots 7 = .ok (.ifCond .eq 11, 3) := by decide +kernel
theorem dX12_slots_10 : decode cX12_slots 10 = .ok (.aload_n 0, 1) := by decide +kernel
theorem dX12_slots_11 : decode cX12_slots 11 = .ok (.iload_n 1, 1) := by decide +kernel
theorem dX12_slots_12 : decode cX12_slots 12 = .ok (.invokevirtual 248, 3) := by decide +kernel
theorem dX12_slots_15 : decode cX12_slots 15 = .ok (.goto 4, 3) := by decide +kernel
theorem dX12_slots_18 : decode cX12_slots 18 = .ok (.iconst (-1), 1) := by decide +kernel
theorem dX12_slots_19 : decode cX12_slots 19 = .ok (.ireturn, 1) := by decide +kernel
theorem dX12_plan_0 : decode cX12_plan 0 = .ok (.iconst 0, 1) := by decide +kernel
theorem dX12_plan_1 : decode cX12_plan 1 = .ok (.istore_n 2, 1) := by decide +kernel
theorem dX12_plan_2 : decode cX12_plan 2 = .ok (.iconst 0, 1) := by decide +kernel
theorem dX12_plan_3 : decode cX12_plan 3 = .ok (.istore_n 3, 1) := by decide +kernel
theorem dX12_plan_4 : decode cX12_plan 4 = .ok (.iload_n 3, 1) := by decide +kernel
theorem dX12_plan_5 : decode cX12_plan 5 = .ok (.aload_n 0, 1) := by decide +kernel
theorem dX12_plan_6 : decode cX12_plan 6 = .ok (.getfield 96, 3) := by decide +kernel
theorem dX12_plan_9 : decode cX12_plan 9 = .ok (.if_icmp .ge 22, 3) := by decide +kernel
theorem dX12_plan_12 : decode cX12_plan 12 = .ok (.iload_n 2, 1) := by decide +kernel
theorem dX12_plan_13 : decode cX12_plan 13 = .ok (.iconst 1, 1) := by decide +kernel
theorem dX12_plan_14 : decode cX12_plan 14 = .ok (.iload_n 1, 1) := by decide +kernel
theorem dX12_plan_15 : decode cX12_plan 15 = .ok (.iconst 3, 1) := by decide +kernel
theorem dX12_plan_16 : decode cX12_plan 16 = .ok (.iload_n 3, 1) := by decide +kernel
theorem dX12_plan_17 : decode cX12_plan 17 = .ok (.imul, 1) := by decide +kernel
theorem dX12_plan_18 : decode cX12_plan 18 = .ok (.ishr, 1) := by decide +kernel
theorem dX12_plan_19 : decode cX12_plan 19 = .ok (.bipush 7, 2) := by decide +kernel
theorem dX12_plan_21 : decode cX12_plan 21 = .ok (.iand, 1) := by decide +kernel
theorem dX12_plan_22 : decode cX12_plan 22 = .ok (.ishl, 1) := by decide +kernel
theorem dX12_plan_23 : decode cX12_plan 23 = .ok (.ior, 1) := by decide +kernel
theorem dX12_plan_24 : decode cX12_plan 24 = .ok (.istore_n 2, 1) := by decide +kernel
theorem dX12_plan_25 : decode cX12_plan 25 = .ok (.iinc 3 1, 3) := by decide +kernel
theorem dX12_plan_28 : decode cX12_plan 28 = .ok (.goto (-24), 3) := by decide +kernel
theorem dX12_plan_31 : decode cX12_plan 31 = .ok (.iload_n 1, 1) := by decide +kernel
theorem dX12_plan_32 : decode cX12_plan 32 = .ok (.ifCond .lt 26, 3) := by decide +kernel
theorem dX12_plan_35 : decode cX12_plan 35 = .ok (.iload_n 1, 1) := by decide +kernel
theorem dX12_plan_36 : decode cX12_plan 36 = .ok (.iconst 3, 1) := by decide +kernel
theorem dX12_plan_37 : decode cX12_plan 37 = .ok (.aload_n 0, 1) := by decide +kernel
theorem dX12_plan_38 : decode cX12_plan 38 = .ok (.getfield 96, 3) := by decide +kernel
theorem dX12_plan_41 : decode cX12_plan 41 = .ok (.imul, 1) := by decide +kernel
theorem dX12_plan_42 : decode cX12_plan 42 = .ok (.ishr, 1) := by decide +kernel
theorem dX12_plan_43 : decode cX12_plan 43 = .ok (.ifCond .ne 15, 3) := by decide +kernel
theorem dX12_plan_46 : decode cX12_plan 46 = .ok (.iload_n 2, 1) := by decide +kernel
theorem dX12_plan_47 : decode cX12_plan 47 = .ok (.iconst 1, 1) := by decide +kernel
theorem dX12_plan_48 : decode cX12_plan 48 = .ok (.aload_n 0, 1) := by decide +kernel
theorem dX12_plan_49 : decode cX12_plan 49 = .ok (.getfield 96, 3) := by decide +kernel
theorem dX12_plan_52 : decode cX12_plan 52 = .ok (.ishl, 1) := by decide +kernel
theorem dX12_plan_53 : decode cX12_plan 53 = .ok (.iconst 1, 1) := by decide +kernel
theorem dX12_plan_54 : decode cX12_plan 54 = .ok (.isub, 1) := by decide +kernel
theorem dX12_plan_55 : decode cX12_plan 55 = .ok (.if_icmp .eq 5, 3) := by decide +kernel
theorem dX12_plan_58 : decode cX12_plan 58 = .ok (.iconst (-1), 1) := by decide +kernel
theorem dX12_plan_59 : decode cX12_plan 59 = .ok (.ireturn, 1) := by decide +kernel
theorem dX12_plan_60 : decode cX12_plan 60 = .ok (.iconst 0, 1) := by decide +kernel
theorem dX12_plan_61 : decode cX12_plan 61 = .ok (.istore_n 3, 1) := by decide +kernel
theorem dX12_plan_62 : decode cX12_plan 62 = .ok (.iload_n 3, 1) := by decide +kernel
theorem dX12_plan_63 : decode cX12_plan 63 = .ok (.aload_n 0, 1) := by decide +kernel
theorem dX12_plan_64 : decode cX12_plan 64 = .ok (.getfield 96, 3) := by decide +kernel
theorem dX12_plan_67 : decode cX12_plan 67 = .ok (.if_icmp .ge 23, 3) := by decide +kernel
theorem dX12_plan_70 : decode cX12_plan 70 = .ok (.aload_n 0, 1) := by decide +kernel
theorem dX12_plan_71 : decode cX12_plan 71 = .ok (.getfield 28, 3) := by decide +kernel
theorem dX12_plan_74 : decode cX12_plan 74 = .ok (.iload_n 3, 1) := by decide +kernel
theorem dX12_plan_75 : decode cX12_plan 75 = .ok (.iload_n 1, 1) := by decide +kernel
theorem dX12_plan_76 : decode cX12_plan 76 = .ok (.iconst 3, 1) := by decide +kernel
theorem dX12_plan_77 : decode cX12_plan 77 = .ok (.iload_n 3, 1) := by decide +kernel
theorem dX12_plan_78 : decode cX12_plan 78 = .ok (.imul, 1) := by decide +kernel
theorem dX12_plan_79 : decode cX12_plan 79 = .ok (.ishr, 1) := by decide +kernel
theorem dX12_plan_80 : decode cX12_plan 80 = .ok (.bipush 7, 2) := by decide +kernel
theorem dX12_plan_82 : decode cX12_plan 82 = .ok (.iand, 1) := by decide +kernel
theorem dX12_plan_83 : decode cX12_plan 83 = .ok (.iastore, 1) := by decide +kernel
theorem dX12_plan_84 : decode cX12_plan 84 = .ok (.iinc 3 1, 3) := by decide +kernel
theorem dX12_plan_87 : decode cX12_plan 87 = .ok (.goto (-25), 3) := by decide +kernel
theorem dX12_plan_90 : decode cX12_plan 90 = .ok (.iconst 1, 1) := by decide +kernel
theorem dX12_plan_91 : decode cX12_plan 91 = .ok (.ireturn, 1) := by decide +kernel
theorem dX12_planOf_0 : decode cX12_planOf 0 = .ok (.aload_n 0, 1) := by decide +kernel
theorem dX12_planOf_1 : decode cX12_planOf 1 = .ok (.iload_n 1, 1) := by decide +kernel
theorem dX12_planOf_2 : decode cX12_planOf 2 = .ok (.invokevirtual 239, 3) := by decide +kernel
theorem dX12_planOf_5 : decode cX12_planOf 5 = .ok (.ifCond .eq 12, 3) := by decide +kernel
theorem dX12_planOf_8 : decode cX12_planOf 8 = .ok (.aload_n 0, 1) := by decide +kernel
theorem dX12_planOf_9 : decode cX12_planOf 9 = .ok (.getfield 28, 3) := by decide +kernel
theorem dX12_planOf_12 : decode cX12_planOf 12 = .ok (.iload_n 1, 1) := by decide +kernel
theorem dX12_planOf_13 : decode cX12_planOf 13 = .ok (.iaload, 1) := by decide +kernel
theorem dX12_planOf_14 : decode cX12_planOf 14 = .ok (.goto 4, 3) := by decide +kernel
theorem dX12_planOf_17 : decode cX12_planOf 17 = .ok (.iconst (-1), 1) := by decide +kernel
theorem dX12_planOf_18 : decode cX12_planOf 18 = .ok (.ireturn, 1) := by decide +kernel
theorem dX12_press_0 : decode cX12_press 0 = .ok (.iload_n 1, 1) := by decide +kernel
theorem dX12_press_1 : decode cX12_press 1 = .ok (.ifCond .ne 10, 3) := by decide +kernel
theorem dX12_press_4 : decode cX12_press 4 = .ok (.aload_n 0, 1) := by decide +kernel
theorem dX12_press_5 : decode cX12_press 5 = .ok (.getfield 217, 3) := by decide +kernel
theorem dX12_press_8 : decode cX12_press 8 = .ok (.goto 28, 3) := by decide +kernel
theorem dX12_press_11 : decode cX12_press 11 = .ok (.iload_n 1, 1) := by decide +kernel
theorem dX12_press_12 : decode cX12_press 12 = .ok (.iconst 1, 1) := by decide +kernel
theorem dX12_press_13 : decode cX12_press 13 = .ok (.if_icmp .ne 10, 3) := by decide +kernel
theorem dX12_press_16 : decode cX12_press 16 = .ok (.aload_n 0, 1) := by decide +kernel
theorem dX12_press_17 : decode cX12_press 17 = .ok (.getfield 220, 3) := by decide +kernel
theorem dX12_press_20 : decode cX12_press 20 = .ok (.goto 16, 3) := by decide +kernel
theorem dX12_press_23 : decode cX12_press 23 = .ok (.iload_n 1, 1) := by decide +kernel
theorem dX12_press_24 : decode cX12_press 24 = .ok (.iconst 2, 1) := by decide +kernel
theorem dX12_press_25 : decode cX12_press 25 = .ok (.if_icmp .ne 10, 3) := by decide +kernel
theorem dX12_press_28 : decode cX12_press 28 = .ok (.aload_n 0, 1) := by decide +kernel
theorem dX12_press_29 : decode cX12_press 29 = .ok (.getfield 223, 3) := by decide +kernel
theorem dX12_press_32 : decode cX12_press 32 = .ok (.goto 4, 3) := by decide +kernel
theorem dX12_press_35 : decode cX12_press 35 = .ok (.iconst (-1), 1) := by decide +kernel
theorem dX12_press_36 : decode cX12_press 36 = .ok (.ireturn, 1) := by decide +kernel
theorem dX12_lends_0 : decode cX12_lends 0 = .ok (.iconst 0, 1) := by decide +kernel
theorem dX12_lends_1 : decode cX12_lends 1 = .ok (.istore_n 3, 1) := by decide +kernel
theorem dX12_lends_2 : decode cX12_lends 2 = .ok (.iload_n 3, 1) := by decide +kernel
theorem dX12_lends_3 : decode cX12_lends 3 = .ok (.iload_n 1, 1) := by decide +kernel
theorem dX12_lends_4 : decode cX12_lends 4 = .ok (.if_icmp .ge 41, 3) := by decide +kernel
theorem dX12_lends_7 : decode cX12_lends 7 = .ok (.aload_n 0, 1) := by decide +kernel
theorem dX12_lends_8 : decode cX12_lends 8 = .ok (.getfield 50, 3) := by decide +kernel
theorem dX12_lends_11 : decode cX12_lends 11 = .ok (.iload_n 3, 1) := by decide +kernel
theorem dX12_lends_12 : decode cX12_lends 12 = .ok (.iload_n 2, 1) := by decide +kernel
theorem dX12_lends_13 : decode cX12_lends 13 = .ok (.iload_n 3, 1) := by decide +kernel
theorem dX12_lends_14 : decode cX12_lends 14 = .ok (.ishr, 1) := by decide +kernel
theorem dX12_lends_15 : decode cX12_lends 15 = .ok (.iconst 1, 1) := by decide +kernel
theorem dX12_lends_16 : decode cX12_lends 16 = .ok (.iand, 1) := by decide +kernel
theorem dX12_lends_17 : decode cX12_lends 17 = .ok (.iconst 1, 1) := by decide +kernel
theorem dX12_lends_18 : decode cX12_lends 18 = .ok (.if_icmp .ne 14, 3) := by decide +kernel
theorem dX12_lends_21 : decode cX12_lends 21 = .ok (.iconst 2, 1) := by decide +kernel
theorem dX12_lends_22 : decode cX12_lends 22 = .ok (.aload_n 0, 1) := by decide +kernel
theorem dX12_lends_23 : decode cX12_lends 23 = .ok (.iload_n 3, 1) := by decide +kernel
theorem dX12_lends_24 : decode cX12_lends 24 = .ok (.iconst 1, 1) := by decide +kernel
theorem dX12_lends_25 : decode cX12_lends 25 = .ok (.invokevirtual 242, 3) := by decide +kernel
theorem dX12_lends_28 : decode cX12_lends 28 = .ok (.imul, 1) := by decide +kernel
theorem dX12_lends_29 : decode cX12_lends 29 = .ok (.goto 9, 3) := by decide +kernel
theorem dX12_lends_32 : decode cX12_lends 32 = .ok (.aload_n 0, 1) := by decide +kernel
theorem dX12_lends_33 : decode cX12_lends 33 = .ok (.iload_n 3, 1) := by decide +kernel
theorem dX12_lends_34 : decode cX12_lends 34 = .ok (.iconst 1, 1) := by decide +kernel
theorem dX12_lends_35 : decode cX12_lends 35 = .ok (.invokevirtual 242, 3) := by decide +kernel
theorem dX12_lends_38 : decode cX12_lends 38 = .ok (.iastore, 1) := by decide +kernel
theorem dX12_lends_39 : decode cX12_lends 39 = .ok (.iinc 3 1, 3) := by decide +kernel
theorem dX12_lends_42 : decode cX12_lends 42 = .ok (.goto (-40), 3) := by decide +kernel
theorem dX12_lends_45 : decode cX12_lends 45 = .ok (.aload_n 0, 1) := by decide +kernel
theorem dX12_lends_46 : decode cX12_lends 46 = .ok (.aload_n 0, 1) := by decide +kernel
theorem dX12_lends_47 : decode cX12_lends 47 = .ok (.getfield 220, 3) := by decide +kernel
theorem dX12_lends_50 : decode cX12_lends 50 = .ok (.putfield 251, 3) := by decide +kernel
theorem dX12_lends_53 : decode cX12_lends 53 = .ok (.aload_n 0, 1) := by decide +kernel
theorem dX12_lends_54 : decode cX12_lends 54 = .ok (.aload_n 0, 1) := by decide +kernel
theorem dX12_lends_55 : decode cX12_lends 55 = .ok (.getfield 223, 3) := by decide +kernel
theorem dX12_lends_58 : decode cX12_lends 58 = .ok (.putfield 254, 3) := by decide +kernel
theorem dX12_lends_61 : decode cX12_lends 61 = .ok (.return_, 1) := by decide +kernel
theorem dX12_works_0 : decode cX12_works 0 = .ok (.aload_n 0, 1) := by decide +kernel
theorem dX12_works_1 : decode cX12_works 1 = .ok (.iload_n 1, 1) := by decide +kernel
theorem dX12_works_2 : decode cX12_works 2 = .ok (.iconst 2, 1) := by decide +kernel
theorem dX12_works_3 : decode cX12_works 3 = .ok (.invokevirtual 242, 3) := by decide +kernel
theorem dX12_works_6 : decode cX12_works 6 = .ok (.aload_n 0, 1) := by decide +kernel
theorem dX12_works_7 : decode cX12_works 7 = .ok (.getfield 251, 3) := by decide +kernel
theorem dX12_works_10 : decode cX12_works 10 = .ok (.if_icmp .eq 23, 3) := by decide +kernel
theorem dX12_works_13 : decode cX12_works 13 = .ok (.aload_n 0, 1) := by decide +kernel
theorem dX12_works_14 : decode cX12_works 14 = .ok (.aload_n 0, 1) := by decide +kernel
theorem dX12_works_15 : decode cX12_works 15 = .ok (.iload_n 1, 1) := by decide +kernel
theorem dX12_works_16 : decode cX12_works 16 = .ok (.iconst 2, 1) := by decide +kernel
theorem dX12_works_17 : decode cX12_works 17 = .ok (.invokevirtual 242, 3) := by decide +kernel
theorem dX12_works_20 : decode cX12_works 20 = .ok (.putfield 251, 3) := by decide +kernel
theorem dX12_works_23 : decode cX12_works 23 = .ok (.aload_n 0, 1) := by decide +kernel
theorem dX12_works_24 : decode cX12_works 24 = .ok (.aload_n 0, 1) := by decide +kernel
theorem dX12_works_25 : decode cX12_works 25 = .ok (.getfield 13, 3) := by decide +kernel
theorem dX12_works_28 : decode cX12_works 28 = .ok (.iconst 1, 1) := by decide +kernel
theorem dX12_works_29 : decode cX12_works 29 = .ok (.iaload, 1) := by decide +kernel
theorem dX12_works_30 : decode cX12_works 30 = .ok (.putfield 254, 3) := by decide +kernel
theorem dX12_works_33 : decode cX12_works 33 = .ok (.aload_n 0, 1) := by decide +kernel
theorem dX12_works_34 : decode cX12_works 34 = .ok (.getfield 254, 3) := by decide +kernel
theorem dX12_works_37 : decode cX12_works 37 = .ok (.ifCond .le 15, 3) := by decide +kernel
theorem dX12_works_40 : decode cX12_works 40 = .ok (.aload_n 0, 1) := by decide +kernel
theorem dX12_works_41 : decode cX12_works 41 = .ok (.dup, 1) := by decide +kernel
theorem dX12_works_42 : decode cX12_works 42 = .ok (.getfield 254, 3) := by decide +kernel
theorem dX12_works_45 : decode cX12_works 45 = .ok (.iconst 1, 1) := by decide +kernel
theorem dX12_works_46 : decode cX12_works 46 = .ok (.isub, 1) := by decide +kernel
theorem dX12_works_47 : decode cX12_works 47 = .ok (.putfield 254, 3) := by decide +kernel
theorem dX12_works_50 : decode cX12_works 50 = .ok (.iconst 0, 1) := by decide +kernel
theorem dX12_works_51 : decode cX12_works 51 = .ok (.ireturn, 1) := by decide +kernel
theorem dX12_works_52 : decode cX12_works 52 = .ok (.aload_n 0, 1) := by decide +kernel
theorem dX12_works_53 : decode cX12_works 53 = .ok (.getfield 50, 3) := by decide +kernel
theorem dX12_works_56 : decode cX12_works 56 = .ok (.iload_n 1, 1) := by decide +kernel
theorem dX12_works_57 : decode cX12_works 57 = .ok (.dup2, 1) := by decide +kernel
theorem dX12_works_58 : decode cX12_works 58 = .ok (.iaload, 1) := by decide +kernel
theorem dX12_works_59 : decode cX12_works 59 = .ok (.iconst 1, 1) := by decide +kernel
theorem dX12_works_60 : decode cX12_works 60 = .ok (.isub, 1) := by decide +kernel
theorem dX12_works_61 : decode cX12_works 61 = .ok (.iastore, 1) := by decide +kernel
theorem dX12_works_62 : decode cX12_works 62 = .ok (.aload_n 0, 1) := by decide +kernel
theorem dX12_works_63 : decode cX12_works 63 = .ok (.getfield 50, 3) := by decide +kernel
theorem dX12_works_66 : decode cX12_works 66 = .ok (.iload_n 1, 1) := by decide +kernel
theorem dX12_works_67 : decode cX12_works 67 = .ok (.iaload, 1) := by decide +kernel
theorem dX12_works_68 : decode cX12_works 68 = .ok (.ifCond .ne 7, 3) := by decide +kernel
theorem dX12_works_71 : decode cX12_works 71 = .ok (.iconst 1, 1) := by decide +kernel
theorem dX12_works_72 : decode cX12_works 72 = .ok (.goto 4, 3) := by decide +kernel
theorem dX12_works_75 : decode cX12_works 75 = .ok (.iconst 0, 1) := by decide +kernel
theorem dX12_works_76 : decode cX12_works 76 = .ok (.ireturn, 1) := by decide +kernel
theorem dX12_worksAll_0 : decode cX12_worksAll 0 = .ok (.aload_n 0, 1) := by decide +kernel
theorem dX12_worksAll_1 : decode cX12_worksAll 1 = .ok (.iload_n 1, 1) := by decide +kernel
theorem dX12_worksAll_2 : decode cX12_worksAll 2 = .ok (.iload_n 1, 1) := by decide +kernel
theorem dX12_worksAll_3 : decode cX12_worksAll 3 = .ok (.iload_n 2, 1) := by decide +kernel
theorem dX12_worksAll_4 : decode cX12_worksAll 4 = .ok (.iload_n 3, 1) := by decide +kernel
theorem dX12_worksAll_5 : decode cX12_worksAll 5 = .ok (.invokevirtual 257, 3) := by decide +kernel
theorem dX12_worksAll_8 : decode cX12_worksAll 8 = .ok (.return_, 1) := by decide +kernel
theorem dX12_isLate_0 : decode cX12_isLate 0 = .ok (.aload_n 0, 1) := by decide +kernel
theorem dX12_isLate_1 : decode cX12_isLate 1 = .ok (.getfield 53, 3) := by decide +kernel
theorem dX12_isLate_4 : decode cX12_isLate 4 = .ok (.iload_n 1, 1) := by decide +kernel
theorem dX12_isLate_5 : decode cX12_isLate 5 = .ok (.iaload, 1) := by decide +kernel
theorem dX12_isLate_6 : decode cX12_isLate 6 = .ok (.aload_n 0, 1) := by decide +kernel
theorem dX12_isLate_7 : decode cX12_isLate 7 = .ok (.iload_n 1, 1) := by decide +kernel
theorem dX12_isLate_8 : decode cX12_isLate 8 = .ok (.iconst 3, 1) := by decide +kernel
theorem dX12_isLate_9 : decode cX12_isLate 9 = .ok (.invokevirtual 242, 3) := by decide +kernel
theorem dX12_isLate_12 : decode cX12_isLate 12 = .ok (.if_icmp .le 7, 3) := by decide +kernel
theorem dX12_isLate_15 : decode cX12_isLate 15 = .ok (.iconst 1, 1) := by decide +kernel
theorem dX12_isLate_16 : decode cX12_isLate 16 = .ok (.goto 4, 3) := by decide +kernel
theorem dX12_isLate_19 : decode cX12_isLate 19 = .ok (.iconst 0, 1) := by decide +kernel
theorem dX12_isLate_20 : decode cX12_isLate 20 = .ok (.ireturn, 1) := by decide +kernel
theorem dX12_worthOf_0 : decode cX12_worthOf 0 = .ok (.aload_n 0, 1) := by decide +kernel
theorem dX12_worthOf_1 : decode cX12_worthOf 1 = .ok (.iload_n 1, 1) := by decide +kernel
theorem dX12_worthOf_2 : decode cX12_worthOf 2 = .ok (.iconst 4, 1) := by decide +kernel
theorem dX12_worthOf_3 : decode cX12_worthOf 3 = .ok (.invokevirtual 242, 3) := by decide +kernel
theorem dX12_worthOf_6 : decode cX12_worthOf 6 = .ok (.istore_n 2, 1) := by decide +kernel
theorem dX12_worthOf_7 : decode cX12_worthOf 7 = .ok (.aload_n 0, 1) := by decide +kernel
theorem dX12_worthOf_8 : decode cX12_worthOf 8 = .ok (.iload_n 1, 1) := by decide +kernel
theorem dX12_worthOf_9 : decode cX12_worthOf 9 = .ok (.invokevirtual 261, 3) := by decide +kernel
theorem dX12_worthOf_12 : decode cX12_worthOf 12 = .ok (.ifCond .ne 5, 3) := by decide +kernel
theorem dX12_worthOf_15 : decode cX12_worthOf 15 = .ok (.iload_n 2, 1) := by decide +kernel
theorem dX12_worthOf_16 : decode cX12_worthOf 16 = .ok (.ireturn, 1) := by decide +kernel
theorem dX12_worthOf_17 : decode cX12_worthOf 17 = .ok (.aload_n 0, 1) := by decide +kernel
theorem dX12_worthOf_18 : decode cX12_worthOf 18 = .ok (.getfield 13, 3) := by decide +kernel
theorem dX12_worthOf_21 : decode cX12_worthOf 21 = .ok (.iconst 2, 1) := by decide +kernel
theorem dX12_worthOf_22 : decode cX12_worthOf 22 = .ok (.iaload, 1) := by decide +kernel
theorem dX12_worthOf_23 : decode cX12_worthOf 23 = .ok (.istore_n 3, 1) := by decide +kernel
theorem dX12_worthOf_24 : decode cX12_worthOf 24 = .ok (.aload_n 0, 1) := by decide +kernel
theorem dX12_worthOf_25 : decode cX12_worthOf 25 = .ok (.iload_n 1, 1) := by decide +kernel
theorem dX12_worthOf_26 : decode cX12_worthOf 26 = .ok (.iconst 0, 1) := by decide +kernel
theorem dX12_worthOf_27 : decode cX12_worthOf 27 = .ok (.invokevirtual 242, 3) := by decide +kernel
theorem dX12_worthOf_30 : decode cX12_worthOf 30 = .ok (.tableswitch 71 1 4 #[30, 61, 65, 35], 30) := by decide +kernel
theorem dX12_worthOf_60 : decode cX12_worthOf 60 = .ok (.bipush (-2), 2) := by decide +kernel
theorem dX12_worthOf_62 : decode cX12_worthOf 62 = .ok (.iload_n 3, 1) := by decide +kernel
theorem dX12_worthOf_63 : decode cX12_worthOf 63 = .ok (.imul, 1) := by decide +kernel
theorem dX12_worthOf_64 : decode cX12_worthOf 64 = .ok (.ireturn, 1) := by decide +kernel
theorem dX12_worthOf_65 : decode cX12_worthOf 65 = .ok (.aload_n 0, 1) := by decide +kernel
theorem dX12_worthOf_66 : decode cX12_worthOf 66 = .ok (.getfield 53, 3) := by decide +kernel
theorem dX12_worthOf_69 : decode cX12_worthOf 69 = .ok (.iload_n 1, 1) := by decide +kernel
theorem dX12_worthOf_70 : decode cX12_worthOf 70 = .ok (.iaload, 1) := by decide +kernel
theorem dX12_worthOf_71 : decode cX12_worthOf 71 = .ok (.aload_n 0, 1) := by decide +kernel
theorem dX12_worthOf_72 : decode cX12_worthOf 72 = .ok (.iload_n 1, 1) := by decide +kernel
theorem dX12_worthOf_73 : decode cX12_worthOf 73 = .ok (.iconst 3, 1) := by decide +kernel
theorem dX12_worthOf_74 : decode cX12_worthOf 74 = .ok (.invokevirtual 242, 3) := by decide +kernel
theorem dX12_worthOf_77 : decode cX12_worthOf 77 = .ok (.iconst 1, 1) := by decide +kernel
theorem dX12_worthOf_78 : decode cX12_worthOf 78 = .ok (.iadd, 1) := by decide +kernel
theorem dX12_worthOf_79 : decode cX12_worthOf 79 = .ok (.if_icmp .ne 7, 3) := by decide +kernel
theorem dX12_worthOf_82 : decode cX12_worthOf 82 = .ok (.iconst 0, 1) := by decide +kernel
theorem dX12_worthOf_83 : decode cX12_worthOf 83 = .ok (.goto 7, 3) := by decide +kernel
theorem dX12_worthOf_86 : decode cX12_worthOf 86 = .ok (.bipush (-2), 2) := by decide +kernel
theorem dX12_worthOf_88 : decode cX12_worthOf 88 = .ok (.iload_n 3, 1) := by decide +kernel
theorem dX12_worthOf_89 : decode cX12_worthOf 89 = .ok (.imul, 1) := by decide +kernel
theorem dX12_worthOf_90 : decode cX12_worthOf 90 = .ok (.ireturn, 1) := by decide +kernel
theorem dX12_worthOf_91 : decode cX12_worthOf 91 = .ok (.iload_n 2, 1) := by decide +kernel
theorem dX12_worthOf_92 : decode cX12_worthOf 92 = .ok (.iconst 2, 1) := by decide +kernel
theorem dX12_worthOf_93 : decode cX12_worthOf 93 = .ok (.idiv, 1) := by decide +kernel
theorem dX12_worthOf_94 : decode cX12_worthOf 94 = .ok (.ireturn, 1) := by decide +kernel
theorem dX12_worthOf_95 : decode cX12_worthOf 95 = .ok (.iload_n 2, 1) := by decide +kernel
theorem dX12_worthOf_96 : decode cX12_worthOf 96 = .ok (.iconst 2, 1) := by decide +kernel
theorem dX12_worthOf_97 : decode cX12_worthOf 97 = .ok (.idiv, 1) := by decide +kernel
theorem dX12_worthOf_98 : decode cX12_worthOf 98 = .ok (.iload_n 3, 1) := by decide +kernel
theorem dX12_worthOf_99 : decode cX12_worthOf 99 = .ok (.isub, 1) := by decide +kernel
theorem dX12_worthOf_100 : decode cX12_worthOf 100 = .ok (.ireturn, 1) := by decide +kernel
theorem dX12_worthOf_101 : decode cX12_worthOf 101 = .ok (.iload_n 3, 1) := by decide +kernel
theorem dX12_worthOf_102 : decode cX12_worthOf 102 = .ok (.ineg, 1) := by decide +kernel
theorem dX12_worthOf_103 : decode cX12_worthOf 103 = .ok (.ireturn, 1) := by decide +kernel
theorem dX12_worthAll_0 : decode cX12_worthAll 0 = .ok (.iconst 0, 1) := by decide +kernel
theorem dX12_worthAll_1 : decode cX12_worthAll 1 = .ok (.istore_n 2, 1) := by decide +kernel
theorem dX12_worthAll_2 : decode cX12_worthAll 2 = .ok (.iconst 0, 1) := by decide +kernel
theorem dX12_worthAll_3 : decode cX12_worthAll 3 = .ok (.istore_n 3, 1) := by decide +kernel
theorem dX12_worthAll_4 : decode cX12_worthAll 4 = .ok (.iload_n 3, 1) := by decide +kernel
theorem dX12_worthAll_5 : decode cX12_worthAll 5 = .ok (.iload_n 1, 1) := by decide +kernel
theorem dX12_worthAll_6 : decode cX12_worthAll 6 = .ok (.if_icmp .ge 22, 3) := by decide +kernel
theorem dX12_worthAll_9 : decode cX12_worthAll 9 = .ok (.iload_n 2, 1) := by decide +kernel
theorem dX12_worthAll_10 : decode cX12_worthAll 10 = .ok (.aload_n 0, 1) := by decide +kernel
theorem dX12_worthAll_11 : decode cX12_worthAll 11 = .ok (.aload_n 0, 1) := by decide +kernel
theorem dX12_worthAll_12 : decode cX12_worthAll 12 = .ok (.getfield 47, 3) := by decide +kernel
theorem dX12_worthAll_15 : decode cX12_worthAll 15 = .ok (.iload_n 3, 1) := by decide +kernel
theorem dX12_worthAll_16 : decode cX12_worthAll 16 = .ok (.iaload, 1) := by decide +kernel
theorem dX12_worthAll_17 : decode cX12_worthAll 17 = .ok (.invokevirtual 264, 3) := by decide +kernel
theorem dX12_worthAll_20 : decode cX12_worthAll 20 = .ok (.iadd, 1) := by decide +kernel
theorem dX12_worthAll_21 : decode cX12_worthAll 21 = .ok (.istore_n 2, 1) := by decide +kernel
theorem dX12_worthAll_22 : decode cX12_worthAll 22 = .ok (.iinc 3 1, 3) := by decide +kernel
theorem dX12_worthAll_25 : decode cX12_worthAll 25 = .ok (.goto (-21), 3) := by decide +kernel
theorem dX12_worthAll_28 : decode cX12_worthAll 28 = .ok (.iload_n 2, 1) := by decide +kernel
theorem dX12_worthAll_29 : decode cX12_worthAll 29 = .ok (.ireturn, 1) := by decide +kernel
theorem dX12_lateMany_0 : decode cX12_lateMany 0 = .ok (.iconst 0, 1) := by decide +kernel
theorem dX12_lateMany_1 : decode cX12_lateMany 1 = .ok (.istore_n 2, 1) := by decide +kernel
theorem dX12_lateMany_2 : decode cX12_lateMany 2 = .ok (.iconst 0, 1) := by decide +kernel
theorem dX12_lateMany_3 : decode cX12_lateMany 3 = .ok (.istore_n 3, 1) := by decide +kernel
theorem dX12_lateMany_4 : decode cX12_lateMany 4 = .ok (.iload_n 3, 1) := by decide +kernel
theorem dX12_lateMany_5 : decode cX12_lateMany 5 = .ok (.iload_n 1, 1) := by decide +kernel
theorem dX12_lateMany_6 : decode cX12_lateMany 6 = .ok (.if_icmp .ge 30, 3) := by decide +kernel
theorem dX12_lateMany_9 : decode cX12_lateMany 9 = .ok (.iload_n 2, 1) := by decide +kernel
theorem dX12_lateMany_10 : decode cX12_lateMany 10 = .ok (.aload_n 0, 1) := by decide +kernel
theorem dX12_lateMany_11 : decode cX12_lateMany 11 = .ok (.aload_n 0, 1) := by decide +kernel
theorem dX12_lateMany_12 : decode cX12_lateMany 12 = .ok (.getfield 47, 3) := by decide +kernel
theorem dX12_lateMany_15 : decode cX12_lateMany 15 = .ok (.iload_n 3, 1) := by decide +kernel
theorem dX12_lateMany_16 : decode cX12_lateMany 16 = .ok (.iaload, 1) := by decide +kernel
theorem dX12_lateMany_17 : decode cX12_lateMany 17 = .ok (.invokevirtual 261, 3) := by decide +kernel
theorem dX12_lateMany_20 : decode cX12_lateMany 20 = .ok (.ifCond .eq 7, 3) := by decide +kernel
theorem dX12_lateMany_23 : decode cX12_lateMany 23 = .ok (.iconst 1, 1) := by decide +kernel
theorem dX12_lateMany_24 : decode cX12_lateMany 24 = .ok (.goto 4, 3) := by decide +kernel
theorem dX12_lateMany_27 : decode cX12_lateMany 27 = .ok (.iconst 0, 1) := by decide +kernel
theorem dX12_lateMany_28 : decode cX12_lateMany 28 = .ok (.iadd, 1) := by decide +kernel
theorem dX12_lateMany_29 : decode cX12_lateMany 29 = .ok (.istore_n 2, 1) := by decide +kernel
theorem dX12_lateMany_30 : decode cX12_lateMany 30 = .ok (.iinc 3 1, 3) := by decide +kernel
theorem dX12_lateMany_33 : decode cX12_lateMany 33 = .ok (.goto (-29), 3) := by decide +kernel
theorem dX12_lateMany_36 : decode cX12_lateMany 36 = .ok (.iload_n 2, 1) := by decide +kernel
theorem dX12_lateMany_37 : decode cX12_lateMany 37 = .ok (.ireturn, 1) := by decide +kernel
theorem dX12_byPlan_0 : decode cX12_byPlan 0 = .ok (.iconst 0, 1) := by decide +kernel
theorem dX12_byPlan_1 : decode cX12_byPlan 1 = .ok (.istore_n 1, 1) := by decide +kernel
theorem dX12_byPlan_2 : decode cX12_byPlan 2 = .ok (.iload_n 1, 1) := by decide +kernel
theorem dX12_byPlan_3 : decode cX12_byPlan 3 = .ok (.aload_n 0, 1) := by decide +kernel
theorem dX12_byPlan_4 : decode cX12_byPlan 4 = .ok (.getfield 96, 3) := by decide +kernel
theorem dX12_byPlan_7 : decode cX12_byPlan 7 = .ok (.if_icmp .ge 21, 3) := by decide +kernel
theorem dX12_byPlan_10 : decode cX12_byPlan 10 = .ok (.aload_n 0, 1) := by decide +kernel
theorem dX12_byPlan_11 : decode cX12_byPlan 11 = .ok (.getfield 47, 3) := by decide +kernel
theorem dX12_byPlan_14 : decode cX12_byPlan 14 = .ok (.iload_n 1, 1) := by decide +kernel
theorem dX12_byPlan_15 : decode cX12_byPlan 15 = .ok (.aload_n 0, 1) := by decide +kernel
theorem dX12_byPlan_16 : decode cX12_byPlan 16 = .ok (.getfield 28, 3) := by decide +kernel
theorem dX12_byPlan_19 : decode cX12_byPlan 19 = .ok (.iload_n 1, 1) := by decide +kernel
theorem dX12_byPlan_20 : decode cX12_byPlan 20 = .ok (.iaload, 1) := by decide +kernel
theorem dX12_byPlan_21 : decode cX12_byPlan 21 = .ok (.iastore, 1) := by decide +kernel
theorem dX12_byPlan_22 : decode cX12_byPlan 22 = .ok (.iinc 1 1, 3) := by decide +kernel
theorem dX12_byPlan_25 : decode cX12_byPlan 25 = .ok (.goto (-23), 3) := by decide +kernel
theorem dX12_byPlan_28 : decode cX12_byPlan 28 = .ok (.aload_n 0, 1) := by decide +kernel
theorem dX12_byPlan_29 : decode cX12_byPlan 29 = .ok (.aload_n 0, 1) := by decide +kernel
theorem dX12_byPlan_30 : decode cX12_byPlan 30 = .ok (.getfield 96, 3) := by decide +kernel
theorem dX12_byPlan_33 : decode cX12_byPlan 33 = .ok (.iconst 0, 1) := by decide +kernel
theorem dX12_byPlan_34 : decode cX12_byPlan 34 = .ok (.iconst 0, 1) := by decide +kernel
theorem dX12_byPlan_35 : decode cX12_byPlan 35 = .ok (.invokevirtual 267, 3) := by decide +kernel
theorem dX12_byPlan_38 : decode cX12_byPlan 38 = .ok (.return_, 1) := by decide +kernel
theorem dX12_ends_0 : decode cX12_ends 0 = .ok (.aload_n 0, 1) := by decide +kernel
theorem dX12_ends_1 : decode cX12_ends 1 = .ok (.iload_n 1, 1) := by decide +kernel
theorem dX12_ends_2 : decode cX12_ends 2 = .ok (.invokevirtual 239, 3) := by decide +kernel
theorem dX12_ends_5 : decode cX12_ends 5 = .ok (.ifCond .ne 5, 3) := by decide +kernel
theorem dX12_ends_8 : decode cX12_ends 8 = .ok (.iconst (-1), 1) := by decide +kernel
theorem dX12_ends_9 : decode cX12_ends 9 = .ok (.ireturn, 1) := by decide +kernel
theorem dX12_ends_10 : decode cX12_ends 10 = .ok (.aload_n 0, 1) := by decide +kernel
theorem dX12_ends_11 : decode cX12_ends 11 = .ok (.invokevirtual 271, 3) := by decide +kernel
theorem dX12_ends_14 : decode cX12_ends 14 = .ok (.aload_n 0, 1) := by decide +kernel
theorem dX12_ends_15 : decode cX12_ends 15 = .ok (.getfield 53, 3) := by decide +kernel
theorem dX12_ends_18 : decode cX12_ends 18 = .ok (.iload_n 1, 1) := by decide +kernel
theorem dX12_ends_19 : decode cX12_ends 19 = .ok (.iaload, 1) := by decide +kernel
theorem dX12_ends_20 : decode cX12_ends 20 = .ok (.ireturn, 1) := by decide +kernel
theorem dX12_late_0 : decode cX12_late 0 = .ok (.aload_n 0, 1) := by decide +kernel
theorem dX12_late_1 : decode cX12_late 1 = .ok (.invokevirtual 271, 3) := by decide +kernel
theorem dX12_late_4 : decode cX12_late 4 = .ok (.iconst 0, 1) := by decide +kernel
theorem dX12_late_5 : decode cX12_late 5 = .ok (.istore_n 1, 1) := by decide +kernel
theorem dX12_late_6 : decode cX12_late 6 = .ok (.iconst 0, 1) := by decide +kernel
theorem dX12_late_7 : decode cX12_late 7 = .ok (.istore_n 2, 1) := by decide +kernel
theorem dX12_late_8 : decode cX12_late 8 = .ok (.iload_n 2, 1) := by decide +kernel
theorem dX12_late_9 : decode cX12_late 9 = .ok (.aload_n 0, 1) := by decide +kernel
theorem dX12_late_10 : decode cX12_late 10 = .ok (.getfield 96, 3) := by decide +kernel
theorem dX12_late_13 : decode cX12_late 13 = .ok (.if_icmp .ge 27, 3) := by decide +kernel
theorem dX12_late_16 : decode cX12_late 16 = .ok (.iload_n 1, 1) := by decide +kernel
theorem dX12_late_17 : decode cX12_late 17 = .ok (.aload_n 0, 1) := by decide +kernel
theorem dX12_late_18 : decode cX12_late 18 = .ok (.iload_n 2, 1) := by decide +kernel
theorem dX12_late_19 : decode cX12_late 19 = .ok (.invokevirtual 261, 3) := by decide +kernel
theorem dX12_late_22 : decode cX12_late 22 = .ok (.ifCond .eq 9, 3) := by decide +kernel
theorem dX12_late_25 : decode cX12_late 25 = .ok (.iconst 1, 1) := by decide +kernel
theorem dX12_late_26 : decode cX12_late 26 = .ok (.iload_n 2, 1) := by decide +kernel
theorem dX12_late_27 : decode cX12_late 27 = .ok (.ishl, 1) := by decide +kernel
theorem dX12_late_28 : decode cX12_late 28 = .ok (.goto 4, 3) := by decide +kernel
theorem dX12_late_31 : decode cX12_late 31 = .ok (.iconst 0, 1) := by decide +kernel
theorem dX12_late_32 : decode cX12_late 32 = .ok (.ior, 1) := by decide +kernel
theorem dX12_late_33 : decode cX12_late 33 = .ok (.istore_n 1, 1) := by decide +kernel
theorem dX12_late_34 : decode cX12_late 34 = .ok (.iinc 2 1, 3) := by decide +kernel
theorem dX12_late_37 : decode cX12_late 37 = .ok (.goto (-29), 3) := by decide +kernel
theorem dX12_late_40 : decode cX12_late 40 = .ok (.iload_n 1, 1) := by decide +kernel
theorem dX12_late_41 : decode cX12_late 41 = .ok (.ireturn, 1) := by decide +kernel
theorem dX12_worth_0 : decode cX12_worth 0 = .ok (.aload_n 0, 1) := by decide +kernel
theorem dX12_worth_1 : decode cX12_worth 1 = .ok (.invokevirtual 271, 3) := by decide +kernel
theorem dX12_worth_4 : decode cX12_worth 4 = .ok (.aload_n 0, 1) := by decide +kernel
theorem dX12_worth_5 : decode cX12_worth 5 = .ok (.aload_n 0, 1) := by decide +kernel
theorem dX12_worth_6 : decode cX12_worth 6 = .ok (.getfield 96, 3) := by decide +kernel
theorem dX12_worth_9 : decode cX12_worth 9 = .ok (.invokevirtual 274, 3) := by decide +kernel
theorem dX12_worth_12 : decode cX12_worth 12 = .ok (.ireturn, 1) := by decide +kernel
theorem dX12_firstOrder_0 : decode cX12_firstOrder 0 = .ok (.iconst 0, 1) := by decide +kernel
theorem dX12_firstOrder_1 : decode cX12_firstOrder 1 = .ok (.istore_n 3, 1) := by decide +kernel
theorem dX12_firstOrder_2 : decode cX12_firstOrder 2 = .ok (.iconst 0, 1) := by decide +kernel
theorem dX12_firstOrder_3 : decode cX12_firstOrder 3 = .ok (.istore 4, 2) := by decide +kernel
theorem dX12_firstOrder_5 : decode cX12_firstOrder 5 = .ok (.iload 4, 2) := by decide +kernel
theorem dX12_firstOrder_7 : decode cX12_firstOrder 7 = .ok (.iload_n 1, 1) := by decide +kernel
theorem dX12_firstOrder_8 : decode cX12_firstOrder 8 = .ok (.if_icmp .ge 26, 3) := by decide +kernel
theorem dX12_firstOrder_11 : decode cX12_firstOrder 11 = .ok (.iload 4, 2) := by decide +kernel
theorem dX12_firstOrder_13 : decode cX12_firstOrder 13 = .ok (.iload_n 2, 1) := by decide +kernel
theorem dX12_firstOrder_14 : decode cX12_firstOrder 14 = .ok (.if_icmp .eq 14, 3) := by decide +kernel
theorem dX12_firstOrder_17 : decode cX12_firstOrder 17 = .ok (.aload_n 0, 1) := by decide +kernel
theorem dX12_firstOrder_18 : decode cX12_firstOrder 18 = .ok (.getfield 47, 3) := by decide +kernel
theorem dX12_firstOrder_21 : decode cX12_firstOrder 21 = .ok (.iload_n 3, 1) := by decide +kernel
theorem dX12_firstOrder_22 : decode cX12_firstOrder 22 = .ok (.iload 4, 2) := by decide +kernel
theorem dX12_firstOrder_24 : decode cX12_firstOrder 24 = .ok (.iastore, 1) := by decide +kernel
theorem dX12_firstOrder_25 : decode cX12_firstOrder 25 = .ok (.iinc 3 1, 3) := by decide +kernel
theorem dX12_firstOrder_28 : decode cX12_firstOrder 28 = .ok (.iinc 4 1, 3) := by decide +kernel
theorem dX12_firstOrder_31 : decode cX12_firstOrder 31 = .ok (.goto (-26), 3) := by decide +kernel
theorem dX12_firstOrder_34 : decode cX12_firstOrder 34 = .ok (.iload_n 3, 1) := by decide +kernel
theorem dX12_firstOrder_35 : decode cX12_firstOrder 35 = .ok (.ireturn, 1) := by decide +kernel
theorem dX12_nextOrder_0 : decode cX12_nextOrder 0 = .ok (.iload_n 1, 1) := by decide +kernel
theorem dX12_nextOrder_1 : decode cX12_nextOrder 1 = .ok (.iconst 2, 1) := by decide +kernel
theorem dX12_nextOrder_2 : decode cX12_nextOrder 2 = .ok (.isub, 1) := by decide +kernel
theorem dX12_nextOrder_3 : decode cX12_nextOrder 3 = .ok (.istore_n 2, 1) := by decide +kernel
theorem dX12_nextOrder_4 : decode cX12_nextOrder 4 = .ok (.iload_n 2, 1) := by decide +kernel
theorem dX12_nextOrder_5 : decode cX12_nextOrder 5 = .ok (.ifCond .lt 26, 3) := by decide +kernel
theorem dX12_nextOrder_8 : decode cX12_nextOrder 8 = .ok (.aload_n 0, 1) := by decide +kernel
theorem dX12_nextOrder_9 : decode cX12_nextOrder 9 = .ok (.getfield 47, 3) := by decide +kernel
theorem dX12_nextOrder_12 : decode cX12_nextOrder 12 = .ok (.iload_n 2, 1) := by decide +kernel
theorem dX12_nextOrder_13 : decode cX12_nextOrder 13 = .ok (.iaload, 1) := by decide +kernel
theorem dX12_nextOrder_14 : decode cX12_nextOrder 14 = .ok (.aload_n 0, 1) := by decide +kernel
theorem dX12_nextOrder_15 : decode cX12_nextOrder 15 = .ok (.getfield 47, 3) := by decide +kernel
theorem dX12_nextOrder_18 : decode cX12_nextOrder 18 = .ok (.iload_n 2, 1) := by decide +kernel
theorem dX12_nextOrder_19 : decode cX12_nextOrder 19 = .ok (.iconst 1, 1) := by decide +kernel
theorem dX12_nextOrder_20 : decode cX12_nextOrder 20 = .ok (.iadd, 1) := by decide +kernel
theorem dX12_nextOrder_21 : decode cX12_nextOrder 21 = .ok (.iaload, 1) := by decide +kernel
theorem dX12_nextOrder_22 : decode cX12_nextOrder 22 = .ok (.if_icmp .le 9, 3) := by decide +kernel
theorem dX12_nextOrder_25 : decode cX12_nextOrder 25 = .ok (.iinc 2 (-1), 3) := by decide +kernel
theorem dX12_nextOrder_28 : decode cX12_nextOrder 28 = .ok (.goto (-24), 3) := by decide +kernel
theorem dX12_nextOrder_31 : decode cX12_nextOrder 31 = .ok (.iload_n 2, 1) := by decide +kernel
theorem dX12_nextOrder_32 : decode cX12_nextOrder 32 = .ok (.ifCond .ge 5, 3) := by decide +kernel
theorem dX12_nextOrder_35 : decode cX12_nextOrder 35 = .ok (.iconst 0, 1) := by decide +kernel
theorem dX12_nextOrder_36 : decode cX12_nextOrder 36 = .ok (.ireturn, 1) := by decide +kernel
theorem dX12_nextOrder_37 : decode cX12_nextOrder 37 = .ok (.iload_n 1, 1) := by decide +kernel
theorem dX12_nextOrder_38 : decode cX12_nextOrder 38 = .ok (.iconst 1, 1) := by decide +kernel
theorem dX12_nextOrder_39 : decode cX12_nextOrder 39 = .ok (.isub, 1) := by decide +kernel
theorem dX12_nextOrder_40 : decode cX12_nextOrder 40 = .ok (.istore_n 3, 1) := by decide +kernel
theorem dX12_nextOrder_41 : decode cX12_nextOrder 41 = .ok (.aload_n 0, 1) := by decide +kernel
theorem dX12_nextOrder_42 : decode cX12_nextOrder 42 = .ok (.getfield 47, 3) := by decide +kernel
theorem dX12_nextOrder_45 : decode cX12_nextOrder 45 = .ok (.iload_n 3, 1) := by decide +kernel
theorem dX12_nextOrder_46 : decode cX12_nextOrder 46 = .ok (.iaload, 1) := by decide +kernel
theorem dX12_nextOrder_47 : decode cX12_nextOrder 47 = .ok (.aload_n 0, 1) := by decide +kernel
theorem dX12_nextOrder_48 : decode cX12_nextOrder 48 = .ok (.getfield 47, 3) := by decide +kernel
theorem dX12_nextOrder_51 : decode cX12_nextOrder 51 = .ok (.iload_n 2, 1) := by decide +kernel
theorem dX12_nextOrder_52 : decode cX12_nextOrder 52 = .ok (.iaload, 1) := by decide +kernel
theorem dX12_nextOrder_53 : decode cX12_nextOrder 53 = .ok (.if_icmp .ge 9, 3) := by decide +kernel
theorem dX12_nextOrder_56 : decode cX12_nextOrder 56 = .ok (.iinc 3 (-1), 3) := by decide +kernel
theorem dX12_nextOrder_59 : decode cX12_nextOrder 59 = .ok (.goto (-18), 3) := by decide +kernel
theorem dX12_nextOrder_62 : decode cX12_nextOrder 62 = .ok (.aload_n 0, 1) := by decide +kernel
theorem dX12_nextOrder_63 : decode cX12_nextOrder 63 = .ok (.iload_n 2, 1) := by decide +kernel
theorem dX12_nextOrder_64 : decode cX12_nextOrder 64 = .ok (.iload_n 3, 1) := by decide +kernel
theorem dX12_nextOrder_65 : decode cX12_nextOrder 65 = .ok (.invokevirtual 277, 3) := by decide +kernel
theorem dX12_nextOrder_68 : decode cX12_nextOrder 68 = .ok (.iload_n 1, 1) := by decide +kernel
theorem dX12_nextOrder_69 : decode cX12_nextOrder 69 = .ok (.iconst 1, 1) := by decide +kernel
theorem dX12_nextOrder_70 : decode cX12_nextOrder 70 = .ok (.isub, 1) := by decide +kernel
theorem dX12_nextOrder_71 : decode cX12_nextOrder 71 = .ok (.istore 4, 2) := by decide +kernel
theorem dX12_nextOrder_73 : decode cX12_nextOrder 73 = .ok (.iload 4, 2) := by decide +kernel
theorem dX12_nextOrder_75 : decode cX12_nextOrder 75 = .ok (.iload_n 2, 1) := by decide +kernel
theorem dX12_nextOrder_76 : decode cX12_nextOrder 76 = .ok (.iconst 1, 1) := by decide +kernel
theorem dX12_nextOrder_77 : decode cX12_nextOrder 77 = .ok (.iadd, 1) := by decide +kernel
theorem dX12_nextOrder_78 : decode cX12_nextOrder 78 = .ok (.if_icmp .le 19, 3) := by decide +kernel
theorem dX12_nextOrder_81 : decode cX12_nextOrder 81 = .ok (.iinc 2 1, 3) := by decide +kernel
theorem dX12_nextOrder_84 : decode cX12_nextOrder 84 = .ok (.aload_n 0, 1) := by decide +kernel
theorem dX12_nextOrder_85 : decode cX12_nextOrder 85 = .ok (.iload_n 2, 1) := by decide +kernel
theorem dX12_nextOrder_86 : decode cX12_nextOrder 86 = .ok (.iload 4, 2) := by decide +kernel
theorem dX12_nextOrder_88 : decode cX12_nextOrder 88 = .ok (.invokevirtual 277, 3) := by decide +kernel
theorem dX12_nextOrder_91 : decode cX12_nextOrder 91 = .ok (.iinc 4 (-1), 3) := by decide +kernel
theorem dX12_nextOrder_94 : decode cX12_nextOrder 94 = .ok (.goto (-21), 3) := by decide +kernel
theorem dX12_nextOrder_97 : decode cX12_nextOrder 97 = .ok (.iconst 1, 1) := by decide +kernel
theorem dX12_nextOrder_98 : decode cX12_nextOrder 98 = .ok (.ireturn, 1) := by decide +kernel
theorem dX12_swaps_0 : decode cX12_swaps 0 = .ok (.aload_n 0, 1) := by decide +kernel
theorem dX12_swaps_1 : decode cX12_swaps 1 = .ok (.getfield 47, 3) := by decide +kernel
theorem dX12_swaps_4 : decode cX12_swaps 4 = .ok (.iload_n 1, 1) := by decide +kernel
theorem dX12_swaps_5 : decode cX12_swaps 5 = .ok (.iaload, 1) := by decide +kernel
theorem dX12_swaps_6 : decode cX12_swaps 6 = .ok (.istore_n 3, 1) := by decide +kernel
theorem dX12_swaps_7 : decode cX12_swaps 7 = .ok (.aload_n 0, 1) := by decide +kernel
theorem dX12_swaps_8 : decode cX12_swaps 8 = .ok (.getfield 47, 3) := by decide +kernel
theorem dX12_swaps_11 : decode cX12_swaps 11 = .ok (.iload_n 1, 1) := by decide +kernel
theorem dX12_swaps_12 : decode cX12_swaps 12 = .ok (.aload_n 0, 1) := by decide +kernel
theorem dX12_swaps_13 : decode cX12_swaps 13 = .ok (.getfield 47, 3) := by decide +kernel
theorem dX12_swaps_16 : decode cX12_swaps 16 = .ok (.iload_n 2, 1) := by decide +kernel
theorem dX12_swaps_17 : decode cX12_swaps 17 = .ok (.iaload, 1) := by decide +kernel
theorem dX12_swaps_18 : decode cX12_swaps 18 = .ok (.iastore, 1) := by decide +kernel
theorem dX12_swaps_19 : decode cX12_swaps 19 = .ok (.aload_n 0, 1) := by decide +kernel
theorem dX12_swaps_20 : decode cX12_swaps 20 = .ok (.getfield 47, 3) := by decide +kernel
theorem dX12_swaps_23 : decode cX12_swaps 23 = .ok (.iload_n 2, 1) := by decide +kernel
theorem dX12_swaps_24 : decode cX12_swaps 24 = .ok (.iload_n 3, 1) := by decide +kernel
theorem dX12_swaps_25 : decode cX12_swaps 25 = .ok (.iastore, 1) := by decide +kernel
theorem dX12_swaps_26 : decode cX12_swaps 26 = .ok (.return_, 1) := by decide +kernel
theorem dX12_keepsOrder_0 : decode cX12_keepsOrder 0 = .ok (.iconst 0, 1) := by decide +kernel
theorem dX12_keepsOrder_1 : decode cX12_keepsOrder 1 = .ok (.istore_n 2, 1) := by decide +kernel
theorem dX12_keepsOrder_2 : decode cX12_keepsOrder 2 = .ok (.iload_n 2, 1) := by decide +kernel
theorem dX12_keepsOrder_3 : decode cX12_keepsOrder 3 = .ok (.iload_n 1, 1) := by decide +kernel
theorem dX12_keepsOrder_4 : decode cX12_keepsOrder 4 = .ok (.if_icmp .ge 21, 3) := by decide +kernel
theorem dX12_keepsOrder_7 : decode cX12_keepsOrder 7 = .ok (.aload_n 0, 1) := by decide +kernel
theorem dX12_keepsOrder_8 : decode cX12_keepsOrder 8 = .ok (.getfield 56, 3) := by decide +kernel
theorem dX12_keepsOrder_11 : decode cX12_keepsOrder 11 = .ok (.iload_n 2, 1) := by decide +kernel
theorem dX12_keepsOrder_12 : decode cX12_keepsOrder 12 = .ok (.aload_n 0, 1) := by decide +kernel
theorem dX12_keepsOrder_13 : decode cX12_keepsOrder 13 = .ok (.getfield 47, 3) := by decide +kernel
theorem dX12_keepsOrder_16 : decode cX12_keepsOrder 16 = .ok (.iload_n 2, 1) := by decide +kernel
theorem dX12_keepsOrder_17 : decode cX12_keepsOrder 17 = .ok (.iaload, 1) := by decide +kernel
theorem dX12_keepsOrder_18 : decode cX12_keepsOrder 18 = .ok (.iastore, 1) := by decide +kernel
theorem dX12_keepsOrder_19 : decode cX12_keepsOrder 19 = .ok (.iinc 2 1, 3) := by decide +kernel
theorem dX12_keepsOrder_22 : decode cX12_keepsOrder 22 = .ok (.goto (-20), 3) := by decide +kernel
theorem dX12_keepsOrder_25 : decode cX12_keepsOrder 25 = .ok (.return_, 1) := by decide +kernel
theorem dX12_digitsOf_0 : decode cX12_digitsOf 0 = .ok (.iconst 0, 1) := by decide +kernel
theorem dX12_digitsOf_1 : decode cX12_digitsOf 1 = .ok (.istore_n 2, 1) := by decide +kernel
theorem dX12_digitsOf_2 : decode cX12_digitsOf 2 = .ok (.iconst 0, 1) := by decide +kernel
theorem dX12_digitsOf_3 : decode cX12_digitsOf 3 = .ok (.istore_n 3, 1) := by decide +kernel
theorem dX12_digitsOf_4 : decode cX12_digitsOf 4 = .ok (.iload_n 3, 1) := by decide +kernel
theorem dX12_digitsOf_5 : decode cX12_digitsOf 5 = .ok (.iload_n 1, 1) := by decide +kernel
theorem dX12_digitsOf_6 : decode cX12_digitsOf 6 = .ok (.if_icmp .ge 22, 3) := by decide +kernel
theorem dX12_digitsOf_9 : decode cX12_digitsOf 9 = .ok (.iload_n 2, 1) := by decide +kernel
theorem dX12_digitsOf_10 : decode cX12_digitsOf 10 = .ok (.aload_n 0, 1) := by decide +kernel
theorem dX12_digitsOf_11 : decode cX12_digitsOf 11 = .ok (.getfield 56, 3) := by decide +kernel
theorem dX12_digitsOf_14 : decode cX12_digitsOf 14 = .ok (.iload_n 3, 1) := by decide +kernel
theorem dX12_digitsOf_15 : decode cX12_digitsOf 15 = .ok (.iaload, 1) := by decide +kernel
theorem dX12_digitsOf_16 : decode cX12_digitsOf 16 = .ok (.iconst 3, 1) := by decide +kernel
theorem dX12_digitsOf_17 : decode cX12_digitsOf 17 = .ok (.iload_n 3, 1) := by decide +kernel
theorem dX12_digitsOf_18 : decode cX12_digitsOf 18 = .ok (.imul, 1) := by decide +kernel
theorem dX12_digitsOf_19 : decode cX12_digitsOf 19 = .ok (.ishl, 1) := by decide +kernel
theorem dX12_digitsOf_20 : decode cX12_digitsOf 20 = .ok (.ior, 1) := by decide +kernel
theorem dX12_digitsOf_21 : decode cX12_digitsOf 21 = .ok (.istore_n 2, 1) := by decide +kernel
theorem dX12_digitsOf_22 : decode cX12_digitsOf 22 = .ok (.iinc 3 1, 3) := by decide +kernel
theorem dX12_digitsOf_25 : decode cX12_digitsOf 25 = .ok (.goto (-21), 3) := by decide +kernel
theorem dX12_digitsOf_28 : decode cX12_digitsOf 28 = .ok (.iload_n 2, 1) := by decide +kernel
theorem dX12_digitsOf_29 : decode cX12_digitsOf 29 = .ok (.ireturn, 1) := by decide +kernel
theorem dX12_mostOfAll_0 : decode cX12_mostOfAll 0 = .ok (.aload_n 0, 1) := by decide +kernel
theorem dX12_mostOfAll_1 : decode cX12_mostOfAll 1 = .ok (.iload_n 1, 1) := by decide +kernel
theorem dX12_mostOfAll_2 : decode cX12_mostOfAll 2 = .ok (.iload_n 2, 1) := by decide +kernel
theorem dX12_mostOfAll_3 : decode cX12_mostOfAll 3 = .ok (.invokevirtual 281, 3) := by decide +kernel
theorem dX12_mostOfAll_6 : decode cX12_mostOfAll 6 = .ok (.istore_n 3, 1) := by decide +kernel
theorem dX12_mostOfAll_7 : decode cX12_mostOfAll 7 = .ok (.ldc_w 284, 3) := by decide +kernel
theorem dX12_mostOfAll_10 : decode cX12_mostOfAll 10 = .ok (.istore 4, 2) := by decide +kernel
theorem dX12_mostOfAll_12 : decode cX12_mostOfAll 12 = .ok (.iconst 1, 1) := by decide +kernel
theorem dX12_mostOfAll_13 : decode cX12_mostOfAll 13 = .ok (.istore 5, 2) := by decide +kernel
theorem dX12_mostOfAll_15 : decode cX12_mostOfAll 15 = .ok (.iload 5, 2) := by decide +kernel
theorem dX12_mostOfAll_17 : decode cX12_mostOfAll 17 = .ok (.ifCond .eq 44, 3) := by decide +kernel
theorem dX12_mostOfAll_20 : decode cX12_mostOfAll 20 = .ok (.aload_n 0, 1) := by decide +kernel
theorem dX12_mostOfAll_21 : decode cX12_mostOfAll 21 = .ok (.iload_n 3, 1) := by decide +kernel
theorem dX12_mostOfAll_22 : decode cX12_mostOfAll 22 = .ok (.iload_n 1, 1) := by decide +kernel
theorem dX12_mostOfAll_23 : decode cX12_mostOfAll 23 = .ok (.iconst 0, 1) := by decide +kernel
theorem dX12_mostOfAll_24 : decode cX12_mostOfAll 24 = .ok (.iconst 0, 1) := by decide +kernel
theorem dX12_mostOfAll_25 : decode cX12_mostOfAll 25 = .ok (.invokevirtual 257, 3) := by decide +kernel
theorem dX12_mostOfAll_28 : decode cX12_mostOfAll 28 = .ok (.aload_n 0, 1) := by decide +kernel
theorem dX12_mostOfAll_29 : decode cX12_mostOfAll 29 = .ok (.iload_n 3, 1) := by decide +kernel
theorem dX12_mostOfAll_30 : decode cX12_mostOfAll 30 = .ok (.invokevirtual 274, 3) := by decide +kernel
theorem dX12_mostOfAll_33 : decode cX12_mostOfAll 33 = .ok (.istore 6, 2) := by decide +kernel
theorem dX12_mostOfAll_35 : decode cX12_mostOfAll 35 = .ok (.iload 6, 2) := by decide +kernel
theorem dX12_mostOfAll_37 : decode cX12_mostOfAll 37 = .ok (.iload 4, 2) := by decide +kernel
theorem dX12_mostOfAll_39 : decode cX12_mostOfAll 39 = .ok (.if_icmp .le 12, 3) := by decide +kernel
theorem dX12_mostOfAll_42 : decode cX12_mostOfAll 42 = .ok (.iload 6, 2) := by decide +kernel
theorem dX12_mostOfAll_44 : decode cX12_mostOfAll 44 = .ok (.istore 4, 2) := by decide +kernel
theorem dX12_mostOfAll_46 : decode cX12_mostOfAll 46 = .ok (.aload_n 0, 1) := by decide +kernel
theorem dX12_mostOfAll_47 : decode cX12_mostOfAll 47 = .ok (.iload_n 3, 1) := by decide +kernel
theorem dX12_mostOfAll_48 : decode cX12_mostOfAll 48 = .ok (.invokevirtual 285, 3) := by decide +kernel
theorem dX12_mostOfAll_51 : decode cX12_mostOfAll 51 = .ok (.aload_n 0, 1) := by decide +kernel
theorem dX12_mostOfAll_52 : decode cX12_mostOfAll 52 = .ok (.iload_n 3, 1) := by decide +kernel
theorem dX12_mostOfAll_53 : decode cX12_mostOfAll 53 = .ok (.invokevirtual 288, 3) := by decide +kernel
theorem dX12_mostOfAll_56 : decode cX12_mostOfAll 56 = .ok (.istore 5, 2) := by decide +kernel
theorem dX12_mostOfAll_58 : decode cX12_mostOfAll 58 = .ok (.goto (-43), 3) := by decide +kernel
theorem dX12_mostOfAll_61 : decode cX12_mostOfAll 61 = .ok (.iload 4, 2) := by decide +kernel
theorem dX12_mostOfAll_63 : decode cX12_mostOfAll 63 = .ok (.ireturn, 1) := by decide +kernel
theorem dX12_worksMany_0 : decode cX12_worksMany 0 = .ok (.aload_n 0, 1) := by decide +kernel
theorem dX12_worksMany_1 : decode cX12_worksMany 1 = .ok (.iload_n 2, 1) := by decide +kernel
theorem dX12_worksMany_2 : decode cX12_worksMany 2 = .ok (.iload_n 3, 1) := by decide +kernel
theorem dX12_worksMany_3 : decode cX12_worksMany 3 = .ok (.invokevirtual 291, 3) := by decide +kernel
theorem dX12_worksMany_6 : decode cX12_worksMany 6 = .ok (.aload_n 0, 1) := by decide +kernel
theorem dX12_worksMany_7 : decode cX12_worksMany 7 = .ok (.getfield 217, 3) := by decide +kernel
theorem dX12_worksMany_10 : decode cX12_worksMany 10 = .ok (.istore 5, 2) := by decide +kernel
theorem dX12_worksMany_12 : decode cX12_worksMany 12 = .ok (.aload_n 0, 1) := by decide +kernel
theorem dX12_worksMany_13 : decode cX12_worksMany 13 = .ok (.iload 5, 2) := by decide +kernel
theorem dX12_worksMany_15 : decode cX12_worksMany 15 = .ok (.invokevirtual 248, 3) := by decide +kernel
theorem dX12_worksMany_18 : decode cX12_worksMany 18 = .ok (.iload 4, 2) := by decide +kernel
theorem dX12_worksMany_20 : decode cX12_worksMany 20 = .ok (.ifCond .le 7, 3) := by decide +kernel
theorem dX12_worksMany_23 : decode cX12_worksMany 23 = .ok (.iconst 1, 1) := by decide +kernel
theorem dX12_worksMany_24 : decode cX12_worksMany 24 = .ok (.goto 4, 3) := by decide +kernel
theorem dX12_worksMany_27 : decode cX12_worksMany 27 = .ok (.iconst 0, 1) := by decide +kernel
theorem dX12_worksMany_28 : decode cX12_worksMany 28 = .ok (.iadd, 1) := by decide +kernel
theorem dX12_worksMany_29 : decode cX12_worksMany 29 = .ok (.istore 6, 2) := by decide +kernel
theorem dX12_worksMany_31 : decode cX12_worksMany 31 = .ok (.iconst 0, 1) := by decide +kernel
theorem dX12_worksMany_32 : decode cX12_worksMany 32 = .ok (.istore 7, 2) := by decide +kernel
theorem dX12_worksMany_34 : decode cX12_worksMany 34 = .ok (.iload 7, 2) := by decide +kernel
theorem dX12_worksMany_36 : decode cX12_worksMany 36 = .ok (.iload_n 1, 1) := by decide +kernel
theorem dX12_worksMany_37 : decode cX12_worksMany 37 = .ok (.if_icmp .ge 87, 3) := by decide +kernel
theorem dX12_worksMany_40 : decode cX12_worksMany 40 = .ok (.iconst 0, 1) := by decide +kernel
theorem dX12_worksMany_41 : decode cX12_worksMany 41 = .ok (.istore 8, 2) := by decide +kernel
theorem dX12_worksMany_43 : decode cX12_worksMany 43 = .ok (.iload 8, 2) := by decide +kernel
theorem dX12_worksMany_45 : decode cX12_worksMany 45 = .ok (.ifCond .ne 59, 3) := by decide +kernel
theorem dX12_worksMany_48 : decode cX12_worksMany 48 = .ok (.iload 6, 2) := by decide +kernel
theorem dX12_worksMany_50 : decode cX12_worksMany 50 = .ok (.ifCond .ne 35, 3) := by decide +kernel
theorem dX12_worksMany_53 : decode cX12_worksMany 53 = .ok (.iinc 5 1, 3) := by decide +kernel
theorem dX12_worksMany_56 : decode cX12_worksMany 56 = .ok (.aload_n 0, 1) := by decide +kernel
theorem dX12_worksMany_57 : decode cX12_worksMany 57 = .ok (.iload 5, 2) := by decide +kernel
theorem dX12_worksMany_59 : decode cX12_worksMany 59 = .ok (.invokevirtual 248, 3) := by decide +kernel
theorem dX12_worksMany_62 : decode cX12_worksMany 62 = .ok (.iload 5, 2) := by decide +kernel
theorem dX12_worksMany_64 : decode cX12_worksMany 64 = .ok (.aload_n 0, 1) := by decide +kernel
theorem dX12_worksMany_65 : decode cX12_worksMany 65 = .ok (.getfield 217, 3) := by decide +kernel
theorem dX12_worksMany_68 : decode cX12_worksMany 68 = .ok (.isub, 1) := by decide +kernel
theorem dX12_worksMany_69 : decode cX12_worksMany 69 = .ok (.iload 4, 2) := by decide +kernel
theorem dX12_worksMany_71 : decode cX12_worksMany 71 = .ok (.if_icmp .ge 7, 3) := by decide +kernel
theorem dX12_worksMany_74 : decode cX12_worksMany 74 = .ok (.iconst 1, 1) := by decide +kernel
theorem dX12_worksMany_75 : decode cX12_worksMany 75 = .ok (.goto 4, 3) := by decide +kernel
theorem dX12_worksMany_78 : decode cX12_worksMany 78 = .ok (.iconst 0, 1) := by decide +kernel
theorem dX12_worksMany_79 : decode cX12_worksMany 79 = .ok (.iadd, 1) := by decide +kernel
theorem dX12_worksMany_80 : decode cX12_worksMany 80 = .ok (.istore 6, 2) := by decide +kernel
theorem dX12_worksMany_82 : decode cX12_worksMany 82 = .ok (.goto (-34), 3) := by decide +kernel
theorem dX12_worksMany_85 : decode cX12_worksMany 85 = .ok (.iinc 6 (-1), 3) := by decide +kernel
theorem dX12_worksMany_88 : decode cX12_worksMany 88 = .ok (.aload_n 0, 1) := by decide +kernel
theorem dX12_worksMany_89 : decode cX12_worksMany 89 = .ok (.aload_n 0, 1) := by decide +kernel
theorem dX12_worksMany_90 : decode cX12_worksMany 90 = .ok (.getfield 47, 3) := by decide +kernel
theorem dX12_worksMany_93 : decode cX12_worksMany 93 = .ok (.iload 7, 2) := by decide +kernel
theorem dX12_worksMany_95 : decode cX12_worksMany 95 = .ok (.iaload, 1) := by decide +kernel
theorem dX12_worksMany_96 : decode cX12_worksMany 96 = .ok (.invokevirtual 294, 3) := by decide +kernel
theorem dX12_worksMany_99 : decode cX12_worksMany 99 = .ok (.istore 8, 2) := by decide +kernel
theorem dX12_worksMany_101 : decode cX12_worksMany 101 = .ok (.goto (-58), 3) := by decide +kernel
theorem dX12_worksMany_104 : decode cX12_worksMany 104 = .ok (.aload_n 0, 1) := by decide +kernel
theorem dX12_worksMany_105 : decode cX12_worksMany 105 = .ok (.getfield 53, 3) := by decide +kernel
theorem dX12_worksMany_108 : decode cX12_worksMany 108 = .ok (.aload_n 0, 1) := by decide +kernel
theorem dX12_worksMany_109 : decode cX12_worksMany 109 = .ok (.getfield 47, 3) := by decide +kernel
theorem dX12_worksMany_112 : decode cX12_worksMany 112 = .ok (.iload 7, 2) := by decide +kernel
theorem dX12_worksMany_114 : decode cX12_worksMany 114 = .ok (.iaload, 1) := by decide +kernel
theorem dX12_worksMany_115 : decode cX12_worksMany 115 = .ok (.iload 5, 2) := by decide +kernel
theorem dX12_worksMany_117 : decode cX12_worksMany 117 = .ok (.iastore, 1) := by decide +kernel
theorem dX12_worksMany_118 : decode cX12_worksMany 118 = .ok (.iinc 7 1, 3) := by decide +kernel
theorem dX12_worksMany_121 : decode cX12_worksMany 121 = .ok (.goto (-87), 3) := by decide +kernel
theorem dX12_worksMany_124 : decode cX12_worksMany 124 = .ok (.return_, 1) := by decide +kernel
theorem dX12_best_0 : decode cX12_best 0 = .ok (.iload_n 1, 1) := by decide +kernel
theorem dX12_best_1 : decode cX12_best 1 = .ok (.invokestatic 103, 3) := by decide +kernel
theorem dX12_best_4 : decode cX12_best 4 = .ok (.ifCond .ne 7, 3) := by decide +kernel
theorem dX12_best_7 : decode cX12_best 7 = .ok (.ldc_w 284, 3) := by decide +kernel
theorem dX12_best_10 : decode cX12_best 10 = .ok (.ireturn, 1) := by decide +kernel
theorem dX12_best_11 : decode cX12_best 11 = .ok (.aload_n 0, 1) := by decide +kernel
theorem dX12_best_12 : decode cX12_best 12 = .ok (.aload_n 0, 1) := by decide +kernel
theorem dX12_best_13 : decode cX12_best 13 = .ok (.getfield 96, 3) := by decide +kernel
theorem dX12_best_16 : decode cX12_best 16 = .ok (.iconst (-1), 1) := by decide +kernel
theorem dX12_best_17 : decode cX12_best 17 = .ok (.invokevirtual 297, 3) := by decide +kernel
theorem dX12_best_20 : decode cX12_best 20 = .ok (.istore_n 2, 1) := by decide +kernel
theorem dX12_best_21 : decode cX12_best 21 = .ok (.iload_n 1, 1) := by decide +kernel
theorem dX12_best_22 : decode cX12_best 22 = .ok (.ifCond .ne 7, 3) := by decide +kernel
theorem dX12_best_25 : decode cX12_best 25 = .ok (.iload_n 2, 1) := by decide +kernel
theorem dX12_best_26 : decode cX12_best 26 = .ok (.goto 11, 3) := by decide +kernel
theorem dX12_best_29 : decode cX12_best 29 = .ok (.aload_n 0, 1) := by decide +kernel
theorem dX12_best_30 : decode cX12_best 30 = .ok (.aload_n 0, 1) := by decide +kernel
theorem dX12_best_31 : decode cX12_best 31 = .ok (.getfield 96, 3) := by decide +kernel
theorem dX12_best_34 : decode cX12_best 34 = .ok (.invokevirtual 300, 3) := by decide +kernel
theorem dX12_best_37 : decode cX12_best 37 = .ok (.ireturn, 1) := by decide +kernel
theorem dX12_fewest_0 : decode cX12_fewest 0 = .ok (.aload_n 0, 1) := by decide +kernel
theorem dX12_fewest_1 : decode cX12_fewest 1 = .ok (.aload_n 0, 1) := by decide +kernel
theorem dX12_fewest_2 : decode cX12_fewest 2 = .ok (.getfield 96, 3) := by decide +kernel
theorem dX12_fewest_5 : decode cX12_fewest 5 = .ok (.iconst (-1), 1) := by decide +kernel
theorem dX12_fewest_6 : decode cX12_fewest 6 = .ok (.invokevirtual 281, 3) := by decide +kernel
theorem dX12_fewest_9 : decode cX12_fewest 9 = .ok (.istore_n 1, 1) := by decide +kernel
theorem dX12_fewest_10 : decode cX12_fewest 10 = .ok (.bipush 9, 2) := by decide +kernel
theorem dX12_fewest_12 : decode cX12_fewest 12 = .ok (.istore_n 2, 1) := by decide +kernel
theorem dX12_fewest_13 : decode cX12_fewest 13 = .ok (.iconst 1, 1) := by decide +kernel
theorem dX12_fewest_14 : decode cX12_fewest 14 = .ok (.istore_n 3, 1) := by decide +kernel
theorem dX12_fewest_15 : decode cX12_fewest 15 = .ok (.iload_n 3, 1) := by decide +kernel
theorem dX12_fewest_16 : decode cX12_fewest 16 = .ok (.ifCond .eq 39, 3) := by decide +kernel
theorem dX12_fewest_19 : decode cX12_fewest 19 = .ok (.aload_n 0, 1) := by decide +kernel
theorem dX12_fewest_20 : decode cX12_fewest 20 = .ok (.iload_n 1, 1) := by decide +kernel
theorem dX12_fewest_21 : decode cX12_fewest 21 = .ok (.iconst 0, 1) := by decide +kernel
theorem dX12_fewest_22 : decode cX12_fewest 22 = .ok (.iconst 0, 1) := by decide +kernel
theorem dX12_fewest_23 : decode cX12_fewest 23 = .ok (.invokevirtual 267, 3) := by decide +kernel
theorem dX12_fewest_26 : decode cX12_fewest 26 = .ok (.aload_n 0, 1) := by decide +kernel
theorem dX12_fewest_27 : decode cX12_fewest 27 = .ok (.iload_n 1, 1) := by decide +kernel
theorem dX12_fewest_28 : decode cX12_fewest 28 = .ok (.invokevirtual 303, 3) := by decide +kernel
theorem dX12_fewest_31 : decode cX12_fewest 31 = .ok (.istore 4, 2) := by decide +kernel
theorem dX12_fewest_33 : decode cX12_fewest 33 = .ok (.iload 4, 2) := by decide +kernel
theorem dX12_fewest_35 : decode cX12_fewest 35 = .ok (.iload_n 2, 1) := by decide +kernel
theorem dX12_fewest_36 : decode cX12_fewest 36 = .ok (.if_icmp .ge 8, 3) := by decide +kernel
theorem dX12_fewest_39 : decode cX12_fewest 39 = .ok (.iload 4, 2) := by decide +kernel
theorem dX12_fewest_41 : decode cX12_fewest 41 = .ok (.goto 4, 3) := by decide +kernel
theorem dX12_fewest_44 : decode cX12_fewest 44 = .ok (.iload_n 2, 1) := by decide +kernel
theorem dX12_fewest_45 : decode cX12_fewest 45 = .ok (.istore_n 2, 1) := by decide +kernel
theorem dX12_fewest_46 : decode cX12_fewest 46 = .ok (.aload_n 0, 1) := by decide +kernel
theorem dX12_fewest_47 : decode cX12_fewest 47 = .ok (.iload_n 1, 1) := by decide +kernel
theorem dX12_fewest_48 : decode cX12_fewest 48 = .ok (.invokevirtual 288, 3) := by decide +kernel
theorem dX12_fewest_51 : decode cX12_fewest 51 = .ok (.istore_n 3, 1) := by decide +kernel
theorem dX12_fewest_52 : decode cX12_fewest 52 = .ok (.goto (-37), 3) := by decide +kernel
theorem dX12_fewest_55 : decode cX12_fewest 55 = .ok (.iload_n 2, 1) := by decide +kernel
theorem dX12_fewest_56 : decode cX12_fewest 56 = .ok (.ireturn, 1) := by decide +kernel
theorem dX12_soonest_0 : decode cX12_soonest 0 = .ok (.iload_n 1, 1) := by decide +kernel
theorem dX12_soonest_1 : decode cX12_soonest 1 = .ok (.iload_n 2, 1) := by decide +kernel
theorem dX12_soonest_2 : decode cX12_soonest 2 = .ok (.iload_n 3, 1) := by decide +kernel
theorem dX12_soonest_3 : decode cX12_soonest 3 = .ok (.invokestatic 232, 3) := by decide +kernel
theorem dX12_soonest_6 : decode cX12_soonest 6 = .ok (.ifCond .ne 5, 3) := by decide +kernel
theorem dX12_soonest_9 : decode cX12_soonest 9 = .ok (.iconst (-1), 1) := by decide +kernel
theorem dX12_soonest_10 : decode cX12_soonest 10 = .ok (.ireturn, 1) := by decide +kernel
theorem dX12_soonest_11 : decode cX12_soonest 11 = .ok (.aload_n 0, 1) := by decide +kernel
theorem dX12_soonest_12 : decode cX12_soonest 12 = .ok (.getfield 96, 3) := by decide +kernel
theorem dX12_soonest_15 : decode cX12_soonest 15 = .ok (.bipush 6, 2) := by decide +kernel
theorem dX12_soonest_17 : decode cX12_soonest 17 = .ok (.if_icmp .ne 6, 3) := by decide +kernel
theorem dX12_soonest_20 : decode cX12_soonest 20 = .ok (.bipush (-2), 2) := by decide +kernel
theorem dX12_soonest_22 : decode cX12_soonest 22 = .ok (.ireturn, 1) := by decide +kernel
theorem dX12_soonest_23 : decode cX12_soonest 23 = .ok (.aload_n 0, 1) := by decide +kernel
theorem dX12_soonest_24 : decode cX12_soonest 24 = .ok (.aload_n 0, 1) := by decide +kernel
theorem dX12_soonest_25 : decode cX12_soonest 25 = .ok (.getfield 96, 3) := by decide +kernel
theorem dX12_soonest_28 : decode cX12_soonest 28 = .ok (.iload_n 1, 1) := by decide +kernel
theorem dX12_soonest_29 : decode cX12_soonest 29 = .ok (.iload_n 2, 1) := by decide +kernel
theorem dX12_soonest_30 : decode cX12_soonest 30 = .ok (.iload_n 3, 1) := by decide +kernel
theorem dX12_soonest_31 : decode cX12_soonest 31 = .ok (.bipush 60, 2) := by decide +kernel
theorem dX12_soonest_33 : decode cX12_soonest 33 = .ok (.iconst 0, 1) := by decide +kernel
theorem dX12_soonest_34 : decode cX12_soonest 34 = .ok (.invokevirtual 213, 3) := by decide +kernel
theorem dX12_soonest_37 : decode cX12_soonest 37 = .ok (.aload_n 0, 1) := by decide +kernel
theorem dX12_soonest_38 : decode cX12_soonest 38 = .ok (.aload_n 0, 1) := by decide +kernel
theorem dX12_soonest_39 : decode cX12_soonest 39 = .ok (.getfield 96, 3) := by decide +kernel
theorem dX12_soonest_42 : decode cX12_soonest 42 = .ok (.iconst 1, 1) := by decide +kernel
theorem dX12_soonest_43 : decode cX12_soonest 43 = .ok (.iadd, 1) := by decide +kernel
theorem dX12_soonest_44 : decode cX12_soonest 44 = .ok (.iconst (-1), 1) := by decide +kernel
theorem dX12_soonest_45 : decode cX12_soonest 45 = .ok (.invokevirtual 281, 3) := by decide +kernel
theorem dX12_soonest_48 : decode cX12_soonest 48 = .ok (.istore 4, 2) := by decide +kernel
theorem dX12_soonest_50 : decode cX12_soonest 50 = .ok (.bipush (-3), 2) := by decide +kernel
theorem dX12_soonest_52 : decode cX12_soonest 52 = .ok (.istore 5, 2) := by decide +kernel
theorem dX12_soonest_54 : decode cX12_soonest 54 = .ok (.iconst 1, 1) := by decide +kernel
theorem dX12_soonest_55 : decode cX12_soonest 55 = .ok (.istore 6, 2) := by decide +kernel
theorem dX12_soonest_57 : decode cX12_soonest 57 = .ok (.iload 6, 2) := by decide +kernel
theorem dX12_soonest_59 : decode cX12_soonest 59 = .ok (.ifCond .eq 63, 3) := by decide +kernel
theorem dX12_soonest_62 : decode cX12_soonest 62 = .ok (.aload_n 0, 1) := by decide +kernel
theorem dX12_soonest_63 : decode cX12_soonest 63 = .ok (.iload 4, 2) := by decide +kernel
theorem dX12_soonest_65 : decode cX12_soonest 65 = .ok (.iconst 0, 1) := by decide +kernel
theorem dX12_soonest_66 : decode cX12_soonest 66 = .ok (.iconst 0, 1) := by decide +kernel
theorem dX12_soonest_67 : decode cX12_soonest 67 = .ok (.invokevirtual 267, 3) := by decide +kernel
theorem dX12_soonest_70 : decode cX12_soonest 70 = .ok (.aload_n 0, 1) := by decide +kernel
theorem dX12_soonest_71 : decode cX12_soonest 71 = .ok (.getfield 53, 3) := by decide +kernel
theorem dX12_soonest_74 : decode cX12_soonest 74 = .ok (.aload_n 0, 1) := by decide +kernel
theorem dX12_soonest_75 : decode cX12_soonest 75 = .ok (.getfield 96, 3) := by decide +kernel
theorem dX12_soonest_78 : decode cX12_soonest 78 = .ok (.iaload, 1) := by decide +kernel
theorem dX12_soonest_79 : decode cX12_soonest 79 = .ok (.istore 7, 2) := by decide +kernel
theorem dX12_soonest_81 : decode cX12_soonest 81 = .ok (.aload_n 0, 1) := by decide +kernel
theorem dX12_soonest_82 : decode cX12_soonest 82 = .ok (.iload 4, 2) := by decide +kernel
theorem dX12_soonest_84 : decode cX12_soonest 84 = .ok (.invokevirtual 303, 3) := by decide +kernel
theorem dX12_soonest_87 : decode cX12_soonest 87 = .ok (.ifCond .ne 20, 3) := by decide +kernel
theorem dX12_soonest_90 : decode cX12_soonest 90 = .ok (.iload 5, 2) := by decide +kernel
theorem dX12_soonest_92 : decode cX12_soonest 92 = .ok (.ifCond .lt 10, 3) := by decide +kernel
theorem dX12_soonest_95 : decode cX12_soonest 95 = .ok (.iload 7, 2) := by decide +kernel
theorem dX12_soonest_97 : decode cX12_soonest 97 = .ok (.iload 5, 2) := by decide +kernel
theorem dX12_soonest_99 : decode cX12_soonest 99 = .ok (.if_icmp .ge 8, 3) := by decide +kernel
theorem dX12_soonest_102 : decode cX12_soonest 102 = .ok (.iload 7, 2) := by decide +kernel
theorem dX12_soonest_104 : decode cX12_soonest 104 = .ok (.goto 5, 3) := by decide +kernel
theorem dX12_soonest_107 : decode cX12_soonest 107 = .ok (.iload 5, 2) := by decide +kernel
theorem dX12_soonest_109 : decode cX12_soonest 109 = .ok (.istore 5, 2) := by decide +kernel
theorem dX12_soonest_111 : decode cX12_soonest 111 = .ok (.aload_n 0, 1) := by decide +kernel
theorem dX12_soonest_112 : decode cX12_soonest 112 = .ok (.iload 4, 2) := by decide +kernel
theorem dX12_soonest_114 : decode cX12_soonest 114 = .ok (.invokevirtual 288, 3) := by decide +kernel
theorem dX12_soonest_117 : decode cX12_soonest 117 = .ok (.istore 6, 2) := by decide +kernel
theorem dX12_soonest_119 : decode cX12_soonest 119 = .ok (.goto (-62), 3) := by decide +kernel
theorem dX12_soonest_122 : decode cX12_soonest 122 = .ok (.iload 5, 2) := by decide +kernel
theorem dX12_soonest_124 : decode cX12_soonest 124 = .ok (.ireturn, 1) := by decide +kernel
theorem dX12_gain_0 : decode cX12_gain 0 = .ok (.iload_n 1, 1) := by decide +kernel
theorem dX12_gain_1 : decode cX12_gain 1 = .ok (.iload_n 2, 1) := by decide +kernel
theorem dX12_gain_2 : decode cX12_gain 2 = .ok (.iload_n 3, 1) := by decide +kernel
theorem dX12_gain_3 : decode cX12_gain 3 = .ok (.invokestatic 232, 3) := by decide +kernel
theorem dX12_gain_6 : decode cX12_gain 6 = .ok (.ifCond .eq 22, 3) := by decide +kernel
theorem dX12_gain_9 : decode cX12_gain 9 = .ok (.iload 4, 2) := by decide +kernel
theorem dX12_gain_11 : decode cX12_gain 11 = .ok (.iload 5, 2) := by decide +kernel
theorem dX12_gain_13 : decode cX12_gain 13 = .ok (.invokestatic 235, 3) := by decide +kernel
theorem dX12_gain_16 : decode cX12_gain 16 = .ok (.ifCond .eq 12, 3) := by decide +kernel
theorem dX12_gain_19 : decode cX12_gain 19 = .ok (.aload_n 0, 1) := by decide +kernel
end
section
theorem dX12_gain_20 : decode cX12_gain 20 = .ok (.getfield 96, 3) := by decide +kernel
theorem dX12_gain_23 : decode cX12_gain 23 = .ok (.bipush 6, 2) := by decide +kernel
theorem dX12_gain_25 : decode cX12_gain 25 = .ok (.if_icmp .ne 7, 3) := by decide +kernel
theorem dX12_gain_28 : decode cX12_gain 28 = .ok (.ldc_w 284, 3) := by decide +kernel
theorem dX12_gain_31 : decode cX12_gain 31 = .ok (.ireturn, 1) := by decide +kernel
theorem dX12_gain_32 : decode cX12_gain 32 = .ok (.aload_n 0, 1) := by decide +kernel
theorem dX12_gain_33 : decode cX12_gain 33 = .ok (.aload_n 0, 1) := by decide +kernel
theorem dX12_gain_34 : decode cX12_gain 34 = .ok (.getfield 96, 3) := by decide +kernel
theorem dX12_gain_37 : decode cX12_gain 37 = .ok (.iconst (-1), 1) := by decide +kernel
theorem dX12_gain_38 : decode cX12_gain 38 = .ok (.invokevirtual 297, 3) := by decide +kernel
theorem dX12_gain_41 : decode cX12_gain 41 = .ok (.istore 6, 2) := by decide +kernel
theorem dX12_gain_43 : decode cX12_gain 43 = .ok (.aload_n 0, 1) := by decide +kernel
theorem dX12_gain_44 : decode cX12_gain 44 = .ok (.aload_n 0, 1) := by decide +kernel
theorem dX12_gain_45 : decode cX12_gain 45 = .ok (.getfield 96, 3) := by decide +kernel
theorem dX12_gain_48 : decode cX12_gain 48 = .ok (.iload_n 1, 1) := by decide +kernel
theorem dX12_gain_49 : decode cX12_gain 49 = .ok (.iload_n 2, 1) := by decide +kernel
theorem dX12_gain_50 : decode cX12_gain 50 = .ok (.iload_n 3, 1) := by decide +kernel
theorem dX12_gain_51 : decode cX12_gain 51 = .ok (.iload 4, 2) := by decide +kernel
theorem dX12_gain_53 : decode cX12_gain 53 = .ok (.iload 5, 2) := by decide +kernel
theorem dX12_gain_55 : decode cX12_gain 55 = .ok (.invokevirtual 213, 3) := by decide +kernel
theorem dX12_gain_58 : decode cX12_gain 58 = .ok (.aload_n 0, 1) := by decide +kernel
theorem dX12_gain_59 : decode cX12_gain 59 = .ok (.aload_n 0, 1) := by decide +kernel
theorem dX12_gain_60 : decode cX12_gain 60 = .ok (.getfield 96, 3) := by decide +kernel
theorem dX12_gain_63 : decode cX12_gain 63 = .ok (.iconst 1, 1) := by decide +kernel
theorem dX12_gain_64 : decode cX12_gain 64 = .ok (.iadd, 1) := by decide +kernel
theorem dX12_gain_65 : decode cX12_gain 65 = .ok (.iconst (-1), 1) := by decide +kernel
theorem dX12_gain_66 : decode cX12_gain 66 = .ok (.invokevirtual 297, 3) := by decide +kernel
theorem dX12_gain_69 : decode cX12_gain 69 = .ok (.iload 6, 2) := by decide +kernel
theorem dX12_gain_71 : decode cX12_gain 71 = .ok (.isub, 1) := by decide +kernel
theorem dX12_gain_72 : decode cX12_gain 72 = .ok (.ireturn, 1) := by decide +kernel
theorem dX12_across_0 : decode cX12_across 0 = .ok (.iload_n 1, 1) := by decide +kernel
theorem dX12_across_1 : decode cX12_across 1 = .ok (.invokestatic 103, 3) := by decide +kernel
theorem dX12_across_4 : decode cX12_across 4 = .ok (.ifCond .ne 7, 3) := by decide +kernel
theorem dX12_across_7 : decode cX12_across 7 = .ok (.ldc_w 284, 3) := by decide +kernel
theorem dX12_across_10 : decode cX12_across 10 = .ok (.ireturn, 1) := by decide +kernel
theorem dX12_across_11 : decode cX12_across 11 = .ok (.bipush (-9), 2) := by decide +kernel
theorem dX12_across_13 : decode cX12_across 13 = .ok (.istore_n 2, 1) := by decide +kernel
theorem dX12_across_14 : decode cX12_across 14 = .ok (.aload_n 0, 1) := by decide +kernel
theorem dX12_across_15 : decode cX12_across 15 = .ok (.aload_n 0, 1) := by decide +kernel
theorem dX12_across_16 : decode cX12_across 16 = .ok (.getfield 96, 3) := by decide +kernel
theorem dX12_across_19 : decode cX12_across 19 = .ok (.iconst (-1), 1) := by decide +kernel
theorem dX12_across_20 : decode cX12_across 20 = .ok (.invokevirtual 297, 3) := by decide +kernel
theorem dX12_across_23 : decode cX12_across 23 = .ok (.istore_n 3, 1) := by decide +kernel
theorem dX12_across_24 : decode cX12_across 24 = .ok (.iconst 0, 1) := by decide +kernel
theorem dX12_across_25 : decode cX12_across 25 = .ok (.istore 4, 2) := by decide +kernel
theorem dX12_across_27 : decode cX12_across 27 = .ok (.iload 4, 2) := by decide +kernel
theorem dX12_across_29 : decode cX12_across 29 = .ok (.aload_n 0, 1) := by decide +kernel
theorem dX12_across_30 : decode cX12_across 30 = .ok (.getfield 96, 3) := by decide +kernel
theorem dX12_across_33 : decode cX12_across 33 = .ok (.if_icmp .ge 57, 3) := by decide +kernel
theorem dX12_across_36 : decode cX12_across 36 = .ok (.aload_n 0, 1) := by decide +kernel
theorem dX12_across_37 : decode cX12_across 37 = .ok (.aload_n 0, 1) := by decide +kernel
theorem dX12_across_38 : decode cX12_across 38 = .ok (.getfield 96, 3) := by decide +kernel
theorem dX12_across_41 : decode cX12_across 41 = .ok (.iload 4, 2) := by decide +kernel
theorem dX12_across_43 : decode cX12_across 43 = .ok (.invokevirtual 297, 3) := by decide +kernel
theorem dX12_across_46 : decode cX12_across 46 = .ok (.aload_n 0, 1) := by decide +kernel
theorem dX12_across_47 : decode cX12_across 47 = .ok (.iload 4, 2) := by decide +kernel
theorem dX12_across_49 : decode cX12_across 49 = .ok (.iconst 4, 1) := by decide +kernel
theorem dX12_across_50 : decode cX12_across 50 = .ok (.invokevirtual 242, 3) := by decide +kernel
theorem dX12_across_53 : decode cX12_across 53 = .ok (.iconst 2, 1) := by decide +kernel
theorem dX12_across_54 : decode cX12_across 54 = .ok (.idiv, 1) := by decide +kernel
theorem dX12_across_55 : decode cX12_across 55 = .ok (.iadd, 1) := by decide +kernel
theorem dX12_across_56 : decode cX12_across 56 = .ok (.istore 5, 2) := by decide +kernel
theorem dX12_across_58 : decode cX12_across 58 = .ok (.iload 5, 2) := by decide +kernel
theorem dX12_across_60 : decode cX12_across 60 = .ok (.iload_n 3, 1) := by decide +kernel
theorem dX12_across_61 : decode cX12_across 61 = .ok (.if_icmp .le 8, 3) := by decide +kernel
theorem dX12_across_64 : decode cX12_across 64 = .ok (.iload 4, 2) := by decide +kernel
theorem dX12_across_66 : decode cX12_across 66 = .ok (.goto 4, 3) := by decide +kernel
theorem dX12_across_69 : decode cX12_across 69 = .ok (.iload_n 2, 1) := by decide +kernel
theorem dX12_across_70 : decode cX12_across 70 = .ok (.istore_n 2, 1) := by decide +kernel
theorem dX12_across_71 : decode cX12_across 71 = .ok (.iload 5, 2) := by decide +kernel
theorem dX12_across_73 : decode cX12_across 73 = .ok (.iload_n 3, 1) := by decide +kernel
theorem dX12_across_74 : decode cX12_across 74 = .ok (.if_icmp .le 8, 3) := by decide +kernel
theorem dX12_across_77 : decode cX12_across 77 = .ok (.iload 5, 2) := by decide +kernel
theorem dX12_across_79 : decode cX12_across 79 = .ok (.goto 4, 3) := by decide +kernel
theorem dX12_across_82 : decode cX12_across 82 = .ok (.iload_n 3, 1) := by decide +kernel
theorem dX12_across_83 : decode cX12_across 83 = .ok (.istore_n 3, 1) := by decide +kernel
theorem dX12_across_84 : decode cX12_across 84 = .ok (.iinc 4 1, 3) := by decide +kernel
theorem dX12_across_87 : decode cX12_across 87 = .ok (.goto (-60), 3) := by decide +kernel
theorem dX12_across_90 : decode cX12_across 90 = .ok (.iload_n 1, 1) := by decide +kernel
theorem dX12_across_91 : decode cX12_across 91 = .ok (.ifCond .ne 7, 3) := by decide +kernel
theorem dX12_across_94 : decode cX12_across 94 = .ok (.iload_n 2, 1) := by decide +kernel
theorem dX12_across_95 : decode cX12_across 95 = .ok (.goto 4, 3) := by decide +kernel
theorem dX12_across_98 : decode cX12_across 98 = .ok (.iload_n 3, 1) := by decide +kernel
theorem dX12_across_99 : decode cX12_across 99 = .ok (.ireturn, 1) := by decide +kernel
theorem dX12_nights_0 : decode cX12_nights 0 = .ok (.iconst 0, 1) := by decide +kernel
theorem dX12_nights_1 : decode cX12_nights 1 = .ok (.istore_n 1, 1) := by decide +kernel
theorem dX12_nights_2 : decode cX12_nights 2 = .ok (.iload_n 1, 1) := by decide +kernel
theorem dX12_nights_3 : decode cX12_nights 3 = .ok (.bipush 10, 2) := by decide +kernel
theorem dX12_nights_5 : decode cX12_nights 5 = .ok (.if_icmp .ge 51, 3) := by decide +kernel
theorem dX12_nights_8 : decode cX12_nights 8 = .ok (.aload_n 0, 1) := by decide +kernel
theorem dX12_nights_9 : decode cX12_nights 9 = .ok (.aload_n 0, 1) := by decide +kernel
theorem dX12_nights_10 : decode cX12_nights 10 = .ok (.getfield 96, 3) := by decide +kernel
theorem dX12_nights_13 : decode cX12_nights 13 = .ok (.iconst (-1), 1) := by decide +kernel
theorem dX12_nights_14 : decode cX12_nights 14 = .ok (.invokevirtual 281, 3) := by decide +kernel
theorem dX12_nights_17 : decode cX12_nights 17 = .ok (.istore_n 2, 1) := by decide +kernel
theorem dX12_nights_18 : decode cX12_nights 18 = .ok (.iconst 1, 1) := by decide +kernel
theorem dX12_nights_19 : decode cX12_nights 19 = .ok (.istore_n 3, 1) := by decide +kernel
theorem dX12_nights_20 : decode cX12_nights 20 = .ok (.iload_n 3, 1) := by decide +kernel
theorem dX12_nights_21 : decode cX12_nights 21 = .ok (.ifCond .eq 29, 3) := by decide +kernel
theorem dX12_nights_24 : decode cX12_nights 24 = .ok (.aload_n 0, 1) := by decide +kernel
theorem dX12_nights_25 : decode cX12_nights 25 = .ok (.iload_n 2, 1) := by decide +kernel
theorem dX12_nights_26 : decode cX12_nights 26 = .ok (.iconst 0, 1) := by decide +kernel
theorem dX12_nights_27 : decode cX12_nights 27 = .ok (.iload_n 1, 1) := by decide +kernel
theorem dX12_nights_28 : decode cX12_nights 28 = .ok (.invokevirtual 267, 3) := by decide +kernel
theorem dX12_nights_31 : decode cX12_nights 31 = .ok (.aload_n 0, 1) := by decide +kernel
theorem dX12_nights_32 : decode cX12_nights 32 = .ok (.iload_n 2, 1) := by decide +kernel
theorem dX12_nights_33 : decode cX12_nights 33 = .ok (.invokevirtual 303, 3) := by decide +kernel
theorem dX12_nights_36 : decode cX12_nights 36 = .ok (.ifCond .ne 5, 3) := by decide +kernel
theorem dX12_nights_39 : decode cX12_nights 39 = .ok (.iload_n 1, 1) := by decide +kernel
theorem dX12_nights_40 : decode cX12_nights 40 = .ok (.ireturn, 1) := by decide +kernel
theorem dX12_nights_41 : decode cX12_nights 41 = .ok (.aload_n 0, 1) := by decide +kernel
theorem dX12_nights_42 : decode cX12_nights 42 = .ok (.iload_n 2, 1) := by decide +kernel
theorem dX12_nights_43 : decode cX12_nights 43 = .ok (.invokevirtual 288, 3) := by decide +kernel
theorem dX12_nights_46 : decode cX12_nights 46 = .ok (.istore_n 3, 1) := by decide +kernel
theorem dX12_nights_47 : decode cX12_nights 47 = .ok (.goto (-27), 3) := by decide +kernel
theorem dX12_nights_50 : decode cX12_nights 50 = .ok (.iinc 1 1, 3) := by decide +kernel
theorem dX12_nights_53 : decode cX12_nights 53 = .ok (.goto (-51), 3) := by decide +kernel
theorem dX12_nights_56 : decode cX12_nights 56 = .ok (.bipush (-3), 2) := by decide +kernel
theorem dX12_nights_58 : decode cX12_nights 58 = .ok (.ireturn, 1) := by decide +kernel
theorem dX12_lowest_0 : decode cX12_lowest 0 = .ok (.iload_n 1, 1) := by decide +kernel
theorem dX12_lowest_1 : decode cX12_lowest 1 = .ok (.ifCond .ge 8, 3) := by decide +kernel
theorem dX12_lowest_4 : decode cX12_lowest 4 = .ok (.iload_n 1, 1) := by decide +kernel
theorem dX12_lowest_5 : decode cX12_lowest 5 = .ok (.ineg, 1) := by decide +kernel
theorem dX12_lowest_6 : decode cX12_lowest 6 = .ok (.goto 4, 3) := by decide +kernel
theorem dX12_lowest_9 : decode cX12_lowest 9 = .ok (.iload_n 1, 1) := by decide +kernel
theorem dX12_lowest_10 : decode cX12_lowest 10 = .ok (.istore_n 3, 1) := by decide +kernel
theorem dX12_lowest_11 : decode cX12_lowest 11 = .ok (.iload_n 2, 1) := by decide +kernel
theorem dX12_lowest_12 : decode cX12_lowest 12 = .ok (.istore 4, 2) := by decide +kernel
theorem dX12_lowest_14 : decode cX12_lowest 14 = .ok (.iload 4, 2) := by decide +kernel
theorem dX12_lowest_16 : decode cX12_lowest 16 = .ok (.ifCond .eq 19, 3) := by decide +kernel
theorem dX12_lowest_19 : decode cX12_lowest 19 = .ok (.iload_n 3, 1) := by decide +kernel
theorem dX12_lowest_20 : decode cX12_lowest 20 = .ok (.iload 4, 2) := by decide +kernel
theorem dX12_lowest_22 : decode cX12_lowest 22 = .ok (.irem, 1) := by decide +kernel
theorem dX12_lowest_23 : decode cX12_lowest 23 = .ok (.istore 5, 2) := by decide +kernel
theorem dX12_lowest_25 : decode cX12_lowest 25 = .ok (.iload 4, 2) := by decide +kernel
theorem dX12_lowest_27 : decode cX12_lowest 27 = .ok (.istore_n 3, 1) := by decide +kernel
theorem dX12_lowest_28 : decode cX12_lowest 28 = .ok (.iload 5, 2) := by decide +kernel
theorem dX12_lowest_30 : decode cX12_lowest 30 = .ok (.istore 4, 2) := by decide +kernel
theorem dX12_lowest_32 : decode cX12_lowest 32 = .ok (.goto (-18), 3) := by decide +kernel
theorem dX12_lowest_35 : decode cX12_lowest 35 = .ok (.aload_n 0, 1) := by decide +kernel
theorem dX12_lowest_36 : decode cX12_lowest 36 = .ok (.iload_n 1, 1) := by decide +kernel
theorem dX12_lowest_37 : decode cX12_lowest 37 = .ok (.iload_n 3, 1) := by decide +kernel
theorem dX12_lowest_38 : decode cX12_lowest 38 = .ok (.idiv, 1) := by decide +kernel
theorem dX12_lowest_39 : decode cX12_lowest 39 = .ok (.putfield 306, 3) := by decide +kernel
theorem dX12_lowest_42 : decode cX12_lowest 42 = .ok (.aload_n 0, 1) := by decide +kernel
theorem dX12_lowest_43 : decode cX12_lowest 43 = .ok (.iload_n 2, 1) := by decide +kernel
theorem dX12_lowest_44 : decode cX12_lowest 44 = .ok (.iload_n 3, 1) := by decide +kernel
theorem dX12_lowest_45 : decode cX12_lowest 45 = .ok (.idiv, 1) := by decide +kernel
theorem dX12_lowest_46 : decode cX12_lowest 46 = .ok (.putfield 309, 3) := by decide +kernel
theorem dX12_lowest_49 : decode cX12_lowest 49 = .ok (.return_, 1) := by decide +kernel
theorem dX12_oftenOf_0 : decode cX12_oftenOf 0 = .ok (.iconst 1, 1) := by decide +kernel
theorem dX12_oftenOf_1 : decode cX12_oftenOf 1 = .ok (.istore_n 2, 1) := by decide +kernel
theorem dX12_oftenOf_2 : decode cX12_oftenOf 2 = .ok (.iconst 0, 1) := by decide +kernel
theorem dX12_oftenOf_3 : decode cX12_oftenOf 3 = .ok (.istore_n 3, 1) := by decide +kernel
theorem dX12_oftenOf_4 : decode cX12_oftenOf 4 = .ok (.iload_n 3, 1) := by decide +kernel
theorem dX12_oftenOf_5 : decode cX12_oftenOf 5 = .ok (.aload_n 0, 1) := by decide +kernel
theorem dX12_oftenOf_6 : decode cX12_oftenOf 6 = .ok (.getfield 96, 3) := by decide +kernel
theorem dX12_oftenOf_9 : decode cX12_oftenOf 9 = .ok (.if_icmp .ge 38, 3) := by decide +kernel
theorem dX12_oftenOf_12 : decode cX12_oftenOf 12 = .ok (.iload_n 2, 1) := by decide +kernel
theorem dX12_oftenOf_13 : decode cX12_oftenOf 13 = .ok (.iload_n 1, 1) := by decide +kernel
theorem dX12_oftenOf_14 : decode cX12_oftenOf 14 = .ok (.iload_n 3, 1) := by decide +kernel
theorem dX12_oftenOf_15 : decode cX12_oftenOf 15 = .ok (.ishr, 1) := by decide +kernel
theorem dX12_oftenOf_16 : decode cX12_oftenOf 16 = .ok (.iconst 1, 1) := by decide +kernel
theorem dX12_oftenOf_17 : decode cX12_oftenOf 17 = .ok (.iand, 1) := by decide +kernel
theorem dX12_oftenOf_18 : decode cX12_oftenOf 18 = .ok (.iconst 1, 1) := by decide +kernel
theorem dX12_oftenOf_19 : decode cX12_oftenOf 19 = .ok (.if_icmp .ne 12, 3) := by decide +kernel
theorem dX12_oftenOf_22 : decode cX12_oftenOf 22 = .ok (.aload_n 0, 1) := by decide +kernel
theorem dX12_oftenOf_23 : decode cX12_oftenOf 23 = .ok (.getfield 13, 3) := by decide +kernel
theorem dX12_oftenOf_26 : decode cX12_oftenOf 26 = .ok (.iconst 3, 1) := by decide +kernel
theorem dX12_oftenOf_27 : decode cX12_oftenOf 27 = .ok (.iaload, 1) := by decide +kernel
theorem dX12_oftenOf_28 : decode cX12_oftenOf 28 = .ok (.goto 11, 3) := by decide +kernel
theorem dX12_oftenOf_31 : decode cX12_oftenOf 31 = .ok (.iconst 4, 1) := by decide +kernel
theorem dX12_oftenOf_32 : decode cX12_oftenOf 32 = .ok (.aload_n 0, 1) := by decide +kernel
theorem dX12_oftenOf_33 : decode cX12_oftenOf 33 = .ok (.getfield 13, 3) := by decide +kernel
theorem dX12_oftenOf_36 : decode cX12_oftenOf 36 = .ok (.iconst 3, 1) := by decide +kernel
theorem dX12_oftenOf_37 : decode cX12_oftenOf 37 = .ok (.iaload, 1) := by decide +kernel
theorem dX12_oftenOf_38 : decode cX12_oftenOf 38 = .ok (.isub, 1) := by decide +kernel
theorem dX12_oftenOf_39 : decode cX12_oftenOf 39 = .ok (.imul, 1) := by decide +kernel
theorem dX12_oftenOf_40 : decode cX12_oftenOf 40 = .ok (.istore_n 2, 1) := by decide +kernel
theorem dX12_oftenOf_41 : decode cX12_oftenOf 41 = .ok (.iinc 3 1, 3) := by decide +kernel
theorem dX12_oftenOf_44 : decode cX12_oftenOf 44 = .ok (.goto (-40), 3) := by decide +kernel
theorem dX12_oftenOf_47 : decode cX12_oftenOf 47 = .ok (.iload_n 2, 1) := by decide +kernel
theorem dX12_oftenOf_48 : decode cX12_oftenOf 48 = .ok (.ireturn, 1) := by decide +kernel
theorem dX12_sureOf_0 : decode cX12_sureOf 0 = .ok (.iconst 0, 1) := by decide +kernel
theorem dX12_sureOf_1 : decode cX12_sureOf 1 = .ok (.istore_n 1, 1) := by decide +kernel
theorem dX12_sureOf_2 : decode cX12_sureOf 2 = .ok (.iconst 0, 1) := by decide +kernel
theorem dX12_sureOf_3 : decode cX12_sureOf 3 = .ok (.istore_n 2, 1) := by decide +kernel
theorem dX12_sureOf_4 : decode cX12_sureOf 4 = .ok (.iload_n 2, 1) := by decide +kernel
theorem dX12_sureOf_5 : decode cX12_sureOf 5 = .ok (.iconst 1, 1) := by decide +kernel
theorem dX12_sureOf_6 : decode cX12_sureOf 6 = .ok (.aload_n 0, 1) := by decide +kernel
theorem dX12_sureOf_7 : decode cX12_sureOf 7 = .ok (.getfield 96, 3) := by decide +kernel
theorem dX12_sureOf_10 : decode cX12_sureOf 10 = .ok (.ishl, 1) := by decide +kernel
theorem dX12_sureOf_11 : decode cX12_sureOf 11 = .ok (.if_icmp .ge 48, 3) := by decide +kernel
theorem dX12_sureOf_14 : decode cX12_sureOf 14 = .ok (.aload_n 0, 1) := by decide +kernel
theorem dX12_sureOf_15 : decode cX12_sureOf 15 = .ok (.iload_n 2, 1) := by decide +kernel
theorem dX12_sureOf_16 : decode cX12_sureOf 16 = .ok (.invokevirtual 312, 3) := by decide +kernel
theorem dX12_sureOf_19 : decode cX12_sureOf 19 = .ok (.istore_n 3, 1) := by decide +kernel
theorem dX12_sureOf_20 : decode cX12_sureOf 20 = .ok (.iload_n 3, 1) := by decide +kernel
theorem dX12_sureOf_21 : decode cX12_sureOf 21 = .ok (.ifCond .le 32, 3) := by decide +kernel
theorem dX12_sureOf_24 : decode cX12_sureOf 24 = .ok (.aload_n 0, 1) := by decide +kernel
theorem dX12_sureOf_25 : decode cX12_sureOf 25 = .ok (.aload_n 0, 1) := by decide +kernel
theorem dX12_sureOf_26 : decode cX12_sureOf 26 = .ok (.getfield 96, 3) := by decide +kernel
theorem dX12_sureOf_29 : decode cX12_sureOf 29 = .ok (.iload_n 2, 1) := by decide +kernel
theorem dX12_sureOf_30 : decode cX12_sureOf 30 = .ok (.iconst 0, 1) := by decide +kernel
theorem dX12_sureOf_31 : decode cX12_sureOf 31 = .ok (.invokevirtual 267, 3) := by decide +kernel
theorem dX12_sureOf_34 : decode cX12_sureOf 34 = .ok (.iload_n 1, 1) := by decide +kernel
theorem dX12_sureOf_35 : decode cX12_sureOf 35 = .ok (.aload_n 0, 1) := by decide +kernel
theorem dX12_sureOf_36 : decode cX12_sureOf 36 = .ok (.aload_n 0, 1) := by decide +kernel
theorem dX12_sureOf_37 : decode cX12_sureOf 37 = .ok (.getfield 96, 3) := by decide +kernel
theorem dX12_sureOf_40 : decode cX12_sureOf 40 = .ok (.invokevirtual 303, 3) := by decide +kernel
theorem dX12_sureOf_43 : decode cX12_sureOf 43 = .ok (.ifCond .ne 7, 3) := by decide +kernel
theorem dX12_sureOf_46 : decode cX12_sureOf 46 = .ok (.iload_n 3, 1) := by decide +kernel
theorem dX12_sureOf_47 : decode cX12_sureOf 47 = .ok (.goto 4, 3) := by decide +kernel
theorem dX12_sureOf_50 : decode cX12_sureOf 50 = .ok (.iconst 0, 1) := by decide +kernel
theorem dX12_sureOf_51 : decode cX12_sureOf 51 = .ok (.iadd, 1) := by decide +kernel
theorem dX12_sureOf_52 : decode cX12_sureOf 52 = .ok (.istore_n 1, 1) := by decide +kernel
theorem dX12_sureOf_53 : decode cX12_sureOf 53 = .ok (.iinc 2 1, 3) := by decide +kernel
theorem dX12_sureOf_56 : decode cX12_sureOf 56 = .ok (.goto (-52), 3) := by decide +kernel
theorem dX12_sureOf_59 : decode cX12_sureOf 59 = .ok (.iload_n 1, 1) := by decide +kernel
theorem dX12_sureOf_60 : decode cX12_sureOf 60 = .ok (.ireturn, 1) := by decide +kernel
theorem dX12_orderOfPlan_0 : decode cX12_orderOfPlan 0 = .ok (.iconst 0, 1) := by decide +kernel
theorem dX12_orderOfPlan_1 : decode cX12_orderOfPlan 1 = .ok (.istore_n 1, 1) := by decide +kernel
theorem dX12_orderOfPlan_2 : decode cX12_orderOfPlan 2 = .ok (.iload_n 1, 1) := by decide +kernel
theorem dX12_orderOfPlan_3 : decode cX12_orderOfPlan 3 = .ok (.aload_n 0, 1) := by decide +kernel
theorem dX12_orderOfPlan_4 : decode cX12_orderOfPlan 4 = .ok (.getfield 96, 3) := by decide +kernel
theorem dX12_orderOfPlan_7 : decode cX12_orderOfPlan 7 = .ok (.if_icmp .ge 21, 3) := by decide +kernel
theorem dX12_orderOfPlan_10 : decode cX12_orderOfPlan 10 = .ok (.aload_n 0, 1) := by decide +kernel
theorem dX12_orderOfPlan_11 : decode cX12_orderOfPlan 11 = .ok (.getfield 47, 3) := by decide +kernel
theorem dX12_orderOfPlan_14 : decode cX12_orderOfPlan 14 = .ok (.iload_n 1, 1) := by decide +kernel
theorem dX12_orderOfPlan_15 : decode cX12_orderOfPlan 15 = .ok (.aload_n 0, 1) := by decide +kernel
theorem dX12_orderOfPlan_16 : decode cX12_orderOfPlan 16 = .ok (.getfield 28, 3) := by decide +kernel
theorem dX12_orderOfPlan_19 : decode cX12_orderOfPlan 19 = .ok (.iload_n 1, 1) := by decide +kernel
theorem dX12_orderOfPlan_20 : decode cX12_orderOfPlan 20 = .ok (.iaload, 1) := by decide +kernel
theorem dX12_orderOfPlan_21 : decode cX12_orderOfPlan 21 = .ok (.iastore, 1) := by decide +kernel
theorem dX12_orderOfPlan_22 : decode cX12_orderOfPlan 22 = .ok (.iinc 1 1, 3) := by decide +kernel
theorem dX12_orderOfPlan_25 : decode cX12_orderOfPlan 25 = .ok (.goto (-23), 3) := by decide +kernel
theorem dX12_orderOfPlan_28 : decode cX12_orderOfPlan 28 = .ok (.return_, 1) := by decide +kernel
theorem dX12_sure_0 : decode cX12_sure 0 = .ok (.iload_n 1, 1) := by decide +kernel
theorem dX12_sure_1 : decode cX12_sure 1 = .ok (.invokestatic 103, 3) := by decide +kernel
theorem dX12_sure_4 : decode cX12_sure 4 = .ok (.ifCond .ne 5, 3) := by decide +kernel
theorem dX12_sure_7 : decode cX12_sure 7 = .ok (.iconst (-1), 1) := by decide +kernel
theorem dX12_sure_8 : decode cX12_sure 8 = .ok (.ireturn, 1) := by decide +kernel
theorem dX12_sure_9 : decode cX12_sure 9 = .ok (.aload_n 0, 1) := by decide +kernel
theorem dX12_sure_10 : decode cX12_sure 10 = .ok (.invokevirtual 315, 3) := by decide +kernel
theorem dX12_sure_13 : decode cX12_sure 13 = .ok (.aload_n 0, 1) := by decide +kernel
theorem dX12_sure_14 : decode cX12_sure 14 = .ok (.aload_n 0, 1) := by decide +kernel
theorem dX12_sure_15 : decode cX12_sure 15 = .ok (.invokevirtual 318, 3) := by decide +kernel
theorem dX12_sure_18 : decode cX12_sure 18 = .ok (.iconst 1, 1) := by decide +kernel
theorem dX12_sure_19 : decode cX12_sure 19 = .ok (.iconst 2, 1) := by decide +kernel
theorem dX12_sure_20 : decode cX12_sure 20 = .ok (.aload_n 0, 1) := by decide +kernel
theorem dX12_sure_21 : decode cX12_sure 21 = .ok (.getfield 96, 3) := by decide +kernel
theorem dX12_sure_24 : decode cX12_sure 24 = .ok (.imul, 1) := by decide +kernel
theorem dX12_sure_25 : decode cX12_sure 25 = .ok (.ishl, 1) := by decide +kernel
theorem dX12_sure_26 : decode cX12_sure 26 = .ok (.invokevirtual 321, 3) := by decide +kernel
theorem dX12_sure_29 : decode cX12_sure 29 = .ok (.iload_n 1, 1) := by decide +kernel
theorem dX12_sure_30 : decode cX12_sure 30 = .ok (.ifCond .ne 10, 3) := by decide +kernel
theorem dX12_sure_33 : decode cX12_sure 33 = .ok (.aload_n 0, 1) := by decide +kernel
theorem dX12_sure_34 : decode cX12_sure 34 = .ok (.getfield 306, 3) := by decide +kernel
theorem dX12_sure_37 : decode cX12_sure 37 = .ok (.goto 7, 3) := by decide +kernel
theorem dX12_sure_40 : decode cX12_sure 40 = .ok (.aload_n 0, 1) := by decide +kernel
theorem dX12_sure_41 : decode cX12_sure 41 = .ok (.getfield 309, 3) := by decide +kernel
theorem dX12_sure_44 : decode cX12_sure 44 = .ok (.ireturn, 1) := by decide +kernel
theorem dX12_safest_0 : decode cX12_safest 0 = .ok (.iload_n 1, 1) := by decide +kernel
theorem dX12_safest_1 : decode cX12_safest 1 = .ok (.iconst 0, 1) := by decide +kernel
theorem dX12_safest_2 : decode cX12_safest 2 = .ok (.iconst 2, 1) := by decide +kernel
theorem dX12_safest_3 : decode cX12_safest 3 = .ok (.invokestatic 99, 3) := by decide +kernel
theorem dX12_safest_6 : decode cX12_safest 6 = .ok (.ifCond .ne 5, 3) := by decide +kernel
theorem dX12_safest_9 : decode cX12_safest 9 = .ok (.iconst (-1), 1) := by decide +kernel
theorem dX12_safest_10 : decode cX12_safest 10 = .ok (.ireturn, 1) := by decide +kernel
theorem dX12_safest_11 : decode cX12_safest 11 = .ok (.aload_n 0, 1) := by decide +kernel
theorem dX12_safest_12 : decode cX12_safest 12 = .ok (.aload_n 0, 1) := by decide +kernel
theorem dX12_safest_13 : decode cX12_safest 13 = .ok (.getfield 96, 3) := by decide +kernel
theorem dX12_safest_16 : decode cX12_safest 16 = .ok (.iconst (-1), 1) := by decide +kernel
theorem dX12_safest_17 : decode cX12_safest 17 = .ok (.invokevirtual 281, 3) := by decide +kernel
theorem dX12_safest_20 : decode cX12_safest 20 = .ok (.istore_n 2, 1) := by decide +kernel
theorem dX12_safest_21 : decode cX12_safest 21 = .ok (.iconst (-1), 1) := by decide +kernel
theorem dX12_safest_22 : decode cX12_safest 22 = .ok (.istore_n 3, 1) := by decide +kernel
theorem dX12_safest_23 : decode cX12_safest 23 = .ok (.iconst 1, 1) := by decide +kernel
theorem dX12_safest_24 : decode cX12_safest 24 = .ok (.istore 4, 2) := by decide +kernel
theorem dX12_safest_26 : decode cX12_safest 26 = .ok (.iload 4, 2) := by decide +kernel
theorem dX12_safest_28 : decode cX12_safest 28 = .ok (.ifCond .eq 33, 3) := by decide +kernel
theorem dX12_safest_31 : decode cX12_safest 31 = .ok (.aload_n 0, 1) := by decide +kernel
theorem dX12_safest_32 : decode cX12_safest 32 = .ok (.invokevirtual 318, 3) := by decide +kernel
theorem dX12_safest_35 : decode cX12_safest 35 = .ok (.istore 5, 2) := by decide +kernel
theorem dX12_safest_37 : decode cX12_safest 37 = .ok (.iload 5, 2) := by decide +kernel
theorem dX12_safest_39 : decode cX12_safest 39 = .ok (.iload_n 3, 1) := by decide +kernel
theorem dX12_safest_40 : decode cX12_safest 40 = .ok (.if_icmp .le 11, 3) := by decide +kernel
theorem dX12_safest_43 : decode cX12_safest 43 = .ok (.iload 5, 2) := by decide +kernel
theorem dX12_safest_45 : decode cX12_safest 45 = .ok (.istore_n 3, 1) := by decide +kernel
theorem dX12_safest_46 : decode cX12_safest 46 = .ok (.aload_n 0, 1) := by decide +kernel
theorem dX12_safest_47 : decode cX12_safest 47 = .ok (.iload_n 2, 1) := by decide +kernel
theorem dX12_safest_48 : decode cX12_safest 48 = .ok (.invokevirtual 285, 3) := by decide +kernel
theorem dX12_safest_51 : decode cX12_safest 51 = .ok (.aload_n 0, 1) := by decide +kernel
theorem dX12_safest_52 : decode cX12_safest 52 = .ok (.iload_n 2, 1) := by decide +kernel
theorem dX12_safest_53 : decode cX12_safest 53 = .ok (.invokevirtual 288, 3) := by decide +kernel
theorem dX12_safest_56 : decode cX12_safest 56 = .ok (.istore 4, 2) := by decide +kernel
theorem dX12_safest_58 : decode cX12_safest 58 = .ok (.goto (-32), 3) := by decide +kernel
theorem dX12_safest_61 : decode cX12_safest 61 = .ok (.aload_n 0, 1) := by decide +kernel
theorem dX12_safest_62 : decode cX12_safest 62 = .ok (.iload_n 3, 1) := by decide +kernel
theorem dX12_safest_63 : decode cX12_safest 63 = .ok (.iconst 1, 1) := by decide +kernel
theorem dX12_safest_64 : decode cX12_safest 64 = .ok (.iconst 2, 1) := by decide +kernel
theorem dX12_safest_65 : decode cX12_safest 65 = .ok (.aload_n 0, 1) := by decide +kernel
theorem dX12_safest_66 : decode cX12_safest 66 = .ok (.getfield 96, 3) := by decide +kernel
theorem dX12_safest_69 : decode cX12_safest 69 = .ok (.imul, 1) := by decide +kernel
theorem dX12_safest_70 : decode cX12_safest 70 = .ok (.ishl, 1) := by decide +kernel
theorem dX12_safest_71 : decode cX12_safest 71 = .ok (.invokevirtual 321, 3) := by decide +kernel
theorem dX12_safest_74 : decode cX12_safest 74 = .ok (.iload_n 1, 1) := by decide +kernel
theorem dX12_safest_75 : decode cX12_safest 75 = .ok (.ifCond .ne 14, 3) := by decide +kernel
theorem dX12_safest_78 : decode cX12_safest 78 = .ok (.aload_n 0, 1) := by decide +kernel
theorem dX12_safest_79 : decode cX12_safest 79 = .ok (.aload_n 0, 1) := by decide +kernel
theorem dX12_safest_80 : decode cX12_safest 80 = .ok (.getfield 96, 3) := by decide +kernel
theorem dX12_safest_83 : decode cX12_safest 83 = .ok (.invokevirtual 300, 3) := by decide +kernel
theorem dX12_safest_86 : decode cX12_safest 86 = .ok (.goto 19, 3) := by decide +kernel
theorem dX12_safest_89 : decode cX12_safest 89 = .ok (.iload_n 1, 1) := by decide +kernel
theorem dX12_safest_90 : decode cX12_safest 90 = .ok (.iconst 1, 1) := by decide +kernel
theorem dX12_safest_91 : decode cX12_safest 91 = .ok (.if_icmp .ne 10, 3) := by decide +kernel
theorem dX12_safest_94 : decode cX12_safest 94 = .ok (.aload_n 0, 1) := by decide +kernel
theorem dX12_safest_95 : decode cX12_safest 95 = .ok (.getfield 306, 3) := by decide +kernel
theorem dX12_safest_98 : decode cX12_safest 98 = .ok (.goto 7, 3) := by decide +kernel
theorem dX12_safest_101 : decode cX12_safest 101 = .ok (.aload_n 0, 1) := by decide +kernel
theorem dX12_safest_102 : decode cX12_safest 102 = .ok (.getfield 309, 3) := by decide +kernel
theorem dX12_safest_105 : decode cX12_safest 105 = .ok (.ireturn, 1) := by decide +kernel
theorem dX12_mean_0 : decode cX12_mean 0 = .ok (.iload_n 1, 1) := by decide +kernel
theorem dX12_mean_1 : decode cX12_mean 1 = .ok (.invokestatic 103, 3) := by decide +kernel
theorem dX12_mean_4 : decode cX12_mean 4 = .ok (.ifCond .ne 7, 3) := by decide +kernel
theorem dX12_mean_7 : decode cX12_mean 7 = .ok (.ldc_w 284, 3) := by decide +kernel
theorem dX12_mean_10 : decode cX12_mean 10 = .ok (.ireturn, 1) := by decide +kernel
theorem dX12_mean_11 : decode cX12_mean 11 = .ok (.aload_n 0, 1) := by decide +kernel
theorem dX12_mean_12 : decode cX12_mean 12 = .ok (.invokevirtual 315, 3) := by decide +kernel
theorem dX12_mean_15 : decode cX12_mean 15 = .ok (.iconst 0, 1) := by decide +kernel
theorem dX12_mean_16 : decode cX12_mean 16 = .ok (.istore_n 2, 1) := by decide +kernel
theorem dX12_mean_17 : decode cX12_mean 17 = .ok (.iconst 0, 1) := by decide +kernel
theorem dX12_mean_18 : decode cX12_mean 18 = .ok (.istore_n 3, 1) := by decide +kernel
theorem dX12_mean_19 : decode cX12_mean 19 = .ok (.iload_n 3, 1) := by decide +kernel
theorem dX12_mean_20 : decode cX12_mean 20 = .ok (.iconst 1, 1) := by decide +kernel
theorem dX12_mean_21 : decode cX12_mean 21 = .ok (.aload_n 0, 1) := by decide +kernel
theorem dX12_mean_22 : decode cX12_mean 22 = .ok (.getfield 96, 3) := by decide +kernel
theorem dX12_mean_25 : decode cX12_mean 25 = .ok (.ishl, 1) := by decide +kernel
theorem dX12_mean_26 : decode cX12_mean 26 = .ok (.if_icmp .ge 40, 3) := by decide +kernel
theorem dX12_mean_29 : decode cX12_mean 29 = .ok (.aload_n 0, 1) := by decide +kernel
theorem dX12_mean_30 : decode cX12_mean 30 = .ok (.iload_n 3, 1) := by decide +kernel
theorem dX12_mean_31 : decode cX12_mean 31 = .ok (.invokevirtual 312, 3) := by decide +kernel
theorem dX12_mean_34 : decode cX12_mean 34 = .ok (.istore 4, 2) := by decide +kernel
theorem dX12_mean_36 : decode cX12_mean 36 = .ok (.aload_n 0, 1) := by decide +kernel
theorem dX12_mean_37 : decode cX12_mean 37 = .ok (.aload_n 0, 1) := by decide +kernel
theorem dX12_mean_38 : decode cX12_mean 38 = .ok (.getfield 96, 3) := by decide +kernel
theorem dX12_mean_41 : decode cX12_mean 41 = .ok (.iload_n 3, 1) := by decide +kernel
theorem dX12_mean_42 : decode cX12_mean 42 = .ok (.iconst 0, 1) := by decide +kernel
theorem dX12_mean_43 : decode cX12_mean 43 = .ok (.invokevirtual 267, 3) := by decide +kernel
theorem dX12_mean_46 : decode cX12_mean 46 = .ok (.iload_n 2, 1) := by decide +kernel
theorem dX12_mean_47 : decode cX12_mean 47 = .ok (.iload 4, 2) := by decide +kernel
theorem dX12_mean_49 : decode cX12_mean 49 = .ok (.aload_n 0, 1) := by decide +kernel
theorem dX12_mean_50 : decode cX12_mean 50 = .ok (.aload_n 0, 1) := by decide +kernel
theorem dX12_mean_51 : decode cX12_mean 51 = .ok (.getfield 96, 3) := by decide +kernel
theorem dX12_mean_54 : decode cX12_mean 54 = .ok (.invokevirtual 274, 3) := by decide +kernel
theorem dX12_mean_57 : decode cX12_mean 57 = .ok (.imul, 1) := by decide +kernel
theorem dX12_mean_58 : decode cX12_mean 58 = .ok (.iadd, 1) := by decide +kernel
theorem dX12_mean_59 : decode cX12_mean 59 = .ok (.istore_n 2, 1) := by decide +kernel
theorem dX12_mean_60 : decode cX12_mean 60 = .ok (.iinc 3 1, 3) := by decide +kernel
theorem dX12_mean_63 : decode cX12_mean 63 = .ok (.goto (-44), 3) := by decide +kernel
theorem dX12_mean_66 : decode cX12_mean 66 = .ok (.aload_n 0, 1) := by decide +kernel
theorem dX12_mean_67 : decode cX12_mean 67 = .ok (.iload_n 2, 1) := by decide +kernel
theorem dX12_mean_68 : decode cX12_mean 68 = .ok (.iconst 1, 1) := by decide +kernel
theorem dX12_mean_69 : decode cX12_mean 69 = .ok (.iconst 2, 1) := by decide +kernel
theorem dX12_mean_70 : decode cX12_mean 70 = .ok (.aload_n 0, 1) := by decide +kernel
theorem dX12_mean_71 : decode cX12_mean 71 = .ok (.getfield 96, 3) := by decide +kernel
theorem dX12_mean_74 : decode cX12_mean 74 = .ok (.imul, 1) := by decide +kernel
theorem dX12_mean_75 : decode cX12_mean 75 = .ok (.ishl, 1) := by decide +kernel
theorem dX12_mean_76 : decode cX12_mean 76 = .ok (.invokevirtual 321, 3) := by decide +kernel
theorem dX12_mean_79 : decode cX12_mean 79 = .ok (.iload_n 1, 1) := by decide +kernel
theorem dX12_mean_80 : decode cX12_mean 80 = .ok (.ifCond .ne 10, 3) := by decide +kernel
theorem dX12_mean_83 : decode cX12_mean 83 = .ok (.aload_n 0, 1) := by decide +kernel
theorem dX12_mean_84 : decode cX12_mean 84 = .ok (.getfield 306, 3) := by decide +kernel
theorem dX12_mean_87 : decode cX12_mean 87 = .ok (.goto 7, 3) := by decide +kernel
theorem dX12_mean_90 : decode cX12_mean 90 = .ok (.aload_n 0, 1) := by decide +kernel
theorem dX12_mean_91 : decode cX12_mean 91 = .ok (.getfield 309, 3) := by decide +kernel
theorem dX12_mean_94 : decode cX12_mean 94 = .ok (.ireturn, 1) := by decide +kernel
theorem dX12_typeIts_0 : decode cX12_typeIts 0 = .ok (.aload_n 0, 1) := by decide +kernel
theorem dX12_typeIts_1 : decode cX12_typeIts 1 = .ok (.getfield 31, 3) := by decide +kernel
theorem dX12_typeIts_4 : decode cX12_typeIts 4 = .ok (.bipush 6, 2) := by decide +kernel
theorem dX12_typeIts_6 : decode cX12_typeIts 6 = .ok (.iload_n 1, 1) := by decide +kernel
theorem dX12_typeIts_7 : decode cX12_typeIts 7 = .ok (.imul, 1) := by decide +kernel
theorem dX12_typeIts_8 : decode cX12_typeIts 8 = .ok (.iload_n 2, 1) := by decide +kernel
theorem dX12_typeIts_9 : decode cX12_typeIts 9 = .ok (.iadd, 1) := by decide +kernel
theorem dX12_typeIts_10 : decode cX12_typeIts 10 = .ok (.iaload, 1) := by decide +kernel
theorem dX12_typeIts_11 : decode cX12_typeIts 11 = .ok (.ireturn, 1) := by decide +kernel
theorem dX12_oddsOfTypes_0 : decode cX12_oddsOfTypes 0 = .ok (.iconst 0, 1) := by decide +kernel
theorem dX12_oddsOfTypes_1 : decode cX12_oddsOfTypes 1 = .ok (.istore_n 1, 1) := by decide +kernel
theorem dX12_oddsOfTypes_2 : decode cX12_oddsOfTypes 2 = .ok (.iconst 0, 1) := by decide +kernel
theorem dX12_oddsOfTypes_3 : decode cX12_oddsOfTypes 3 = .ok (.istore_n 2, 1) := by decide +kernel
theorem dX12_oddsOfTypes_4 : decode cX12_oddsOfTypes 4 = .ok (.iload_n 2, 1) := by decide +kernel
theorem dX12_oddsOfTypes_5 : decode cX12_oddsOfTypes 5 = .ok (.aload_n 0, 1) := by decide +kernel
theorem dX12_oddsOfTypes_6 : decode cX12_oddsOfTypes 6 = .ok (.getfield 324, 3) := by decide +kernel
theorem dX12_oddsOfTypes_9 : decode cX12_oddsOfTypes 9 = .ok (.if_icmp .ge 18, 3) := by decide +kernel
theorem dX12_oddsOfTypes_12 : decode cX12_oddsOfTypes 12 = .ok (.iload_n 1, 1) := by decide +kernel
theorem dX12_oddsOfTypes_13 : decode cX12_oddsOfTypes 13 = .ok (.aload_n 0, 1) := by decide +kernel
theorem dX12_oddsOfTypes_14 : decode cX12_oddsOfTypes 14 = .ok (.iload_n 2, 1) := by decide +kernel
theorem dX12_oddsOfTypes_15 : decode cX12_oddsOfTypes 15 = .ok (.iconst 5, 1) := by decide +kernel
theorem dX12_oddsOfTypes_16 : decode cX12_oddsOfTypes 16 = .ok (.invokevirtual 327, 3) := by decide +kernel
theorem dX12_oddsOfTypes_19 : decode cX12_oddsOfTypes 19 = .ok (.iadd, 1) := by decide +kernel
theorem dX12_oddsOfTypes_20 : decode cX12_oddsOfTypes 20 = .ok (.istore_n 1, 1) := by decide +kernel
theorem dX12_oddsOfTypes_21 : decode cX12_oddsOfTypes 21 = .ok (.iinc 2 1, 3) := by decide +kernel
theorem dX12_oddsOfTypes_24 : decode cX12_oddsOfTypes 24 = .ok (.goto (-20), 3) := by decide +kernel
theorem dX12_oddsOfTypes_27 : decode cX12_oddsOfTypes 27 = .ok (.iload_n 1, 1) := by decide +kernel
theorem dX12_oddsOfTypes_28 : decode cX12_oddsOfTypes 28 = .ok (.ireturn, 1) := by decide +kernel
theorem dX12_type_0 : decode cX12_type 0 = .ok (.iload_n 1, 1) := by decide +kernel
theorem dX12_type_1 : decode cX12_type 1 = .ok (.iload_n 2, 1) := by decide +kernel
theorem dX12_type_2 : decode cX12_type 2 = .ok (.iload_n 3, 1) := by decide +kernel
theorem dX12_type_3 : decode cX12_type 3 = .ok (.invokestatic 232, 3) := by decide +kernel
theorem dX12_type_6 : decode cX12_type 6 = .ok (.ifCond .eq 35, 3) := by decide +kernel
theorem dX12_type_9 : decode cX12_type 9 = .ok (.iload 4, 2) := by decide +kernel
theorem dX12_type_11 : decode cX12_type 11 = .ok (.iconst 0, 1) := by decide +kernel
theorem dX12_type_12 : decode cX12_type 12 = .ok (.bipush 20, 2) := by decide +kernel
theorem dX12_type_14 : decode cX12_type 14 = .ok (.invokestatic 99, 3) := by decide +kernel
theorem dX12_type_17 : decode cX12_type 17 = .ok (.ifCond .eq 24, 3) := by decide +kernel
theorem dX12_type_20 : decode cX12_type 20 = .ok (.iload 5, 2) := by decide +kernel
theorem dX12_type_22 : decode cX12_type 22 = .ok (.iconst 0, 1) := by decide +kernel
theorem dX12_type_23 : decode cX12_type 23 = .ok (.bipush 99, 2) := by decide +kernel
theorem dX12_type_25 : decode cX12_type 25 = .ok (.invokestatic 99, 3) := by decide +kernel
theorem dX12_type_28 : decode cX12_type 28 = .ok (.ifCond .eq 13, 3) := by decide +kernel
theorem dX12_type_31 : decode cX12_type 31 = .ok (.iload 6, 2) := by decide +kernel
theorem dX12_type_33 : decode cX12_type 33 = .ok (.iconst 1, 1) := by decide +kernel
theorem dX12_type_34 : decode cX12_type 34 = .ok (.iconst 4, 1) := by decide +kernel
theorem dX12_type_35 : decode cX12_type 35 = .ok (.invokestatic 99, 3) := by decide +kernel
theorem dX12_type_38 : decode cX12_type 38 = .ok (.ifCond .ne 5, 3) := by decide +kernel
theorem dX12_type_41 : decode cX12_type 41 = .ok (.iconst (-1), 1) := by decide +kernel
theorem dX12_type_42 : decode cX12_type 42 = .ok (.ireturn, 1) := by decide +kernel
theorem dX12_type_43 : decode cX12_type 43 = .ok (.aload_n 0, 1) := by decide +kernel
theorem dX12_type_44 : decode cX12_type 44 = .ok (.invokevirtual 330, 3) := by decide +kernel
theorem dX12_type_47 : decode cX12_type 47 = .ok (.iload 6, 2) := by decide +kernel
theorem dX12_type_49 : decode cX12_type 49 = .ok (.iadd, 1) := by decide +kernel
theorem dX12_type_50 : decode cX12_type 50 = .ok (.iconst 4, 1) := by decide +kernel
theorem dX12_type_51 : decode cX12_type 51 = .ok (.if_icmp .le 6, 3) := by decide +kernel
theorem dX12_type_54 : decode cX12_type 54 = .ok (.bipush (-4), 2) := by decide +kernel
theorem dX12_type_56 : decode cX12_type 56 = .ok (.ireturn, 1) := by decide +kernel
theorem dX12_type_57 : decode cX12_type 57 = .ok (.aload_n 0, 1) := by decide +kernel
theorem dX12_type_58 : decode cX12_type 58 = .ok (.getfield 324, 3) := by decide +kernel
theorem dX12_type_61 : decode cX12_type 61 = .ok (.iconst 3, 1) := by decide +kernel
theorem dX12_type_62 : decode cX12_type 62 = .ok (.if_icmp .ne 6, 3) := by decide +kernel
theorem dX12_type_65 : decode cX12_type 65 = .ok (.bipush (-2), 2) := by decide +kernel
theorem dX12_type_67 : decode cX12_type 67 = .ok (.ireturn, 1) := by decide +kernel
theorem dX12_type_68 : decode cX12_type 68 = .ok (.bipush 6, 2) := by decide +kernel
theorem dX12_type_70 : decode cX12_type 70 = .ok (.aload_n 0, 1) := by decide +kernel
theorem dX12_type_71 : decode cX12_type 71 = .ok (.getfield 324, 3) := by decide +kernel
theorem dX12_type_74 : decode cX12_type 74 = .ok (.imul, 1) := by decide +kernel
theorem dX12_type_75 : decode cX12_type 75 = .ok (.istore 7, 2) := by decide +kernel
theorem dX12_type_77 : decode cX12_type 77 = .ok (.aload_n 0, 1) := by decide +kernel
theorem dX12_type_78 : decode cX12_type 78 = .ok (.getfield 31, 3) := by decide +kernel
theorem dX12_type_81 : decode cX12_type 81 = .ok (.iload 7, 2) := by decide +kernel
theorem dX12_type_83 : decode cX12_type 83 = .ok (.iload_n 1, 1) := by decide +kernel
theorem dX12_type_84 : decode cX12_type 84 = .ok (.iastore, 1) := by decide +kernel
theorem dX12_type_85 : decode cX12_type 85 = .ok (.aload_n 0, 1) := by decide +kernel
theorem dX12_type_86 : decode cX12_type 86 = .ok (.getfield 31, 3) := by decide +kernel
theorem dX12_type_89 : decode cX12_type 89 = .ok (.iload 7, 2) := by decide +kernel
theorem dX12_type_91 : decode cX12_type 91 = .ok (.iconst 1, 1) := by decide +kernel
theorem dX12_type_92 : decode cX12_type 92 = .ok (.iadd, 1) := by decide +kernel
theorem dX12_type_93 : decode cX12_type 93 = .ok (.iload_n 2, 1) := by decide +kernel
theorem dX12_type_94 : decode cX12_type 94 = .ok (.iastore, 1) := by decide +kernel
theorem dX12_type_95 : decode cX12_type 95 = .ok (.aload_n 0, 1) := by decide +kernel
theorem dX12_type_96 : decode cX12_type 96 = .ok (.getfield 31, 3) := by decide +kernel
theorem dX12_type_99 : decode cX12_type 99 = .ok (.iload 7, 2) := by decide +kernel
theorem dX12_type_101 : decode cX12_type 101 = .ok (.iconst 2, 1) := by decide +kernel
theorem dX12_type_102 : decode cX12_type 102 = .ok (.iadd, 1) := by decide +kernel
theorem dX12_type_103 : decode cX12_type 103 = .ok (.iload_n 3, 1) := by decide +kernel
theorem dX12_type_104 : decode cX12_type 104 = .ok (.iastore, 1) := by decide +kernel
theorem dX12_type_105 : decode cX12_type 105 = .ok (.aload_n 0, 1) := by decide +kernel
theorem dX12_type_106 : decode cX12_type 106 = .ok (.getfield 31, 3) := by decide +kernel
theorem dX12_type_109 : decode cX12_type 109 = .ok (.iload 7, 2) := by decide +kernel
theorem dX12_type_111 : decode cX12_type 111 = .ok (.iconst 3, 1) := by decide +kernel
theorem dX12_type_112 : decode cX12_type 112 = .ok (.iadd, 1) := by decide +kernel
theorem dX12_type_113 : decode cX12_type 113 = .ok (.iload 4, 2) := by decide +kernel
theorem dX12_type_115 : decode cX12_type 115 = .ok (.iastore, 1) := by decide +kernel
theorem dX12_type_116 : decode cX12_type 116 = .ok (.aload_n 0, 1) := by decide +kernel
theorem dX12_type_117 : decode cX12_type 117 = .ok (.getfield 31, 3) := by decide +kernel
theorem dX12_type_120 : decode cX12_type 120 = .ok (.iload 7, 2) := by decide +kernel
theorem dX12_type_122 : decode cX12_type 122 = .ok (.iconst 4, 1) := by decide +kernel
theorem dX12_type_123 : decode cX12_type 123 = .ok (.iadd, 1) := by decide +kernel
theorem dX12_type_124 : decode cX12_type 124 = .ok (.iload 5, 2) := by decide +kernel
theorem dX12_type_126 : decode cX12_type 126 = .ok (.iastore, 1) := by decide +kernel
theorem dX12_type_127 : decode cX12_type 127 = .ok (.aload_n 0, 1) := by decide +kernel
theorem dX12_type_128 : decode cX12_type 128 = .ok (.getfield 31, 3) := by decide +kernel
theorem dX12_type_131 : decode cX12_type 131 = .ok (.iload 7, 2) := by decide +kernel
theorem dX12_type_133 : decode cX12_type 133 = .ok (.iconst 5, 1) := by decide +kernel
theorem dX12_type_134 : decode cX12_type 134 = .ok (.iadd, 1) := by decide +kernel
theorem dX12_type_135 : decode cX12_type 135 = .ok (.iload 6, 2) := by decide +kernel
theorem dX12_type_137 : decode cX12_type 137 = .ok (.iastore, 1) := by decide +kernel
theorem dX12_type_138 : decode cX12_type 138 = .ok (.aload_n 0, 1) := by decide +kernel
theorem dX12_type_139 : decode cX12_type 139 = .ok (.dup, 1) := by decide +kernel
theorem dX12_type_140 : decode cX12_type 140 = .ok (.getfield 324, 3) := by decide +kernel
theorem dX12_type_143 : decode cX12_type 143 = .ok (.iconst 1, 1) := by decide +kernel
theorem dX12_type_144 : decode cX12_type 144 = .ok (.iadd, 1) := by decide +kernel
theorem dX12_type_145 : decode cX12_type 145 = .ok (.putfield 324, 3) := by decide +kernel
theorem dX12_type_148 : decode cX12_type 148 = .ok (.aload_n 0, 1) := by decide +kernel
theorem dX12_type_149 : decode cX12_type 149 = .ok (.getfield 324, 3) := by decide +kernel
theorem dX12_type_152 : decode cX12_type 152 = .ok (.iconst 1, 1) := by decide +kernel
theorem dX12_type_153 : decode cX12_type 153 = .ok (.isub, 1) := by decide +kernel
theorem dX12_type_154 : decode cX12_type 154 = .ok (.ireturn, 1) := by decide +kernel
theorem dX12_typeOf_0 : decode cX12_typeOf 0 = .ok (.iload_n 1, 1) := by decide +kernel
theorem dX12_typeOf_1 : decode cX12_typeOf 1 = .ok (.iconst 0, 1) := by decide +kernel
theorem dX12_typeOf_2 : decode cX12_typeOf 2 = .ok (.aload_n 0, 1) := by decide +kernel
theorem dX12_typeOf_3 : decode cX12_typeOf 3 = .ok (.getfield 324, 3) := by decide +kernel
theorem dX12_typeOf_6 : decode cX12_typeOf 6 = .ok (.iconst 1, 1) := by decide +kernel
theorem dX12_typeOf_7 : decode cX12_typeOf 7 = .ok (.isub, 1) := by decide +kernel
theorem dX12_typeOf_8 : decode cX12_typeOf 8 = .ok (.invokestatic 99, 3) := by decide +kernel
theorem dX12_typeOf_11 : decode cX12_typeOf 11 = .ok (.ifCond .eq 21, 3) := by decide +kernel
theorem dX12_typeOf_14 : decode cX12_typeOf 14 = .ok (.iload_n 2, 1) := by decide +kernel
theorem dX12_typeOf_15 : decode cX12_typeOf 15 = .ok (.iconst 0, 1) := by decide +kernel
theorem dX12_typeOf_16 : decode cX12_typeOf 16 = .ok (.iconst 5, 1) := by decide +kernel
theorem dX12_typeOf_17 : decode cX12_typeOf 17 = .ok (.invokestatic 99, 3) := by decide +kernel
theorem dX12_typeOf_20 : decode cX12_typeOf 20 = .ok (.ifCond .eq 12, 3) := by decide +kernel
theorem dX12_typeOf_23 : decode cX12_typeOf 23 = .ok (.aload_n 0, 1) := by decide +kernel
theorem dX12_typeOf_24 : decode cX12_typeOf 24 = .ok (.iload_n 1, 1) := by decide +kernel
theorem dX12_typeOf_25 : decode cX12_typeOf 25 = .ok (.iload_n 2, 1) := by decide +kernel
theorem dX12_typeOf_26 : decode cX12_typeOf 26 = .ok (.invokevirtual 327, 3) := by decide +kernel
theorem dX12_typeOf_29 : decode cX12_typeOf 29 = .ok (.goto 4, 3) := by decide +kernel
theorem dX12_typeOf_32 : decode cX12_typeOf 32 = .ok (.iconst (-1), 1) := by decide +kernel
theorem dX12_typeOf_33 : decode cX12_typeOf 33 = .ok (.ireturn, 1) := by decide +kernel
theorem dX12_takenMany_0 : decode cX12_takenMany 0 = .ok (.iload_n 1, 1) := by decide +kernel
theorem dX12_takenMany_1 : decode cX12_takenMany 1 = .ok (.ifCond .ne 7, 3) := by decide +kernel
theorem dX12_takenMany_4 : decode cX12_takenMany 4 = .ok (.iconst 0, 1) := by decide +kernel
theorem dX12_takenMany_5 : decode cX12_takenMany 5 = .ok (.goto 23, 3) := by decide +kernel
theorem dX12_takenMany_8 : decode cX12_takenMany 8 = .ok (.iload_n 1, 1) := by decide +kernel
theorem dX12_takenMany_9 : decode cX12_takenMany 9 = .ok (.iconst 4, 1) := by decide +kernel
theorem dX12_takenMany_10 : decode cX12_takenMany 10 = .ok (.if_icmp .ge 7, 3) := by decide +kernel
theorem dX12_takenMany_13 : decode cX12_takenMany 13 = .ok (.iconst 1, 1) := by decide +kernel
theorem dX12_takenMany_14 : decode cX12_takenMany 14 = .ok (.goto 14, 3) := by decide +kernel
theorem dX12_takenMany_17 : decode cX12_takenMany 17 = .ok (.iload_n 1, 1) := by decide +kernel
theorem dX12_takenMany_18 : decode cX12_takenMany 18 = .ok (.bipush 16, 2) := by decide +kernel
theorem dX12_takenMany_20 : decode cX12_takenMany 20 = .ok (.if_icmp .ge 7, 3) := by decide +kernel
theorem dX12_takenMany_23 : decode cX12_takenMany 23 = .ok (.iconst 2, 1) := by decide +kernel
theorem dX12_takenMany_24 : decode cX12_takenMany 24 = .ok (.goto 4, 3) := by decide +kernel
theorem dX12_takenMany_27 : decode cX12_takenMany 27 = .ok (.iconst 3, 1) := by decide +kernel
theorem dX12_takenMany_28 : decode cX12_takenMany 28 = .ok (.ireturn, 1) := by decide +kernel
theorem dX12_isTaken_0 : decode cX12_isTaken 0 = .ok (.iload_n 1, 1) := by decide +kernel
theorem dX12_isTaken_1 : decode cX12_isTaken 1 = .ok (.istore_n 2, 1) := by decide +kernel
theorem dX12_isTaken_2 : decode cX12_isTaken 2 = .ok (.iload_n 2, 1) := by decide +kernel
theorem dX12_isTaken_3 : decode cX12_isTaken 3 = .ok (.ifCond .eq 28, 3) := by decide +kernel
theorem dX12_isTaken_6 : decode cX12_isTaken 6 = .ok (.iload_n 2, 1) := by decide +kernel
theorem dX12_isTaken_7 : decode cX12_isTaken 7 = .ok (.iconst 4, 1) := by decide +kernel
theorem dX12_isTaken_8 : decode cX12_isTaken 8 = .ok (.irem, 1) := by decide +kernel
theorem dX12_isTaken_9 : decode cX12_isTaken 9 = .ok (.ifCond .eq 13, 3) := by decide +kernel
theorem dX12_isTaken_12 : decode cX12_isTaken 12 = .ok (.iload_n 2, 1) := by decide +kernel
theorem dX12_isTaken_13 : decode cX12_isTaken 13 = .ok (.iconst 4, 1) := by decide +kernel
theorem dX12_isTaken_14 : decode cX12_isTaken 14 = .ok (.irem, 1) := by decide +kernel
theorem dX12_isTaken_15 : decode cX12_isTaken 15 = .ok (.aload_n 0, 1) := by decide +kernel
theorem dX12_isTaken_16 : decode cX12_isTaken 16 = .ok (.getfield 324, 3) := by decide +kernel
theorem dX12_isTaken_19 : decode cX12_isTaken 19 = .ok (.if_icmp .le 5, 3) := by decide +kernel
theorem dX12_isTaken_22 : decode cX12_isTaken 22 = .ok (.iconst 0, 1) := by decide +kernel
theorem dX12_isTaken_23 : decode cX12_isTaken 23 = .ok (.ireturn, 1) := by decide +kernel
theorem dX12_isTaken_24 : decode cX12_isTaken 24 = .ok (.iload_n 2, 1) := by decide +kernel
theorem dX12_isTaken_25 : decode cX12_isTaken 25 = .ok (.iconst 4, 1) := by decide +kernel
theorem dX12_isTaken_26 : decode cX12_isTaken 26 = .ok (.idiv, 1) := by decide +kernel
theorem dX12_isTaken_27 : decode cX12_isTaken 27 = .ok (.istore_n 2, 1) := by decide +kernel
theorem dX12_isTaken_28 : decode cX12_isTaken 28 = .ok (.goto (-26), 3) := by decide +kernel
theorem dX12_isTaken_31 : decode cX12_isTaken 31 = .ok (.iconst 1, 1) := by decide +kernel
theorem dX12_isTaken_32 : decode cX12_isTaken 32 = .ok (.ireturn, 1) := by decide +kernel
theorem dX12_worthWith_0 : decode cX12_worthWith 0 = .ok (.aload_n 0, 1) := by decide +kernel
theorem dX12_worthWith_1 : decode cX12_worthWith 1 = .ok (.getfield 96, 3) := by decide +kernel
theorem dX12_worthWith_4 : decode cX12_worthWith 4 = .ok (.istore_n 2, 1) := by decide +kernel
theorem dX12_worthWith_5 : decode cX12_worthWith 5 = .ok (.iload_n 1, 1) := by decide +kernel
theorem dX12_worthWith_6 : decode cX12_worthWith 6 = .ok (.istore_n 3, 1) := by decide +kernel
theorem dX12_worthWith_7 : decode cX12_worthWith 7 = .ok (.iload_n 3, 1) := by decide +kernel
theorem dX12_worthWith_8 : decode cX12_worthWith 8 = .ok (.ifCond .eq 65, 3) := by decide +kernel
theorem dX12_worthWith_11 : decode cX12_worthWith 11 = .ok (.iload_n 3, 1) := by decide +kernel
theorem dX12_worthWith_12 : decode cX12_worthWith 12 = .ok (.iconst 4, 1) := by decide +kernel
theorem dX12_worthWith_13 : decode cX12_worthWith 13 = .ok (.irem, 1) := by decide +kernel
theorem dX12_worthWith_14 : decode cX12_worthWith 14 = .ok (.iconst 1, 1) := by decide +kernel
theorem dX12_worthWith_15 : decode cX12_worthWith 15 = .ok (.isub, 1) := by decide +kernel
theorem dX12_worthWith_16 : decode cX12_worthWith 16 = .ok (.istore 4, 2) := by decide +kernel
theorem dX12_worthWith_18 : decode cX12_worthWith 18 = .ok (.aload_n 0, 1) := by decide +kernel
theorem dX12_worthWith_19 : decode cX12_worthWith 19 = .ok (.iload_n 2, 1) := by decide +kernel
theorem dX12_worthWith_20 : decode cX12_worthWith 20 = .ok (.aload_n 0, 1) := by decide +kernel
theorem dX12_worthWith_21 : decode cX12_worthWith 21 = .ok (.iload 4, 2) := by decide +kernel
theorem dX12_worthWith_23 : decode cX12_worthWith 23 = .ok (.iconst 0, 1) := by decide +kernel
theorem dX12_worthWith_24 : decode cX12_worthWith 24 = .ok (.invokevirtual 327, 3) := by decide +kernel
theorem dX12_worthWith_27 : decode cX12_worthWith 27 = .ok (.aload_n 0, 1) := by decide +kernel
theorem dX12_worthWith_28 : decode cX12_worthWith 28 = .ok (.iload 4, 2) := by decide +kernel
theorem dX12_worthWith_30 : decode cX12_worthWith 30 = .ok (.iconst 1, 1) := by decide +kernel
theorem dX12_worthWith_31 : decode cX12_worthWith 31 = .ok (.invokevirtual 327, 3) := by decide +kernel
theorem dX12_worthWith_34 : decode cX12_worthWith 34 = .ok (.aload_n 0, 1) := by decide +kernel
theorem dX12_worthWith_35 : decode cX12_worthWith 35 = .ok (.iload 4, 2) := by decide +kernel
theorem dX12_worthWith_37 : decode cX12_worthWith 37 = .ok (.iconst 2, 1) := by decide +kernel
theorem dX12_worthWith_38 : decode cX12_worthWith 38 = .ok (.invokevirtual 327, 3) := by decide +kernel
theorem dX12_worthWith_41 : decode cX12_worthWith 41 = .ok (.aload_n 0, 1) := by decide +kernel
theorem dX12_worthWith_42 : decode cX12_worthWith 42 = .ok (.getfield 217, 3) := by decide +kernel
theorem dX12_worthWith_45 : decode cX12_worthWith 45 = .ok (.aload_n 0, 1) := by decide +kernel
theorem dX12_worthWith_46 : decode cX12_worthWith 46 = .ok (.iload 4, 2) := by decide +kernel
theorem dX12_worthWith_48 : decode cX12_worthWith 48 = .ok (.iconst 3, 1) := by decide +kernel
theorem dX12_worthWith_49 : decode cX12_worthWith 49 = .ok (.invokevirtual 327, 3) := by decide +kernel
theorem dX12_worthWith_52 : decode cX12_worthWith 52 = .ok (.iadd, 1) := by decide +kernel
theorem dX12_worthWith_53 : decode cX12_worthWith 53 = .ok (.aload_n 0, 1) := by decide +kernel
theorem dX12_worthWith_54 : decode cX12_worthWith 54 = .ok (.iload 4, 2) := by decide +kernel
theorem dX12_worthWith_56 : decode cX12_worthWith 56 = .ok (.iconst 4, 1) := by decide +kernel
theorem dX12_worthWith_57 : decode cX12_worthWith 57 = .ok (.invokevirtual 327, 3) := by decide +kernel
theorem dX12_worthWith_60 : decode cX12_worthWith 60 = .ok (.invokevirtual 213, 3) := by decide +kernel
theorem dX12_worthWith_63 : decode cX12_worthWith 63 = .ok (.iinc 2 1, 3) := by decide +kernel
theorem dX12_worthWith_66 : decode cX12_worthWith 66 = .ok (.iload_n 3, 1) := by decide +kernel
theorem dX12_worthWith_67 : decode cX12_worthWith 67 = .ok (.iconst 4, 1) := by decide +kernel
theorem dX12_worthWith_68 : decode cX12_worthWith 68 = .ok (.idiv, 1) := by decide +kernel
theorem dX12_worthWith_69 : decode cX12_worthWith 69 = .ok (.istore_n 3, 1) := by decide +kernel
theorem dX12_worthWith_70 : decode cX12_worthWith 70 = .ok (.goto (-63), 3) := by decide +kernel
theorem dX12_worthWith_73 : decode cX12_worthWith 73 = .ok (.aload_n 0, 1) := by decide +kernel
theorem dX12_worthWith_74 : decode cX12_worthWith 74 = .ok (.iload_n 2, 1) := by decide +kernel
theorem dX12_worthWith_75 : decode cX12_worthWith 75 = .ok (.iconst (-1), 1) := by decide +kernel
theorem dX12_worthWith_76 : decode cX12_worthWith 76 = .ok (.invokevirtual 297, 3) := by decide +kernel
theorem dX12_worthWith_79 : decode cX12_worthWith 79 = .ok (.ireturn, 1) := by decide +kernel
theorem dX12_ahead_0 : decode cX12_ahead 0 = .ok (.iload_n 1, 1) := by decide +kernel
theorem dX12_ahead_1 : decode cX12_ahead 1 = .ok (.iconst 0, 1) := by decide +kernel
theorem dX12_ahead_2 : decode cX12_ahead 2 = .ok (.iconst 3, 1) := by decide +kernel
theorem dX12_ahead_3 : decode cX12_ahead 3 = .ok (.invokestatic 99, 3) := by decide +kernel
theorem dX12_ahead_6 : decode cX12_ahead 6 = .ok (.ifCond .eq 20, 3) := by decide +kernel
theorem dX12_ahead_9 : decode cX12_ahead 9 = .ok (.iload_n 2, 1) := by decide +kernel
theorem dX12_ahead_10 : decode cX12_ahead 10 = .ok (.invokestatic 103, 3) := by decide +kernel
theorem dX12_ahead_13 : decode cX12_ahead 13 = .ok (.ifCond .eq 13, 3) := by decide +kernel
theorem dX12_ahead_16 : decode cX12_ahead 16 = .ok (.aload_n 0, 1) := by decide +kernel
theorem dX12_ahead_17 : decode cX12_ahead 17 = .ok (.getfield 96, 3) := by decide +kernel
theorem dX12_ahead_20 : decode cX12_ahead 20 = .ok (.iload_n 1, 1) := by decide +kernel
theorem dX12_ahead_21 : decode cX12_ahead 21 = .ok (.iadd, 1) := by decide +kernel
theorem dX12_ahead_22 : decode cX12_ahead 22 = .ok (.iconst 5, 1) := by decide +kernel
theorem dX12_ahead_23 : decode cX12_ahead 23 = .ok (.if_icmp .le 7, 3) := by decide +kernel
theorem dX12_ahead_26 : decode cX12_ahead 26 = .ok (.ldc_w 284, 3) := by decide +kernel
theorem dX12_ahead_29 : decode cX12_ahead 29 = .ok (.ireturn, 1) := by decide +kernel
theorem dX12_ahead_30 : decode cX12_ahead 30 = .ok (.iload_n 1, 1) := by decide +kernel
theorem dX12_ahead_31 : decode cX12_ahead 31 = .ok (.ifCond .ne 7, 3) := by decide +kernel
theorem dX12_ahead_34 : decode cX12_ahead 34 = .ok (.iconst 1, 1) := by decide +kernel
theorem dX12_ahead_35 : decode cX12_ahead 35 = .ok (.goto 24, 3) := by decide +kernel
theorem dX12_ahead_38 : decode cX12_ahead 38 = .ok (.iload_n 1, 1) := by decide +kernel
theorem dX12_ahead_39 : decode cX12_ahead 39 = .ok (.iconst 1, 1) := by decide +kernel
theorem dX12_ahead_40 : decode cX12_ahead 40 = .ok (.if_icmp .ne 7, 3) := by decide +kernel
theorem dX12_ahead_43 : decode cX12_ahead 43 = .ok (.iconst 4, 1) := by decide +kernel
theorem dX12_ahead_44 : decode cX12_ahead 44 = .ok (.goto 15, 3) := by decide +kernel
theorem dX12_ahead_47 : decode cX12_ahead 47 = .ok (.iload_n 1, 1) := by decide +kernel
theorem dX12_ahead_48 : decode cX12_ahead 48 = .ok (.iconst 2, 1) := by decide +kernel
theorem dX12_ahead_49 : decode cX12_ahead 49 = .ok (.if_icmp .ne 8, 3) := by decide +kernel
theorem dX12_ahead_52 : decode cX12_ahead 52 = .ok (.bipush 16, 2) := by decide +kernel
theorem dX12_ahead_54 : decode cX12_ahead 54 = .ok (.goto 5, 3) := by decide +kernel
theorem dX12_ahead_57 : decode cX12_ahead 57 = .ok (.bipush 64, 2) := by decide +kernel
theorem dX12_ahead_59 : decode cX12_ahead 59 = .ok (.istore_n 3, 1) := by decide +kernel
theorem dX12_ahead_60 : decode cX12_ahead 60 = .ok (.iconst 0, 1) := by decide +kernel
theorem dX12_ahead_61 : decode cX12_ahead 61 = .ok (.istore 4, 2) := by decide +kernel
theorem dX12_ahead_63 : decode cX12_ahead 63 = .ok (.iload 4, 2) := by decide +kernel
theorem dX12_ahead_65 : decode cX12_ahead 65 = .ok (.iload_n 3, 1) := by decide +kernel
theorem dX12_ahead_66 : decode cX12_ahead 66 = .ok (.if_icmp .ge 35, 3) := by decide +kernel
theorem dX12_ahead_69 : decode cX12_ahead 69 = .ok (.aload_n 0, 1) := by decide +kernel
theorem dX12_ahead_70 : decode cX12_ahead 70 = .ok (.getfield 59, 3) := by decide +kernel
theorem dX12_ahead_73 : decode cX12_ahead 73 = .ok (.iload 4, 2) := by decide +kernel
theorem dX12_ahead_75 : decode cX12_ahead 75 = .ok (.aload_n 0, 1) := by decide +kernel
theorem dX12_ahead_76 : decode cX12_ahead 76 = .ok (.iload 4, 2) := by decide +kernel
theorem dX12_ahead_78 : decode cX12_ahead 78 = .ok (.invokevirtual 333, 3) := by decide +kernel
theorem dX12_ahead_81 : decode cX12_ahead 81 = .ok (.ifCond .eq 12, 3) := by decide +kernel
theorem dX12_ahead_84 : decode cX12_ahead 84 = .ok (.aload_n 0, 1) := by decide +kernel
theorem dX12_ahead_85 : decode cX12_ahead 85 = .ok (.iload 4, 2) := by decide +kernel
theorem dX12_ahead_87 : decode cX12_ahead 87 = .ok (.invokevirtual 336, 3) := by decide +kernel
theorem dX12_ahead_90 : decode cX12_ahead 90 = .ok (.goto 4, 3) := by decide +kernel
theorem dX12_ahead_93 : decode cX12_ahead 93 = .ok (.iconst 0, 1) := by decide +kernel
theorem dX12_ahead_94 : decode cX12_ahead 94 = .ok (.iastore, 1) := by decide +kernel
theorem dX12_ahead_95 : decode cX12_ahead 95 = .ok (.iinc 4 1, 3) := by decide +kernel
theorem dX12_ahead_98 : decode cX12_ahead 98 = .ok (.goto (-35), 3) := by decide +kernel
theorem dX12_ahead_101 : decode cX12_ahead 101 = .ok (.iconst 1, 1) := by decide +kernel
theorem dX12_ahead_102 : decode cX12_ahead 102 = .ok (.istore 4, 2) := by decide +kernel
theorem dX12_ahead_104 : decode cX12_ahead 104 = .ok (.iload 4, 2) := by decide +kernel
theorem dX12_ahead_106 : decode cX12_ahead 106 = .ok (.iload_n 1, 1) := by decide +kernel
theorem dX12_ahead_107 : decode cX12_ahead 107 = .ok (.if_icmp .gt 182, 3) := by decide +kernel
theorem dX12_ahead_110 : decode cX12_ahead 110 = .ok (.iconst 0, 1) := by decide +kernel
theorem dX12_ahead_111 : decode cX12_ahead 111 = .ok (.istore 5, 2) := by decide +kernel
theorem dX12_ahead_113 : decode cX12_ahead 113 = .ok (.iload 5, 2) := by decide +kernel
theorem dX12_ahead_115 : decode cX12_ahead 115 = .ok (.iload_n 3, 1) := by decide +kernel
theorem dX12_ahead_116 : decode cX12_ahead 116 = .ok (.if_icmp .ge 138, 3) := by decide +kernel
theorem dX12_ahead_119 : decode cX12_ahead 119 = .ok (.aload_n 0, 1) := by decide +kernel
theorem dX12_ahead_120 : decode cX12_ahead 120 = .ok (.getfield 62, 3) := by decide +kernel
theorem dX12_ahead_123 : decode cX12_ahead 123 = .ok (.iload 5, 2) := by decide +kernel
theorem dX12_ahead_125 : decode cX12_ahead 125 = .ok (.iconst 0, 1) := by decide +kernel
theorem dX12_ahead_126 : decode cX12_ahead 126 = .ok (.iastore, 1) := by decide +kernel
theorem dX12_ahead_127 : decode cX12_ahead 127 = .ok (.aload_n 0, 1) := by decide +kernel
theorem dX12_ahead_128 : decode cX12_ahead 128 = .ok (.iload 5, 2) := by decide +kernel
theorem dX12_ahead_130 : decode cX12_ahead 130 = .ok (.invokevirtual 333, 3) := by decide +kernel
theorem dX12_ahead_133 : decode cX12_ahead 133 = .ok (.ifCond .eq 115, 3) := by decide +kernel
theorem dX12_ahead_136 : decode cX12_ahead 136 = .ok (.aload_n 0, 1) := by decide +kernel
theorem dX12_ahead_137 : decode cX12_ahead 137 = .ok (.iload 5, 2) := by decide +kernel
theorem dX12_ahead_139 : decode cX12_ahead 139 = .ok (.invokevirtual 339, 3) := by decide +kernel
theorem dX12_ahead_142 : decode cX12_ahead 142 = .ok (.iload_n 1, 1) := by decide +kernel
theorem dX12_ahead_143 : decode cX12_ahead 143 = .ok (.iload 4, 2) := by decide +kernel
theorem dX12_ahead_145 : decode cX12_ahead 145 = .ok (.isub, 1) := by decide +kernel
theorem dX12_ahead_146 : decode cX12_ahead 146 = .ok (.if_icmp .le 6, 3) := by decide +kernel
theorem dX12_ahead_149 : decode cX12_ahead 149 = .ok (.goto 99, 3) := by decide +kernel
theorem dX12_ahead_152 : decode cX12_ahead 152 = .ok (.iconst 4, 1) := by decide +kernel
theorem dX12_ahead_153 : decode cX12_ahead 153 = .ok (.aload_n 0, 1) := by decide +kernel
theorem dX12_ahead_154 : decode cX12_ahead 154 = .ok (.invokevirtual 330, 3) := by decide +kernel
theorem dX12_ahead_157 : decode cX12_ahead 157 = .ok (.isub, 1) := by decide +kernel
theorem dX12_ahead_158 : decode cX12_ahead 158 = .ok (.aload_n 0, 1) := by decide +kernel
theorem dX12_ahead_159 : decode cX12_ahead 159 = .ok (.getfield 59, 3) := by decide +kernel
theorem dX12_ahead_162 : decode cX12_ahead 162 = .ok (.iload 5, 2) := by decide +kernel
theorem dX12_ahead_164 : decode cX12_ahead 164 = .ok (.iaload, 1) := by decide +kernel
theorem dX12_ahead_165 : decode cX12_ahead 165 = .ok (.imul, 1) := by decide +kernel
theorem dX12_ahead_166 : decode cX12_ahead 166 = .ok (.istore 6, 2) := by decide +kernel
theorem dX12_ahead_168 : decode cX12_ahead 168 = .ok (.iconst 0, 1) := by decide +kernel
theorem dX12_ahead_169 : decode cX12_ahead 169 = .ok (.istore 7, 2) := by decide +kernel
theorem dX12_ahead_171 : decode cX12_ahead 171 = .ok (.iload 7, 2) := by decide +kernel
theorem dX12_ahead_173 : decode cX12_ahead 173 = .ok (.aload_n 0, 1) := by decide +kernel
theorem dX12_ahead_174 : decode cX12_ahead 174 = .ok (.getfield 324, 3) := by decide +kernel
theorem dX12_ahead_177 : decode cX12_ahead 177 = .ok (.if_icmp .ge 62, 3) := by decide +kernel
theorem dX12_ahead_180 : decode cX12_ahead 180 = .ok (.aload_n 0, 1) := by decide +kernel
theorem dX12_ahead_181 : decode cX12_ahead 181 = .ok (.getfield 59, 3) := by decide +kernel
theorem dX12_ahead_184 : decode cX12_ahead 184 = .ok (.iconst 4, 1) := by decide +kernel
theorem dX12_ahead_185 : decode cX12_ahead 185 = .ok (.iload 5, 2) := by decide +kernel
theorem dX12_ahead_187 : decode cX12_ahead 187 = .ok (.imul, 1) := by decide +kernel
theorem dX12_ahead_188 : decode cX12_ahead 188 = .ok (.iload 7, 2) := by decide +kernel
theorem dX12_ahead_190 : decode cX12_ahead 190 = .ok (.iadd, 1) := by decide +kernel
theorem dX12_ahead_191 : decode cX12_ahead 191 = .ok (.iconst 1, 1) := by decide +kernel
theorem dX12_ahead_192 : decode cX12_ahead 192 = .ok (.iadd, 1) := by decide +kernel
theorem dX12_ahead_193 : decode cX12_ahead 193 = .ok (.iaload, 1) := by decide +kernel
theorem dX12_ahead_194 : decode cX12_ahead 194 = .ok (.istore 8, 2) := by decide +kernel
theorem dX12_ahead_196 : decode cX12_ahead 196 = .ok (.iload 6, 2) := by decide +kernel
theorem dX12_ahead_198 : decode cX12_ahead 198 = .ok (.aload_n 0, 1) := by decide +kernel
theorem dX12_ahead_199 : decode cX12_ahead 199 = .ok (.iload 7, 2) := by decide +kernel
theorem dX12_ahead_201 : decode cX12_ahead 201 = .ok (.iconst 5, 1) := by decide +kernel
theorem dX12_ahead_202 : decode cX12_ahead 202 = .ok (.invokevirtual 327, 3) := by decide +kernel
theorem dX12_ahead_205 : decode cX12_ahead 205 = .ok (.iload 8, 2) := by decide +kernel
theorem dX12_ahead_207 : decode cX12_ahead 207 = .ok (.aload_n 0, 1) := by decide +kernel
theorem dX12_ahead_208 : decode cX12_ahead 208 = .ok (.getfield 59, 3) := by decide +kernel
theorem dX12_ahead_211 : decode cX12_ahead 211 = .ok (.iload 5, 2) := by decide +kernel
theorem dX12_ahead_213 : decode cX12_ahead 213 = .ok (.iaload, 1) := by decide +kernel
theorem dX12_ahead_214 : decode cX12_ahead 214 = .ok (.if_icmp .le 8, 3) := by decide +kernel
theorem dX12_ahead_217 : decode cX12_ahead 217 = .ok (.iload 8, 2) := by decide +kernel
theorem dX12_ahead_219 : decode cX12_ahead 219 = .ok (.goto 10, 3) := by decide +kernel
theorem dX12_ahead_222 : decode cX12_ahead 222 = .ok (.aload_n 0, 1) := by decide +kernel
theorem dX12_ahead_223 : decode cX12_ahead 223 = .ok (.getfield 59, 3) := by decide +kernel
theorem dX12_ahead_226 : decode cX12_ahead 226 = .ok (.iload 5, 2) := by decide +kernel
theorem dX12_ahead_228 : decode cX12_ahead 228 = .ok (.iaload, 1) := by decide +kernel
theorem dX12_ahead_229 : decode cX12_ahead 229 = .ok (.imul, 1) := by decide +kernel
theorem dX12_ahead_230 : decode cX12_ahead 230 = .ok (.iadd, 1) := by decide +kernel
theorem dX12_ahead_231 : decode cX12_ahead 231 = .ok (.istore 6, 2) := by decide +kernel
theorem dX12_ahead_233 : decode cX12_ahead 233 = .ok (.iinc 7 1, 3) := by decide +kernel
theorem dX12_ahead_236 : decode cX12_ahead 236 = .ok (.goto (-65), 3) := by decide +kernel
theorem dX12_ahead_239 : decode cX12_ahead 239 = .ok (.aload_n 0, 1) := by decide +kernel
theorem dX12_ahead_240 : decode cX12_ahead 240 = .ok (.getfield 62, 3) := by decide +kernel
theorem dX12_ahead_243 : decode cX12_ahead 243 = .ok (.iload 5, 2) := by decide +kernel
theorem dX12_ahead_245 : decode cX12_ahead 245 = .ok (.iload 6, 2) := by decide +kernel
theorem dX12_ahead_247 : decode cX12_ahead 247 = .ok (.iastore, 1) := by decide +kernel
theorem dX12_ahead_248 : decode cX12_ahead 248 = .ok (.iinc 5 1, 3) := by decide +kernel
theorem dX12_ahead_251 : decode cX12_ahead 251 = .ok (.goto (-138), 3) := by decide +kernel
theorem dX12_ahead_254 : decode cX12_ahead 254 = .ok (.iconst 0, 1) := by decide +kernel
theorem dX12_ahead_255 : decode cX12_ahead 255 = .ok (.istore 5, 2) := by decide +kernel
theorem dX12_ahead_257 : decode cX12_ahead 257 = .ok (.iload 5, 2) := by decide +kernel
theorem dX12_ahead_259 : decode cX12_ahead 259 = .ok (.iload_n 3, 1) := by decide +kernel
theorem dX12_ahead_260 : decode cX12_ahead 260 = .ok (.if_icmp .ge 23, 3) := by decide +kernel
theorem dX12_ahead_263 : decode cX12_ahead 263 = .ok (.aload_n 0, 1) := by decide +kernel
theorem dX12_ahead_264 : decode cX12_ahead 264 = .ok (.getfield 59, 3) := by decide +kernel
theorem dX12_ahead_267 : decode cX12_ahead 267 = .ok (.iload 5, 2) := by decide +kernel
theorem dX12_ahead_269 : decode cX12_ahead 269 = .ok (.aload_n 0, 1) := by decide +kernel
theorem dX12_ahead_270 : decode cX12_ahead 270 = .ok (.getfield 62, 3) := by decide +kernel
theorem dX12_ahead_273 : decode cX12_ahead 273 = .ok (.iload 5, 2) := by decide +kernel
theorem dX12_ahead_275 : decode cX12_ahead 275 = .ok (.iaload, 1) := by decide +kernel
theorem dX12_ahead_276 : decode cX12_ahead 276 = .ok (.iastore, 1) := by decide +kernel
theorem dX12_ahead_277 : decode cX12_ahead 277 = .ok (.iinc 5 1, 3) := by decide +kernel
theorem dX12_ahead_280 : decode cX12_ahead 280 = .ok (.goto (-23), 3) := by decide +kernel
theorem dX12_ahead_283 : decode cX12_ahead 283 = .ok (.iinc 4 1, 3) := by decide +kernel
theorem dX12_ahead_286 : decode cX12_ahead 286 = .ok (.goto (-182), 3) := by decide +kernel
theorem dX12_ahead_289 : decode cX12_ahead 289 = .ok (.aload_n 0, 1) := by decide +kernel
theorem dX12_ahead_290 : decode cX12_ahead 290 = .ok (.aload_n 0, 1) := by decide +kernel
theorem dX12_ahead_291 : decode cX12_ahead 291 = .ok (.getfield 59, 3) := by decide +kernel
theorem dX12_ahead_294 : decode cX12_ahead 294 = .ok (.iconst 0, 1) := by decide +kernel
theorem dX12_ahead_295 : decode cX12_ahead 295 = .ok (.iaload, 1) := by decide +kernel
theorem dX12_ahead_296 : decode cX12_ahead 296 = .ok (.iconst 1, 1) := by decide +kernel
theorem dX12_ahead_297 : decode cX12_ahead 297 = .ok (.iconst 2, 1) := by decide +kernel
theorem dX12_ahead_298 : decode cX12_ahead 298 = .ok (.iload_n 1, 1) := by decide +kernel
theorem dX12_ahead_299 : decode cX12_ahead 299 = .ok (.imul, 1) := by decide +kernel
theorem dX12_ahead_300 : decode cX12_ahead 300 = .ok (.ishl, 1) := by decide +kernel
theorem dX12_ahead_301 : decode cX12_ahead 301 = .ok (.invokevirtual 321, 3) := by decide +kernel
theorem dX12_ahead_304 : decode cX12_ahead 304 = .ok (.iload_n 2, 1) := by decide +kernel
theorem dX12_ahead_305 : decode cX12_ahead 305 = .ok (.ifCond .ne 10, 3) := by decide +kernel
theorem dX12_ahead_308 : decode cX12_ahead 308 = .ok (.aload_n 0, 1) := by decide +kernel
theorem dX12_ahead_309 : decode cX12_ahead 309 = .ok (.getfield 306, 3) := by decide +kernel
theorem dX12_ahead_312 : decode cX12_ahead 312 = .ok (.goto 7, 3) := by decide +kernel
theorem dX12_ahead_315 : decode cX12_ahead 315 = .ok (.aload_n 0, 1) := by decide +kernel
theorem dX12_ahead_316 : decode cX12_ahead 316 = .ok (.getfield 309, 3) := by decide +kernel
theorem dX12_ahead_319 : decode cX12_ahead 319 = .ok (.ireturn, 1) := by decide +kernel
theorem dX12_comes_0 : decode cX12_comes 0 = .ok (.aload_n 0, 1) := by decide +kernel
theorem dX12_comes_1 : decode cX12_comes 1 = .ok (.aload_n 0, 1) := by decide +kernel
theorem dX12_comes_2 : decode cX12_comes 2 = .ok (.getfield 34, 3) := by decide +kernel
theorem dX12_comes_5 : decode cX12_comes 5 = .ok (.ldc_w 342, 3) := by decide +kernel
theorem dX12_comes_8 : decode cX12_comes 8 = .ok (.imul, 1) := by decide +kernel
theorem dX12_comes_9 : decode cX12_comes 9 = .ok (.sipush 12345, 3) := by decide +kernel
theorem dX12_comes_12 : decode cX12_comes 12 = .ok (.iadd, 1) := by decide +kernel
theorem dX12_comes_13 : decode cX12_comes 13 = .ok (.putfield 34, 3) := by decide +kernel
theorem dX12_comes_16 : decode cX12_comes 16 = .ok (.aload_n 0, 1) := by decide +kernel
theorem dX12_comes_17 : decode cX12_comes 17 = .ok (.getfield 34, 3) := by decide +kernel
theorem dX12_comes_20 : decode cX12_comes 20 = .ok (.bipush 16, 2) := by decide +kernel
theorem dX12_comes_22 : decode cX12_comes 22 = .ok (.iushr, 1) := by decide +kernel
theorem dX12_comes_23 : decode cX12_comes 23 = .ok (.iconst 4, 1) := by decide +kernel
theorem dX12_comes_24 : decode cX12_comes 24 = .ok (.irem, 1) := by decide +kernel
theorem dX12_comes_25 : decode cX12_comes 25 = .ok (.istore_n 1, 1) := by decide +kernel
theorem dX12_comes_26 : decode cX12_comes 26 = .ok (.iconst 0, 1) := by decide +kernel
theorem dX12_comes_27 : decode cX12_comes 27 = .ok (.istore_n 2, 1) := by decide +kernel
theorem dX12_comes_28 : decode cX12_comes 28 = .ok (.iconst 0, 1) := by decide +kernel
theorem dX12_comes_29 : decode cX12_comes 29 = .ok (.istore_n 3, 1) := by decide +kernel
theorem dX12_comes_30 : decode cX12_comes 30 = .ok (.iload_n 3, 1) := by decide +kernel
theorem dX12_comes_31 : decode cX12_comes 31 = .ok (.aload_n 0, 1) := by decide +kernel
theorem dX12_comes_32 : decode cX12_comes 32 = .ok (.getfield 324, 3) := by decide +kernel
theorem dX12_comes_35 : decode cX12_comes 35 = .ok (.if_icmp .ge 25, 3) := by decide +kernel
theorem dX12_comes_38 : decode cX12_comes 38 = .ok (.iload_n 2, 1) := by decide +kernel
theorem dX12_comes_39 : decode cX12_comes 39 = .ok (.aload_n 0, 1) := by decide +kernel
theorem dX12_comes_40 : decode cX12_comes 40 = .ok (.iload_n 3, 1) := by decide +kernel
theorem dX12_comes_41 : decode cX12_comes 41 = .ok (.iconst 5, 1) := by decide +kernel
theorem dX12_comes_42 : decode cX12_comes 42 = .ok (.invokevirtual 327, 3) := by decide +kernel
theorem dX12_comes_45 : decode cX12_comes 45 = .ok (.iadd, 1) := by decide +kernel
theorem dX12_comes_46 : decode cX12_comes 46 = .ok (.istore_n 2, 1) := by decide +kernel
theorem dX12_comes_47 : decode cX12_comes 47 = .ok (.iload_n 1, 1) := by decide +kernel
theorem dX12_comes_48 : decode cX12_comes 48 = .ok (.iload_n 2, 1) := by decide +kernel
theorem dX12_comes_49 : decode cX12_comes 49 = .ok (.if_icmp .ge 5, 3) := by decide +kernel
theorem dX12_comes_52 : decode cX12_comes 52 = .ok (.iload_n 3, 1) := by decide +kernel
theorem dX12_comes_53 : decode cX12_comes 53 = .ok (.ireturn, 1) := by decide +kernel
theorem dX12_comes_54 : decode cX12_comes 54 = .ok (.iinc 3 1, 3) := by decide +kernel
theorem dX12_comes_57 : decode cX12_comes 57 = .ok (.goto (-27), 3) := by decide +kernel
theorem dX12_comes_60 : decode cX12_comes 60 = .ok (.bipush (-9), 2) := by decide +kernel
theorem dX12_comes_62 : decode cX12_comes 62 = .ok (.ireturn, 1) := by decide +kernel
theorem dX12_seed_0 : decode cX12_seed 0 = .ok (.aload_n 0, 1) := by decide +kernel
theorem dX12_seed_1 : decode cX12_seed 1 = .ok (.getfield 34, 3) := by decide +kernel
theorem dX12_seed_4 : decode cX12_seed 4 = .ok (.istore_n 2, 1) := by decide +kernel
theorem dX12_seed_5 : decode cX12_seed 5 = .ok (.aload_n 0, 1) := by decide +kernel
theorem dX12_seed_6 : decode cX12_seed 6 = .ok (.iload_n 1, 1) := by decide +kernel
theorem dX12_seed_7 : decode cX12_seed 7 = .ok (.putfield 34, 3) := by decide +kernel
theorem dX12_seed_10 : decode cX12_seed 10 = .ok (.iload_n 2, 1) := by decide +kernel
theorem dX12_seed_11 : decode cX12_seed 11 = .ok (.ireturn, 1) := by decide +kernel
theorem dX12_goes_0 : decode cX12_goes 0 = .ok (.aload_n 0, 1) := by decide +kernel
theorem dX12_goes_1 : decode cX12_goes 1 = .ok (.getfield 217, 3) := by decide +kernel
theorem dX12_goes_4 : decode cX12_goes 4 = .ok (.bipush 60, 2) := by decide +kernel
theorem dX12_goes_6 : decode cX12_goes 6 = .ok (.if_icmp .ne 6, 3) := by decide +kernel
theorem dX12_goes_9 : decode cX12_goes 9 = .ok (.bipush (-4), 2) := by decide +kernel
theorem dX12_goes_11 : decode cX12_goes 11 = .ok (.ireturn, 1) := by decide +kernel
theorem dX12_goes_12 : decode cX12_goes 12 = .ok (.aload_n 0, 1) := by decide +kernel
theorem dX12_goes_13 : decode cX12_goes 13 = .ok (.aload_n 0, 1) := by decide +kernel
theorem dX12_goes_14 : decode cX12_goes 14 = .ok (.getfield 96, 3) := by decide +kernel
theorem dX12_goes_17 : decode cX12_goes 17 = .ok (.iconst 0, 1) := by decide +kernel
theorem dX12_goes_18 : decode cX12_goes 18 = .ok (.invokevirtual 291, 3) := by decide +kernel
theorem dX12_goes_21 : decode cX12_goes 21 = .ok (.aload_n 0, 1) := by decide +kernel
theorem dX12_goes_22 : decode cX12_goes 22 = .ok (.aload_n 0, 1) := by decide +kernel
theorem dX12_goes_23 : decode cX12_goes 23 = .ok (.getfield 217, 3) := by decide +kernel
theorem dX12_goes_26 : decode cX12_goes 26 = .ok (.invokevirtual 248, 3) := by decide +kernel
theorem dX12_goes_29 : decode cX12_goes 29 = .ok (.istore_n 1, 1) := by decide +kernel
theorem dX12_goes_30 : decode cX12_goes 30 = .ok (.iconst 0, 1) := by decide +kernel
theorem dX12_goes_31 : decode cX12_goes 31 = .ok (.istore_n 2, 1) := by decide +kernel
theorem dX12_goes_32 : decode cX12_goes 32 = .ok (.iconst 0, 1) := by decide +kernel
theorem dX12_goes_33 : decode cX12_goes 33 = .ok (.istore_n 3, 1) := by decide +kernel
theorem dX12_goes_34 : decode cX12_goes 34 = .ok (.iload_n 1, 1) := by decide +kernel
theorem dX12_goes_35 : decode cX12_goes 35 = .ok (.ifCond .le 70, 3) := by decide +kernel
theorem dX12_goes_38 : decode cX12_goes 38 = .ok (.iload_n 2, 1) := by decide +kernel
theorem dX12_goes_39 : decode cX12_goes 39 = .ok (.aload_n 0, 1) := by decide +kernel
theorem dX12_goes_40 : decode cX12_goes 40 = .ok (.getfield 96, 3) := by decide +kernel
theorem dX12_goes_43 : decode cX12_goes 43 = .ok (.if_icmp .ge 62, 3) := by decide +kernel
theorem dX12_goes_46 : decode cX12_goes 46 = .ok (.iinc 1 (-1), 3) := by decide +kernel
theorem dX12_goes_49 : decode cX12_goes 49 = .ok (.aload_n 0, 1) := by decide +kernel
theorem dX12_goes_50 : decode cX12_goes 50 = .ok (.aload_n 0, 1) := by decide +kernel
theorem dX12_goes_51 : decode cX12_goes 51 = .ok (.getfield 28, 3) := by decide +kernel
theorem dX12_goes_54 : decode cX12_goes 54 = .ok (.iload_n 2, 1) := by decide +kernel
theorem dX12_goes_55 : decode cX12_goes 55 = .ok (.iaload, 1) := by decide +kernel
theorem dX12_goes_56 : decode cX12_goes 56 = .ok (.invokevirtual 294, 3) := by decide +kernel
theorem dX12_goes_59 : decode cX12_goes 59 = .ok (.ifCond .eq (-25), 3) := by decide +kernel
theorem dX12_goes_62 : decode cX12_goes 62 = .ok (.aload_n 0, 1) := by decide +kernel
theorem dX12_goes_63 : decode cX12_goes 63 = .ok (.getfield 53, 3) := by decide +kernel
theorem dX12_goes_66 : decode cX12_goes 66 = .ok (.aload_n 0, 1) := by decide +kernel
theorem dX12_goes_67 : decode cX12_goes 67 = .ok (.getfield 28, 3) := by decide +kernel
theorem dX12_goes_70 : decode cX12_goes 70 = .ok (.iload_n 2, 1) := by decide +kernel
theorem dX12_goes_71 : decode cX12_goes 71 = .ok (.iaload, 1) := by decide +kernel
theorem dX12_goes_72 : decode cX12_goes 72 = .ok (.aload_n 0, 1) := by decide +kernel
theorem dX12_goes_73 : decode cX12_goes 73 = .ok (.getfield 217, 3) := by decide +kernel
theorem dX12_goes_76 : decode cX12_goes 76 = .ok (.iastore, 1) := by decide +kernel
theorem dX12_goes_77 : decode cX12_goes 77 = .ok (.aload_n 0, 1) := by decide +kernel
theorem dX12_goes_78 : decode cX12_goes 78 = .ok (.dup, 1) := by decide +kernel
theorem dX12_goes_79 : decode cX12_goes 79 = .ok (.getfield 226, 3) := by decide +kernel
theorem dX12_goes_82 : decode cX12_goes 82 = .ok (.aload_n 0, 1) := by decide +kernel
theorem dX12_goes_83 : decode cX12_goes 83 = .ok (.aload_n 0, 1) := by decide +kernel
theorem dX12_goes_84 : decode cX12_goes 84 = .ok (.getfield 28, 3) := by decide +kernel
theorem dX12_goes_87 : decode cX12_goes 87 = .ok (.iload_n 2, 1) := by decide +kernel
theorem dX12_goes_88 : decode cX12_goes 88 = .ok (.iaload, 1) := by decide +kernel
theorem dX12_goes_89 : decode cX12_goes 89 = .ok (.invokevirtual 264, 3) := by decide +kernel
theorem dX12_goes_92 : decode cX12_goes 92 = .ok (.iadd, 1) := by decide +kernel
theorem dX12_goes_93 : decode cX12_goes 93 = .ok (.putfield 226, 3) := by decide +kernel
theorem dX12_goes_96 : decode cX12_goes 96 = .ok (.iinc 3 1, 3) := by decide +kernel
theorem dX12_goes_99 : decode cX12_goes 99 = .ok (.iinc 2 1, 3) := by decide +kernel
theorem dX12_goes_102 : decode cX12_goes 102 = .ok (.goto (-68), 3) := by decide +kernel
theorem dX12_goes_105 : decode cX12_goes 105 = .ok (.aload_n 0, 1) := by decide +kernel
theorem dX12_goes_106 : decode cX12_goes 106 = .ok (.aload_n 0, 1) := by decide +kernel
theorem dX12_goes_107 : decode cX12_goes 107 = .ok (.getfield 251, 3) := by decide +kernel
theorem dX12_goes_110 : decode cX12_goes 110 = .ok (.putfield 220, 3) := by decide +kernel
theorem dX12_goes_113 : decode cX12_goes 113 = .ok (.aload_n 0, 1) := by decide +kernel
theorem dX12_goes_114 : decode cX12_goes 114 = .ok (.aload_n 0, 1) := by decide +kernel
theorem dX12_goes_115 : decode cX12_goes 115 = .ok (.getfield 254, 3) := by decide +kernel
theorem dX12_goes_118 : decode cX12_goes 118 = .ok (.putfield 223, 3) := by decide +kernel
theorem dX12_goes_121 : decode cX12_goes 121 = .ok (.iconst 0, 1) := by decide +kernel
theorem dX12_goes_122 : decode cX12_goes 122 = .ok (.istore 4, 2) := by decide +kernel
theorem dX12_goes_124 : decode cX12_goes 124 = .ok (.iload 4, 2) := by decide +kernel
theorem dX12_goes_126 : decode cX12_goes 126 = .ok (.aload_n 0, 1) := by decide +kernel
theorem dX12_goes_127 : decode cX12_goes 127 = .ok (.getfield 96, 3) := by decide +kernel
theorem dX12_goes_130 : decode cX12_goes 130 = .ok (.if_icmp .ge 27, 3) := by decide +kernel
theorem dX12_goes_133 : decode cX12_goes 133 = .ok (.aload_n 0, 1) := by decide +kernel
theorem dX12_goes_134 : decode cX12_goes 134 = .ok (.getfield 7, 3) := by decide +kernel
theorem dX12_goes_137 : decode cX12_goes 137 = .ok (.iconst 5, 1) := by decide +kernel
theorem dX12_goes_138 : decode cX12_goes 138 = .ok (.iload 4, 2) := by decide +kernel
theorem dX12_goes_140 : decode cX12_goes 140 = .ok (.imul, 1) := by decide +kernel
theorem dX12_goes_141 : decode cX12_goes 141 = .ok (.iconst 1, 1) := by decide +kernel
theorem dX12_goes_142 : decode cX12_goes 142 = .ok (.iadd, 1) := by decide +kernel
theorem dX12_goes_143 : decode cX12_goes 143 = .ok (.aload_n 0, 1) := by decide +kernel
theorem dX12_goes_144 : decode cX12_goes 144 = .ok (.getfield 50, 3) := by decide +kernel
theorem dX12_goes_147 : decode cX12_goes 147 = .ok (.iload 4, 2) := by decide +kernel
theorem dX12_goes_149 : decode cX12_goes 149 = .ok (.iaload, 1) := by decide +kernel
theorem dX12_goes_150 : decode cX12_goes 150 = .ok (.iastore, 1) := by decide +kernel
theorem dX12_goes_151 : decode cX12_goes 151 = .ok (.iinc 4 1, 3) := by decide +kernel
theorem dX12_goes_154 : decode cX12_goes 154 = .ok (.goto (-30), 3) := by decide +kernel
theorem dX12_goes_157 : decode cX12_goes 157 = .ok (.aload_n 0, 1) := by decide +kernel
theorem dX12_goes_158 : decode cX12_goes 158 = .ok (.getfield 96, 3) := by decide +kernel
theorem dX12_goes_161 : decode cX12_goes 161 = .ok (.iconst 1, 1) := by decide +kernel
theorem dX12_goes_162 : decode cX12_goes 162 = .ok (.isub, 1) := by decide +kernel
theorem dX12_goes_163 : decode cX12_goes 163 = .ok (.istore 4, 2) := by decide +kernel
theorem dX12_goes_165 : decode cX12_goes 165 = .ok (.iload 4, 2) := by decide +kernel
theorem dX12_goes_167 : decode cX12_goes 167 = .ok (.ifCond .lt 25, 3) := by decide +kernel
theorem dX12_goes_170 : decode cX12_goes 170 = .ok (.aload_n 0, 1) := by decide +kernel
theorem dX12_goes_171 : decode cX12_goes 171 = .ok (.iload 4, 2) := by decide +kernel
theorem dX12_goes_173 : decode cX12_goes 173 = .ok (.iconst 1, 1) := by decide +kernel
theorem dX12_goes_174 : decode cX12_goes 174 = .ok (.invokevirtual 242, 3) := by decide +kernel
theorem dX12_goes_177 : decode cX12_goes 177 = .ok (.ifCond .ne 9, 3) := by decide +kernel
theorem dX12_goes_180 : decode cX12_goes 180 = .ok (.aload_n 0, 1) := by decide +kernel
theorem dX12_goes_181 : decode cX12_goes 181 = .ok (.iload 4, 2) := by decide +kernel
theorem dX12_goes_183 : decode cX12_goes 183 = .ok (.invokevirtual 245, 3) := by decide +kernel
theorem dX12_goes_186 : decode cX12_goes 186 = .ok (.iinc 4 (-1), 3) := by decide +kernel
theorem dX12_goes_189 : decode cX12_goes 189 = .ok (.goto (-24), 3) := by decide +kernel
theorem dX12_goes_192 : decode cX12_goes 192 = .ok (.aload_n 0, 1) := by decide +kernel
theorem dX12_goes_193 : decode cX12_goes 193 = .ok (.dup, 1) := by decide +kernel
theorem dX12_goes_194 : decode cX12_goes 194 = .ok (.getfield 217, 3) := by decide +kernel
theorem dX12_goes_197 : decode cX12_goes 197 = .ok (.iconst 1, 1) := by decide +kernel
theorem dX12_goes_198 : decode cX12_goes 198 = .ok (.iadd, 1) := by decide +kernel
theorem dX12_goes_199 : decode cX12_goes 199 = .ok (.putfield 217, 3) := by decide +kernel
theorem dX12_goes_202 : decode cX12_goes 202 = .ok (.iload_n 3, 1) := by decide +kernel
theorem dX12_goes_203 : decode cX12_goes 203 = .ok (.ireturn, 1) := by decide +kernel
theorem dX12_till_0 : decode cX12_till 0 = .ok (.aload_n 0, 1) := by decide +kernel
theorem dX12_till_1 : decode cX12_till 1 = .ok (.getfield 226, 3) := by decide +kernel
theorem dX12_till_4 : decode cX12_till 4 = .ok (.ireturn, 1) := by decide +kernel
theorem dX12_prove_0 : decode cX12_prove 0 = .ok (.aload_n 0, 1) := by decide +kernel
theorem dX12_prove_1 : decode cX12_prove 1 = .ok (.aload_n 0, 1) := by decide +kernel
theorem dX12_prove_2 : decode cX12_prove 2 = .ok (.getfield 96, 3) := by decide +kernel
theorem dX12_prove_5 : decode cX12_prove 5 = .ok (.iconst (-1), 1) := by decide +kernel
theorem dX12_prove_6 : decode cX12_prove 6 = .ok (.invokevirtual 297, 3) := by decide +kernel
theorem dX12_prove_9 : decode cX12_prove 9 = .ok (.pop, 1) := by decide +kernel
theorem dX12_prove_10 : decode cX12_prove 10 = .ok (.iconst 0, 1) := by decide +kernel
theorem dX12_prove_11 : decode cX12_prove 11 = .ok (.istore_n 1, 1) := by decide +kernel
theorem dX12_prove_12 : decode cX12_prove 12 = .ok (.iload_n 1, 1) := by decide +kernel
theorem dX12_prove_13 : decode cX12_prove 13 = .ok (.aload_n 0, 1) := by decide +kernel
theorem dX12_prove_14 : decode cX12_prove 14 = .ok (.getfield 96, 3) := by decide +kernel
theorem dX12_prove_17 : decode cX12_prove 17 = .ok (.if_icmp .ge 21, 3) := by decide +kernel
theorem dX12_prove_20 : decode cX12_prove 20 = .ok (.aload_n 0, 1) := by decide +kernel
theorem dX12_prove_21 : decode cX12_prove 21 = .ok (.getfield 47, 3) := by decide +kernel
theorem dX12_prove_24 : decode cX12_prove 24 = .ok (.iload_n 1, 1) := by decide +kernel
theorem dX12_prove_25 : decode cX12_prove 25 = .ok (.aload_n 0, 1) := by decide +kernel
theorem dX12_prove_26 : decode cX12_prove 26 = .ok (.getfield 56, 3) := by decide +kernel
theorem dX12_prove_29 : decode cX12_prove 29 = .ok (.iload_n 1, 1) := by decide +kernel
theorem dX12_prove_30 : decode cX12_prove 30 = .ok (.iaload, 1) := by decide +kernel
theorem dX12_prove_31 : decode cX12_prove 31 = .ok (.iastore, 1) := by decide +kernel
theorem dX12_prove_32 : decode cX12_prove 32 = .ok (.iinc 1 1, 3) := by decide +kernel
theorem dX12_prove_35 : decode cX12_prove 35 = .ok (.goto (-23), 3) := by decide +kernel
theorem dX12_prove_38 : decode cX12_prove 38 = .ok (.aload_n 0, 1) := by decide +kernel
theorem dX12_prove_39 : decode cX12_prove 39 = .ok (.aload_n 0, 1) := by decide +kernel
theorem dX12_prove_40 : decode cX12_prove 40 = .ok (.getfield 96, 3) := by decide +kernel
theorem dX12_prove_43 : decode cX12_prove 43 = .ok (.iconst 0, 1) := by decide +kernel
theorem dX12_prove_44 : decode cX12_prove 44 = .ok (.iconst 0, 1) := by decide +kernel
theorem dX12_prove_45 : decode cX12_prove 45 = .ok (.invokevirtual 267, 3) := by decide +kernel
theorem dX12_prove_48 : decode cX12_prove 48 = .ok (.aload_n 0, 1) := by decide +kernel
theorem dX12_prove_49 : decode cX12_prove 49 = .ok (.aload_n 0, 1) := by decide +kernel
theorem dX12_prove_50 : decode cX12_prove 50 = .ok (.getfield 96, 3) := by decide +kernel
theorem dX12_prove_53 : decode cX12_prove 53 = .ok (.putfield 229, 3) := by decide +kernel
theorem dX12_prove_56 : decode cX12_prove 56 = .ok (.iconst 0, 1) := by decide +kernel
theorem dX12_prove_57 : decode cX12_prove 57 = .ok (.istore_n 1, 1) := by decide +kernel
theorem dX12_prove_58 : decode cX12_prove 58 = .ok (.iload_n 1, 1) := by decide +kernel
theorem dX12_prove_59 : decode cX12_prove 59 = .ok (.aload_n 0, 1) := by decide +kernel
theorem dX12_prove_60 : decode cX12_prove 60 = .ok (.getfield 96, 3) := by decide +kernel
theorem dX12_prove_63 : decode cX12_prove 63 = .ok (.if_icmp .ge 64, 3) := by decide +kernel
theorem dX12_prove_66 : decode cX12_prove 66 = .ok (.aload_n 0, 1) := by decide +kernel
theorem dX12_prove_67 : decode cX12_prove 67 = .ok (.getfield 65, 3) := by decide +kernel
theorem dX12_prove_70 : decode cX12_prove 70 = .ok (.iconst 3, 1) := by decide +kernel
theorem dX12_prove_71 : decode cX12_prove 71 = .ok (.iload_n 1, 1) := by decide +kernel
theorem dX12_prove_72 : decode cX12_prove 72 = .ok (.imul, 1) := by decide +kernel
theorem dX12_prove_73 : decode cX12_prove 73 = .ok (.aload_n 0, 1) := by decide +kernel
theorem dX12_prove_74 : decode cX12_prove 74 = .ok (.getfield 47, 3) := by decide +kernel
theorem dX12_prove_77 : decode cX12_prove 77 = .ok (.iload_n 1, 1) := by decide +kernel
theorem dX12_prove_78 : decode cX12_prove 78 = .ok (.iaload, 1) := by decide +kernel
theorem dX12_prove_79 : decode cX12_prove 79 = .ok (.iastore, 1) := by decide +kernel
theorem dX12_prove_80 : decode cX12_prove 80 = .ok (.aload_n 0, 1) := by decide +kernel
theorem dX12_prove_81 : decode cX12_prove 81 = .ok (.getfield 65, 3) := by decide +kernel
theorem dX12_prove_84 : decode cX12_prove 84 = .ok (.iconst 3, 1) := by decide +kernel
theorem dX12_prove_85 : decode cX12_prove 85 = .ok (.iload_n 1, 1) := by decide +kernel
theorem dX12_prove_86 : decode cX12_prove 86 = .ok (.imul, 1) := by decide +kernel
theorem dX12_prove_87 : decode cX12_prove 87 = .ok (.iconst 1, 1) := by decide +kernel
theorem dX12_prove_88 : decode cX12_prove 88 = .ok (.iadd, 1) := by decide +kernel
theorem dX12_prove_89 : decode cX12_prove 89 = .ok (.aload_n 0, 1) := by decide +kernel
theorem dX12_prove_90 : decode cX12_prove 90 = .ok (.getfield 53, 3) := by decide +kernel
theorem dX12_prove_93 : decode cX12_prove 93 = .ok (.aload_n 0, 1) := by decide +kernel
theorem dX12_prove_94 : decode cX12_prove 94 = .ok (.getfield 47, 3) := by decide +kernel
theorem dX12_prove_97 : decode cX12_prove 97 = .ok (.iload_n 1, 1) := by decide +kernel
theorem dX12_prove_98 : decode cX12_prove 98 = .ok (.iaload, 1) := by decide +kernel
theorem dX12_prove_99 : decode cX12_prove 99 = .ok (.iaload, 1) := by decide +kernel
theorem dX12_prove_100 : decode cX12_prove 100 = .ok (.iastore, 1) := by decide +kernel
theorem dX12_prove_101 : decode cX12_prove 101 = .ok (.aload_n 0, 1) := by decide +kernel
theorem dX12_prove_102 : decode cX12_prove 102 = .ok (.getfield 65, 3) := by decide +kernel
theorem dX12_prove_105 : decode cX12_prove 105 = .ok (.iconst 3, 1) := by decide +kernel
theorem dX12_prove_106 : decode cX12_prove 106 = .ok (.iload_n 1, 1) := by decide +kernel
theorem dX12_prove_107 : decode cX12_prove 107 = .ok (.imul, 1) := by decide +kernel
theorem dX12_prove_108 : decode cX12_prove 108 = .ok (.iconst 2, 1) := by decide +kernel
theorem dX12_prove_109 : decode cX12_prove 109 = .ok (.iadd, 1) := by decide +kernel
theorem dX12_prove_110 : decode cX12_prove 110 = .ok (.aload_n 0, 1) := by decide +kernel
theorem dX12_prove_111 : decode cX12_prove 111 = .ok (.aload_n 0, 1) := by decide +kernel
theorem dX12_prove_112 : decode cX12_prove 112 = .ok (.getfield 47, 3) := by decide +kernel
theorem dX12_prove_115 : decode cX12_prove 115 = .ok (.iload_n 1, 1) := by decide +kernel
theorem dX12_prove_116 : decode cX12_prove 116 = .ok (.iaload, 1) := by decide +kernel
theorem dX12_prove_117 : decode cX12_prove 117 = .ok (.invokevirtual 264, 3) := by decide +kernel
theorem dX12_prove_120 : decode cX12_prove 120 = .ok (.iastore, 1) := by decide +kernel
theorem dX12_prove_121 : decode cX12_prove 121 = .ok (.iinc 1 1, 3) := by decide +kernel
theorem dX12_prove_124 : decode cX12_prove 124 = .ok (.goto (-66), 3) := by decide +kernel
theorem dX12_prove_127 : decode cX12_prove 127 = .ok (.aload_n 0, 1) := by decide +kernel
theorem dX12_prove_128 : decode cX12_prove 128 = .ok (.getfield 229, 3) := by decide +kernel
theorem dX12_prove_131 : decode cX12_prove 131 = .ok (.ireturn, 1) := by decide +kernel
theorem dX12_isRow_0 : decode cX12_isRow 0 = .ok (.iload_n 1, 1) := by decide +kernel
theorem dX12_isRow_1 : decode cX12_isRow 1 = .ok (.iconst 0, 1) := by decide +kernel
theorem dX12_isRow_2 : decode cX12_isRow 2 = .ok (.aload_n 0, 1) := by decide +kernel
theorem dX12_isRow_3 : decode cX12_isRow 3 = .ok (.getfield 229, 3) := by decide +kernel
theorem dX12_isRow_6 : decode cX12_isRow 6 = .ok (.iconst 1, 1) := by decide +kernel
theorem dX12_isRow_7 : decode cX12_isRow 7 = .ok (.isub, 1) := by decide +kernel
theorem dX12_isRow_8 : decode cX12_isRow 8 = .ok (.invokestatic 99, 3) := by decide +kernel
theorem dX12_isRow_11 : decode cX12_isRow 11 = .ok (.ifCond .eq 16, 3) := by decide +kernel
theorem dX12_isRow_14 : decode cX12_isRow 14 = .ok (.iload_n 2, 1) := by decide +kernel
theorem dX12_isRow_15 : decode cX12_isRow 15 = .ok (.iconst 0, 1) := by decide +kernel
theorem dX12_isRow_16 : decode cX12_isRow 16 = .ok (.iconst 2, 1) := by decide +kernel
theorem dX12_isRow_17 : decode cX12_isRow 17 = .ok (.invokestatic 99, 3) := by decide +kernel
theorem dX12_isRow_20 : decode cX12_isRow 20 = .ok (.ifCond .eq 7, 3) := by decide +kernel
theorem dX12_isRow_23 : decode cX12_isRow 23 = .ok (.iconst 1, 1) := by decide +kernel
theorem dX12_isRow_24 : decode cX12_isRow 24 = .ok (.goto 4, 3) := by decide +kernel
theorem dX12_isRow_27 : decode cX12_isRow 27 = .ok (.iconst 0, 1) := by decide +kernel
theorem dX12_isRow_28 : decode cX12_isRow 28 = .ok (.ireturn, 1) := by decide +kernel
theorem dX12_row_0 : decode cX12_row 0 = .ok (.aload_n 0, 1) := by decide +kernel
theorem dX12_row_1 : decode cX12_row 1 = .ok (.iload_n 1, 1) := by decide +kernel
theorem dX12_row_2 : decode cX12_row 2 = .ok (.iload_n 2, 1) := by decide +kernel
theorem dX12_row_3 : decode cX12_row 3 = .ok (.invokevirtual 343, 3) := by decide +kernel
theorem dX12_row_6 : decode cX12_row 6 = .ok (.ifCond .eq 16, 3) := by decide +kernel
theorem dX12_row_9 : decode cX12_row 9 = .ok (.aload_n 0, 1) := by decide +kernel
theorem dX12_row_10 : decode cX12_row 10 = .ok (.getfield 65, 3) := by decide +kernel
theorem dX12_row_13 : decode cX12_row 13 = .ok (.iconst 3, 1) := by decide +kernel
theorem dX12_row_14 : decode cX12_row 14 = .ok (.iload_n 1, 1) := by decide +kernel
theorem dX12_row_15 : decode cX12_row 15 = .ok (.imul, 1) := by decide +kernel
theorem dX12_row_16 : decode cX12_row 16 = .ok (.iload_n 2, 1) := by decide +kernel
theorem dX12_row_17 : decode cX12_row 17 = .ok (.iadd, 1) := by decide +kernel
theorem dX12_row_18 : decode cX12_row 18 = .ok (.iaload, 1) := by decide +kernel
theorem dX12_row_19 : decode cX12_row 19 = .ok (.goto 6, 3) := by decide +kernel
theorem dX12_row_22 : decode cX12_row 22 = .ok (.ldc_w 284, 3) := by decide +kernel
theorem dX12_row_25 : decode cX12_row 25 = .ok (.ireturn, 1) := by decide +kernel
theorem dX12_alterRow_0 : decode cX12_alterRow 0 = .ok (.aload_n 0, 1) := by decide +kernel
theorem dX12_alterRow_1 : decode cX12_alterRow 1 = .ok (.iload_n 1, 1) := by decide +kernel
theorem dX12_alterRow_2 : decode cX12_alterRow 2 = .ok (.iload_n 2, 1) := by decide +kernel
theorem dX12_alterRow_3 : decode cX12_alterRow 3 = .ok (.invokevirtual 343, 3) := by decide +kernel
theorem dX12_alterRow_6 : decode cX12_alterRow 6 = .ok (.ifCond .ne 7, 3) := by decide +kernel
theorem dX12_alterRow_9 : decode cX12_alterRow 9 = .ok (.ldc_w 284, 3) := by decide +kernel
theorem dX12_alterRow_12 : decode cX12_alterRow 12 = .ok (.ireturn, 1) := by decide +kernel
theorem dX12_alterRow_13 : decode cX12_alterRow 13 = .ok (.aload_n 0, 1) := by decide +kernel
theorem dX12_alterRow_14 : decode cX12_alterRow 14 = .ok (.getfield 65, 3) := by decide +kernel
theorem dX12_alterRow_17 : decode cX12_alterRow 17 = .ok (.iconst 3, 1) := by decide +kernel
theorem dX12_alterRow_18 : decode cX12_alterRow 18 = .ok (.iload_n 1, 1) := by decide +kernel
theorem dX12_alterRow_19 : decode cX12_alterRow 19 = .ok (.imul, 1) := by decide +kernel
theorem dX12_alterRow_20 : decode cX12_alterRow 20 = .ok (.iload_n 2, 1) := by decide +kernel
theorem dX12_alterRow_21 : decode cX12_alterRow 21 = .ok (.iadd, 1) := by decide +kernel
theorem dX12_alterRow_22 : decode cX12_alterRow 22 = .ok (.iaload, 1) := by decide +kernel
theorem dX12_alterRow_23 : decode cX12_alterRow 23 = .ok (.istore 4, 2) := by decide +kernel
theorem dX12_alterRow_25 : decode cX12_alterRow 25 = .ok (.aload_n 0, 1) := by decide +kernel
theorem dX12_alterRow_26 : decode cX12_alterRow 26 = .ok (.getfield 65, 3) := by decide +kernel
theorem dX12_alterRow_29 : decode cX12_alterRow 29 = .ok (.iconst 3, 1) := by decide +kernel
theorem dX12_alterRow_30 : decode cX12_alterRow 30 = .ok (.iload_n 1, 1) := by decide +kernel
theorem dX12_alterRow_31 : decode cX12_alterRow 31 = .ok (.imul, 1) := by decide +kernel
theorem dX12_alterRow_32 : decode cX12_alterRow 32 = .ok (.iload_n 2, 1) := by decide +kernel
theorem dX12_alterRow_33 : decode cX12_alterRow 33 = .ok (.iadd, 1) := by decide +kernel
theorem dX12_alterRow_34 : decode cX12_alterRow 34 = .ok (.iload_n 3, 1) := by decide +kernel
theorem dX12_alterRow_35 : decode cX12_alterRow 35 = .ok (.iastore, 1) := by decide +kernel
theorem dX12_alterRow_36 : decode cX12_alterRow 36 = .ok (.iload 4, 2) := by decide +kernel
theorem dX12_alterRow_38 : decode cX12_alterRow 38 = .ok (.ireturn, 1) := by decide +kernel
theorem dX12_judge_0 : decode cX12_judge 0 = .ok (.iconst 0, 1) := by decide +kernel
theorem dX12_judge_1 : decode cX12_judge 1 = .ok (.istore_n 1, 1) := by decide +kernel
theorem dX12_judge_2 : decode cX12_judge 2 = .ok (.iconst 0, 1) := by decide +kernel
theorem dX12_judge_3 : decode cX12_judge 3 = .ok (.istore_n 2, 1) := by decide +kernel
theorem dX12_judge_4 : decode cX12_judge 4 = .ok (.iload_n 2, 1) := by decide +kernel
theorem dX12_judge_5 : decode cX12_judge 5 = .ok (.aload_n 0, 1) := by decide +kernel
theorem dX12_judge_6 : decode cX12_judge 6 = .ok (.getfield 229, 3) := by decide +kernel
theorem dX12_judge_9 : decode cX12_judge 9 = .ok (.if_icmp .ge 106, 3) := by decide +kernel
theorem dX12_judge_12 : decode cX12_judge 12 = .ok (.aload_n 0, 1) := by decide +kernel
theorem dX12_judge_13 : decode cX12_judge 13 = .ok (.getfield 65, 3) := by decide +kernel
theorem dX12_judge_16 : decode cX12_judge 16 = .ok (.iconst 3, 1) := by decide +kernel
theorem dX12_judge_17 : decode cX12_judge 17 = .ok (.iload_n 2, 1) := by decide +kernel
theorem dX12_judge_18 : decode cX12_judge 18 = .ok (.imul, 1) := by decide +kernel
theorem dX12_judge_19 : decode cX12_judge 19 = .ok (.iaload, 1) := by decide +kernel
theorem dX12_judge_20 : decode cX12_judge 20 = .ok (.istore_n 3, 1) := by decide +kernel
theorem dX12_judge_21 : decode cX12_judge 21 = .ok (.aload_n 0, 1) := by decide +kernel
theorem dX12_judge_22 : decode cX12_judge 22 = .ok (.iload_n 3, 1) := by decide +kernel
theorem dX12_judge_23 : decode cX12_judge 23 = .ok (.invokevirtual 239, 3) := by decide +kernel
theorem dX12_judge_26 : decode cX12_judge 26 = .ok (.ifCond .eq 12, 3) := by decide +kernel
theorem dX12_judge_29 : decode cX12_judge 29 = .ok (.iload_n 1, 1) := by decide +kernel
theorem dX12_judge_30 : decode cX12_judge 30 = .ok (.iload_n 3, 1) := by decide +kernel
theorem dX12_judge_31 : decode cX12_judge 31 = .ok (.ishr, 1) := by decide +kernel
theorem dX12_judge_32 : decode cX12_judge 32 = .ok (.iconst 1, 1) := by decide +kernel
theorem dX12_judge_33 : decode cX12_judge 33 = .ok (.iand, 1) := by decide +kernel
theorem dX12_judge_34 : decode cX12_judge 34 = .ok (.iconst 1, 1) := by decide +kernel
theorem dX12_judge_35 : decode cX12_judge 35 = .ok (.if_icmp .ne 7, 3) := by decide +kernel
theorem dX12_judge_38 : decode cX12_judge 38 = .ok (.iload_n 2, 1) := by decide +kernel
theorem dX12_judge_39 : decode cX12_judge 39 = .ok (.iconst 1, 1) := by decide +kernel
theorem dX12_judge_40 : decode cX12_judge 40 = .ok (.iadd, 1) := by decide +kernel
theorem dX12_judge_41 : decode cX12_judge 41 = .ok (.ireturn, 1) := by decide +kernel
theorem dX12_judge_42 : decode cX12_judge 42 = .ok (.iload_n 1, 1) := by decide +kernel
theorem dX12_judge_43 : decode cX12_judge 43 = .ok (.iconst 1, 1) := by decide +kernel
theorem dX12_judge_44 : decode cX12_judge 44 = .ok (.iload_n 3, 1) := by decide +kernel
theorem dX12_judge_45 : decode cX12_judge 45 = .ok (.ishl, 1) := by decide +kernel
theorem dX12_judge_46 : decode cX12_judge 46 = .ok (.ior, 1) := by decide +kernel
theorem dX12_judge_47 : decode cX12_judge 47 = .ok (.istore_n 1, 1) := by decide +kernel
theorem dX12_judge_48 : decode cX12_judge 48 = .ok (.aload_n 0, 1) := by decide +kernel
theorem dX12_judge_49 : decode cX12_judge 49 = .ok (.getfield 47, 3) := by decide +kernel
theorem dX12_judge_52 : decode cX12_judge 52 = .ok (.iload_n 2, 1) := by decide +kernel
theorem dX12_judge_53 : decode cX12_judge 53 = .ok (.iload_n 3, 1) := by decide +kernel
theorem dX12_judge_54 : decode cX12_judge 54 = .ok (.iastore, 1) := by decide +kernel
theorem dX12_judge_55 : decode cX12_judge 55 = .ok (.aload_n 0, 1) := by decide +kernel
theorem dX12_judge_56 : decode cX12_judge 56 = .ok (.iload_n 2, 1) := by decide +kernel
theorem dX12_judge_57 : decode cX12_judge 57 = .ok (.iconst 1, 1) := by decide +kernel
theorem dX12_judge_58 : decode cX12_judge 58 = .ok (.iadd, 1) := by decide +kernel
theorem dX12_judge_59 : decode cX12_judge 59 = .ok (.aload_n 0, 1) := by decide +kernel
theorem dX12_judge_60 : decode cX12_judge 60 = .ok (.getfield 96, 3) := by decide +kernel
theorem dX12_judge_63 : decode cX12_judge 63 = .ok (.iconst 0, 1) := by decide +kernel
theorem dX12_judge_64 : decode cX12_judge 64 = .ok (.iconst 0, 1) := by decide +kernel
theorem dX12_judge_65 : decode cX12_judge 65 = .ok (.invokevirtual 257, 3) := by decide +kernel
theorem dX12_judge_68 : decode cX12_judge 68 = .ok (.aload_n 0, 1) := by decide +kernel
theorem dX12_judge_69 : decode cX12_judge 69 = .ok (.getfield 65, 3) := by decide +kernel
theorem dX12_judge_72 : decode cX12_judge 72 = .ok (.iconst 3, 1) := by decide +kernel
theorem dX12_judge_73 : decode cX12_judge 73 = .ok (.iload_n 2, 1) := by decide +kernel
theorem dX12_judge_74 : decode cX12_judge 74 = .ok (.imul, 1) := by decide +kernel
theorem dX12_judge_75 : decode cX12_judge 75 = .ok (.iconst 1, 1) := by decide +kernel
theorem dX12_judge_76 : decode cX12_judge 76 = .ok (.iadd, 1) := by decide +kernel
theorem dX12_judge_77 : decode cX12_judge 77 = .ok (.iaload, 1) := by decide +kernel
theorem dX12_judge_78 : decode cX12_judge 78 = .ok (.aload_n 0, 1) := by decide +kernel
theorem dX12_judge_79 : decode cX12_judge 79 = .ok (.getfield 53, 3) := by decide +kernel
theorem dX12_judge_82 : decode cX12_judge 82 = .ok (.iload_n 3, 1) := by decide +kernel
theorem dX12_judge_83 : decode cX12_judge 83 = .ok (.iaload, 1) := by decide +kernel
theorem dX12_judge_84 : decode cX12_judge 84 = .ok (.if_icmp .ne 21, 3) := by decide +kernel
theorem dX12_judge_87 : decode cX12_judge 87 = .ok (.aload_n 0, 1) := by decide +kernel
theorem dX12_judge_88 : decode cX12_judge 88 = .ok (.getfield 65, 3) := by decide +kernel
theorem dX12_judge_91 : decode cX12_judge 91 = .ok (.iconst 3, 1) := by decide +kernel
theorem dX12_judge_92 : decode cX12_judge 92 = .ok (.iload_n 2, 1) := by decide +kernel
theorem dX12_judge_93 : decode cX12_judge 93 = .ok (.imul, 1) := by decide +kernel
theorem dX12_judge_94 : decode cX12_judge 94 = .ok (.iconst 2, 1) := by decide +kernel
theorem dX12_judge_95 : decode cX12_judge 95 = .ok (.iadd, 1) := by decide +kernel
theorem dX12_judge_96 : decode cX12_judge 96 = .ok (.iaload, 1) := by decide +kernel
theorem dX12_judge_97 : decode cX12_judge 97 = .ok (.aload_n 0, 1) := by decide +kernel
theorem dX12_judge_98 : decode cX12_judge 98 = .ok (.iload_n 3, 1) := by decide +kernel
theorem dX12_judge_99 : decode cX12_judge 99 = .ok (.invokevirtual 264, 3) := by decide +kernel
theorem dX12_judge_102 : decode cX12_judge 102 = .ok (.if_icmp .eq 7, 3) := by decide +kernel
theorem dX12_judge_105 : decode cX12_judge 105 = .ok (.iload_n 2, 1) := by decide +kernel
theorem dX12_judge_106 : decode cX12_judge 106 = .ok (.iconst 1, 1) := by decide +kernel
theorem dX12_judge_107 : decode cX12_judge 107 = .ok (.iadd, 1) := by decide +kernel
theorem dX12_judge_108 : decode cX12_judge 108 = .ok (.ireturn, 1) := by decide +kernel
theorem dX12_judge_109 : decode cX12_judge 109 = .ok (.iinc 2 1, 3) := by decide +kernel
theorem dX12_judge_112 : decode cX12_judge 112 = .ok (.goto (-108), 3) := by decide +kernel
theorem dX12_judge_115 : decode cX12_judge 115 = .ok (.aload_n 0, 1) := by decide +kernel
theorem dX12_judge_116 : decode cX12_judge 116 = .ok (.getfield 229, 3) := by decide +kernel
theorem dX12_judge_119 : decode cX12_judge 119 = .ok (.aload_n 0, 1) := by decide +kernel
theorem dX12_judge_120 : decode cX12_judge 120 = .ok (.getfield 96, 3) := by decide +kernel
theorem dX12_judge_123 : decode cX12_judge 123 = .ok (.if_icmp .ge 9, 3) := by decide +kernel
theorem dX12_judge_126 : decode cX12_judge 126 = .ok (.sipush 222, 3) := by decide +kernel
theorem dX12_judge_129 : decode cX12_judge 129 = .ok (.goto 4, 3) := by decide +kernel
theorem dX12_judge_132 : decode cX12_judge 132 = .ok (.iconst 0, 1) := by decide +kernel
theorem dX12_judge_133 : decode cX12_judge 133 = .ok (.ireturn, 1) := by decide +kernel
theorem dX12_isShelf_0 : decode cX12_isShelf 0 = .ok (.iload_n 0, 1) := by decide +kernel
theorem dX12_isShelf_1 : decode cX12_isShelf 1 = .ok (.iconst 0, 1) := by decide +kernel
theorem dX12_isShelf_2 : decode cX12_isShelf 2 = .ok (.iconst 3, 1) := by decide +kernel
theorem dX12_isShelf_3 : decode cX12_isShelf 3 = .ok (.invokestatic 99, 3) := by decide +kernel
theorem dX12_isShelf_6 : decode cX12_isShelf 6 = .ok (.ireturn, 1) := by decide +kernel
theorem dX12_sheet_0 : decode cX12_sheet 0 = .ok (.iload_n 1, 1) := by decide +kernel
theorem dX12_sheet_1 : decode cX12_sheet 1 = .ok (.invokestatic 346, 3) := by decide +kernel
theorem dX12_sheet_4 : decode cX12_sheet 4 = .ok (.ifCond .eq 22, 3) := by decide +kernel
theorem dX12_sheet_7 : decode cX12_sheet 7 = .ok (.iload_n 2, 1) := by decide +kernel
theorem dX12_sheet_8 : decode cX12_sheet 8 = .ok (.iconst (-1), 1) := by decide +kernel
theorem dX12_sheet_9 : decode cX12_sheet 9 = .ok (.iconst 3, 1) := by decide +kernel
theorem dX12_sheet_10 : decode cX12_sheet 10 = .ok (.invokestatic 99, 3) := by decide +kernel
theorem dX12_sheet_13 : decode cX12_sheet 13 = .ok (.ifCond .eq 13, 3) := by decide +kernel
theorem dX12_sheet_16 : decode cX12_sheet 16 = .ok (.iload_n 2, 1) := by decide +kernel
theorem dX12_sheet_17 : decode cX12_sheet 17 = .ok (.ifCond .lt 11, 3) := by decide +kernel
theorem dX12_sheet_20 : decode cX12_sheet 20 = .ok (.iload_n 3, 1) := by decide +kernel
theorem dX12_sheet_21 : decode cX12_sheet 21 = .ok (.bipush 40, 2) := by decide +kernel
theorem dX12_sheet_23 : decode cX12_sheet 23 = .ok (.if_icmp .le 5, 3) := by decide +kernel
theorem dX12_sheet_26 : decode cX12_sheet 26 = .ok (.iconst (-1), 1) := by decide +kernel
theorem dX12_sheet_27 : decode cX12_sheet 27 = .ok (.ireturn, 1) := by decide +kernel
theorem dX12_sheet_28 : decode cX12_sheet 28 = .ok (.iload_n 2, 1) := by decide +kernel
theorem dX12_sheet_29 : decode cX12_sheet 29 = .ok (.ifCond .lt 10, 3) := by decide +kernel
theorem dX12_sheet_32 : decode cX12_sheet 32 = .ok (.iload_n 3, 1) := by decide +kernel
theorem dX12_sheet_33 : decode cX12_sheet 33 = .ok (.ifCond .ge 6, 3) := by decide +kernel
theorem dX12_sheet_36 : decode cX12_sheet 36 = .ok (.bipush (-14), 2) := by decide +kernel
theorem dX12_sheet_38 : decode cX12_sheet 38 = .ok (.ireturn, 1) := by decide +kernel
theorem dX12_sheet_39 : decode cX12_sheet 39 = .ok (.aload_n 0, 1) := by decide +kernel
theorem dX12_sheet_40 : decode cX12_sheet 40 = .ok (.getfield 68, 3) := by decide +kernel
theorem dX12_sheet_43 : decode cX12_sheet 43 = .ok (.iload_n 1, 1) := by decide +kernel
theorem dX12_sheet_44 : decode cX12_sheet 44 = .ok (.iload_n 2, 1) := by decide +kernel
theorem dX12_sheet_45 : decode cX12_sheet 45 = .ok (.iastore, 1) := by decide +kernel
theorem dX12_sheet_46 : decode cX12_sheet 46 = .ok (.aload_n 0, 1) := by decide +kernel
theorem dX12_sheet_47 : decode cX12_sheet 47 = .ok (.getfield 71, 3) := by decide +kernel
theorem dX12_sheet_50 : decode cX12_sheet 50 = .ok (.iload_n 1, 1) := by decide +kernel
theorem dX12_sheet_51 : decode cX12_sheet 51 = .ok (.iload_n 2, 1) := by decide +kernel
theorem dX12_sheet_52 : decode cX12_sheet 52 = .ok (.ifCond .ge 7, 3) := by decide +kernel
theorem dX12_sheet_55 : decode cX12_sheet 55 = .ok (.iconst 0, 1) := by decide +kernel
theorem dX12_sheet_56 : decode cX12_sheet 56 = .ok (.goto 4, 3) := by decide +kernel
theorem dX12_sheet_59 : decode cX12_sheet 59 = .ok (.iload_n 3, 1) := by decide +kernel
theorem dX12_sheet_60 : decode cX12_sheet 60 = .ok (.iastore, 1) := by decide +kernel
theorem dX12_sheet_61 : decode cX12_sheet 61 = .ok (.iconst 0, 1) := by decide +kernel
theorem dX12_sheet_62 : decode cX12_sheet 62 = .ok (.istore 4, 2) := by decide +kernel
theorem dX12_sheet_64 : decode cX12_sheet 64 = .ok (.iload 4, 2) := by decide +kernel
theorem dX12_sheet_66 : decode cX12_sheet 66 = .ok (.bipush 40, 2) := by decide +kernel
theorem dX12_sheet_68 : decode cX12_sheet 68 = .ok (.if_icmp .ge 22, 3) := by decide +kernel
theorem dX12_sheet_71 : decode cX12_sheet 71 = .ok (.aload_n 0, 1) := by decide +kernel
theorem dX12_sheet_72 : decode cX12_sheet 72 = .ok (.getfield 74, 3) := by decide +kernel
theorem dX12_sheet_75 : decode cX12_sheet 75 = .ok (.bipush 40, 2) := by decide +kernel
theorem dX12_sheet_77 : decode cX12_sheet 77 = .ok (.iload_n 1, 1) := by decide +kernel
theorem dX12_sheet_78 : decode cX12_sheet 78 = .ok (.imul, 1) := by decide +kernel
theorem dX12_sheet_79 : decode cX12_sheet 79 = .ok (.iload 4, 2) := by decide +kernel
theorem dX12_sheet_81 : decode cX12_sheet 81 = .ok (.iadd, 1) := by decide +kernel
theorem dX12_sheet_82 : decode cX12_sheet 82 = .ok (.lconst 0, 1) := by decide +kernel
theorem dX12_sheet_83 : decode cX12_sheet 83 = .ok (.lastore, 1) := by decide +kernel
theorem dX12_sheet_84 : decode cX12_sheet 84 = .ok (.iinc 4 1, 3) := by decide +kernel
theorem dX12_sheet_87 : decode cX12_sheet 87 = .ok (.goto (-23), 3) := by decide +kernel
theorem dX12_sheet_90 : decode cX12_sheet 90 = .ok (.iconst 1, 1) := by decide +kernel
theorem dX12_sheet_91 : decode cX12_sheet 91 = .ok (.ireturn, 1) := by decide +kernel
theorem dX12_put_0 : decode cX12_put 0 = .ok (.iload_n 1, 1) := by decide +kernel
theorem dX12_put_1 : decode cX12_put 1 = .ok (.invokestatic 346, 3) := by decide +kernel
theorem dX12_put_4 : decode cX12_put 4 = .ok (.ifCond .ne 5, 3) := by decide +kernel
theorem dX12_put_7 : decode cX12_put 7 = .ok (.iconst (-1), 1) := by decide +kernel
theorem dX12_put_8 : decode cX12_put 8 = .ok (.ireturn, 1) := by decide +kernel
theorem dX12_put_9 : decode cX12_put 9 = .ok (.aload_n 0, 1) := by decide +kernel
theorem dX12_put_10 : decode cX12_put 10 = .ok (.getfield 68, 3) := by decide +kernel
theorem dX12_put_13 : decode cX12_put 13 = .ok (.iload_n 1, 1) := by decide +kernel
theorem dX12_put_14 : decode cX12_put 14 = .ok (.iaload, 1) := by decide +kernel
theorem dX12_put_15 : decode cX12_put 15 = .ok (.ifCond .ge 6, 3) := by decide +kernel
theorem dX12_put_18 : decode cX12_put 18 = .ok (.bipush (-11), 2) := by decide +kernel
theorem dX12_put_20 : decode cX12_put 20 = .ok (.ireturn, 1) := by decide +kernel
theorem dX12_put_21 : decode cX12_put 21 = .ok (.iload_n 2, 1) := by decide +kernel
theorem dX12_put_22 : decode cX12_put 22 = .ok (.iconst 0, 1) := by decide +kernel
theorem dX12_put_23 : decode cX12_put 23 = .ok (.aload_n 0, 1) := by decide +kernel
theorem dX12_put_24 : decode cX12_put 24 = .ok (.getfield 71, 3) := by decide +kernel
theorem dX12_put_27 : decode cX12_put 27 = .ok (.iload_n 1, 1) := by decide +kernel
theorem dX12_put_28 : decode cX12_put 28 = .ok (.iaload, 1) := by decide +kernel
theorem dX12_put_29 : decode cX12_put 29 = .ok (.iconst 1, 1) := by decide +kernel
theorem dX12_put_30 : decode cX12_put 30 = .ok (.isub, 1) := by decide +kernel
theorem dX12_put_31 : decode cX12_put 31 = .ok (.invokestatic 99, 3) := by decide +kernel
theorem dX12_put_34 : decode cX12_put 34 = .ok (.ifCond .ne 6, 3) := by decide +kernel
theorem dX12_put_37 : decode cX12_put 37 = .ok (.bipush (-12), 2) := by decide +kernel
theorem dX12_put_39 : decode cX12_put 39 = .ok (.ireturn, 1) := by decide +kernel
theorem dX12_put_40 : decode cX12_put 40 = .ok (.aload_n 0, 1) := by decide +kernel
theorem dX12_put_41 : decode cX12_put 41 = .ok (.getfield 74, 3) := by decide +kernel
theorem dX12_put_44 : decode cX12_put 44 = .ok (.bipush 40, 2) := by decide +kernel
theorem dX12_put_46 : decode cX12_put 46 = .ok (.iload_n 1, 1) := by decide +kernel
theorem dX12_put_47 : decode cX12_put 47 = .ok (.imul, 1) := by decide +kernel
theorem dX12_put_48 : decode cX12_put 48 = .ok (.iload_n 2, 1) := by decide +kernel
theorem dX12_put_49 : decode cX12_put 49 = .ok (.iadd, 1) := by decide +kernel
theorem dX12_put_50 : decode cX12_put 50 = .ok (.aload_n 0, 1) := by decide +kernel
theorem dX12_put_51 : decode cX12_put 51 = .ok (.getfield 68, 3) := by decide +kernel
theorem dX12_put_54 : decode cX12_put 54 = .ok (.iload_n 1, 1) := by decide +kernel
theorem dX12_put_55 : decode cX12_put 55 = .ok (.iaload, 1) := by decide +kernel
theorem dX12_put_56 : decode cX12_put 56 = .ok (.ifCond .ne 9, 3) := by decide +kernel
theorem dX12_put_59 : decode cX12_put 59 = .ok (.iload_n 3, 1) := by decide +kernel
theorem dX12_put_60 : decode cX12_put 60 = .ok (.i2b, 1) := by decide +kernel
theorem dX12_put_61 : decode cX12_put 61 = .ok (.i2l, 1) := by decide +kernel
theorem dX12_put_62 : decode cX12_put 62 = .ok (.goto 21, 3) := by decide +kernel
theorem dX12_put_65 : decode cX12_put 65 = .ok (.aload_n 0, 1) := by decide +kernel
theorem dX12_put_66 : decode cX12_put 66 = .ok (.getfield 68, 3) := by decide +kernel
theorem dX12_put_69 : decode cX12_put 69 = .ok (.iload_n 1, 1) := by decide +kernel
theorem dX12_put_70 : decode cX12_put 70 = .ok (.iaload, 1) := by decide +kernel
theorem dX12_put_71 : decode cX12_put 71 = .ok (.iconst 1, 1) := by decide +kernel
theorem dX12_put_72 : decode cX12_put 72 = .ok (.if_icmp .ne 9, 3) := by decide +kernel
theorem dX12_put_75 : decode cX12_put 75 = .ok (.iload_n 3, 1) := by decide +kernel
theorem dX12_put_76 : decode cX12_put 76 = .ok (.i2s, 1) := by decide +kernel
theorem dX12_put_77 : decode cX12_put 77 = .ok (.i2l, 1) := by decide +kernel
theorem dX12_put_78 : decode cX12_put 78 = .ok (.goto 5, 3) := by decide +kernel
theorem dX12_put_81 : decode cX12_put 81 = .ok (.iload_n 3, 1) := by decide +kernel
theorem dX12_put_82 : decode cX12_put 82 = .ok (.i2l, 1) := by decide +kernel
theorem dX12_put_83 : decode cX12_put 83 = .ok (.lastore, 1) := by decide +kernel
theorem dX12_put_84 : decode cX12_put 84 = .ok (.iconst 1, 1) := by decide +kernel
theorem dX12_put_85 : decode cX12_put 85 = .ok (.ireturn, 1) := by decide +kernel
theorem dX12_lacksSort_0 : decode cX12_lacksSort 0 = .ok (.aload_n 0, 1) := by decide +kernel
theorem dX12_lacksSort_1 : decode cX12_lacksSort 1 = .ok (.getfield 68, 3) := by decide +kernel
theorem dX12_lacksSort_4 : decode cX12_lacksSort 4 = .ok (.iload_n 1, 1) := by decide +kernel
theorem dX12_lacksSort_5 : decode cX12_lacksSort 5 = .ok (.iaload, 1) := by decide +kernel
theorem dX12_lacksSort_6 : decode cX12_lacksSort 6 = .ok (.ifCond .ge 8, 3) := by decide +kernel
theorem dX12_lacksSort_9 : decode cX12_lacksSort 9 = .ok (.bipush (-11), 2) := by decide +kernel
theorem dX12_lacksSort_11 : decode cX12_lacksSort 11 = .ok (.goto 19, 3) := by decide +kernel
theorem dX12_lacksSort_14 : decode cX12_lacksSort 14 = .ok (.aload_n 0, 1) := by decide +kernel
theorem dX12_lacksSort_15 : decode cX12_lacksSort 15 = .ok (.getfield 68, 3) := by decide +kernel
theorem dX12_lacksSort_18 : decode cX12_lacksSort 18 = .ok (.iload_n 1, 1) := by decide +kernel
theorem dX12_lacksSort_19 : decode cX12_lacksSort 19 = .ok (.iaload, 1) := by decide +kernel
theorem dX12_lacksSort_20 : decode cX12_lacksSort 20 = .ok (.iload_n 2, 1) := by decide +kernel
theorem dX12_lacksSort_21 : decode cX12_lacksSort 21 = .ok (.if_icmp .eq 8, 3) := by decide +kernel
theorem dX12_lacksSort_24 : decode cX12_lacksSort 24 = .ok (.bipush (-13), 2) := by decide +kernel
theorem dX12_lacksSort_26 : decode cX12_lacksSort 26 = .ok (.goto 4, 3) := by decide +kernel
theorem dX12_lacksSort_29 : decode cX12_lacksSort 29 = .ok (.iconst 0, 1) := by decide +kernel
theorem dX12_lacksSort_30 : decode cX12_lacksSort 30 = .ok (.ireturn, 1) := by decide +kernel
theorem dX12_item_0 : decode cX12_item 0 = .ok (.iload_n 1, 1) := by decide +kernel
theorem dX12_item_1 : decode cX12_item 1 = .ok (.invokestatic 346, 3) := by decide +kernel
theorem dX12_item_4 : decode cX12_item 4 = .ok (.ifCond .eq 12, 3) := by decide +kernel
theorem dX12_item_7 : decode cX12_item 7 = .ok (.iload_n 2, 1) := by decide +kernel
theorem dX12_item_8 : decode cX12_item 8 = .ok (.iconst 0, 1) := by decide +kernel
theorem dX12_item_9 : decode cX12_item 9 = .ok (.iconst 3, 1) := by decide +kernel
theorem dX12_item_10 : decode cX12_item 10 = .ok (.invokestatic 99, 3) := by decide +kernel
theorem dX12_item_13 : decode cX12_item 13 = .ok (.ifCond .ne 5, 3) := by decide +kernel
theorem dX12_item_16 : decode cX12_item 16 = .ok (.iconst (-1), 1) := by decide +kernel
theorem dX12_item_17 : decode cX12_item 17 = .ok (.ireturn, 1) := by decide +kernel
theorem dX12_item_18 : decode cX12_item 18 = .ok (.aload_n 0, 1) := by decide +kernel
theorem dX12_item_19 : decode cX12_item 19 = .ok (.iload_n 1, 1) := by decide +kernel
theorem dX12_item_20 : decode cX12_item 20 = .ok (.iload_n 2, 1) := by decide +kernel
theorem dX12_item_21 : decode cX12_item 21 = .ok (.invokevirtual 349, 3) := by decide +kernel
theorem dX12_item_24 : decode cX12_item 24 = .ok (.istore 4, 2) := by decide +kernel
theorem dX12_item_26 : decode cX12_item 26 = .ok (.iload 4, 2) := by decide +kernel
theorem dX12_item_28 : decode cX12_item 28 = .ok (.ifCond .eq 6, 3) := by decide +kernel
theorem dX12_item_31 : decode cX12_item 31 = .ok (.iload 4, 2) := by decide +kernel
theorem dX12_item_33 : decode cX12_item 33 = .ok (.ireturn, 1) := by decide +kernel
theorem dX12_item_34 : decode cX12_item 34 = .ok (.iload_n 3, 1) := by decide +kernel
theorem dX12_item_35 : decode cX12_item 35 = .ok (.iconst 0, 1) := by decide +kernel
theorem dX12_item_36 : decode cX12_item 36 = .ok (.aload_n 0, 1) := by decide +kernel
theorem dX12_item_37 : decode cX12_item 37 = .ok (.getfield 71, 3) := by decide +kernel
theorem dX12_item_40 : decode cX12_item 40 = .ok (.iload_n 1, 1) := by decide +kernel
theorem dX12_item_41 : decode cX12_item 41 = .ok (.iaload, 1) := by decide +kernel
theorem dX12_item_42 : decode cX12_item 42 = .ok (.iconst 1, 1) := by decide +kernel
theorem dX12_item_43 : decode cX12_item 43 = .ok (.isub, 1) := by decide +kernel
theorem dX12_item_44 : decode cX12_item 44 = .ok (.invokestatic 99, 3) := by decide +kernel
theorem dX12_item_47 : decode cX12_item 47 = .ok (.ifCond .eq 18, 3) := by decide +kernel
theorem dX12_item_50 : decode cX12_item 50 = .ok (.aload_n 0, 1) := by decide +kernel
theorem dX12_item_51 : decode cX12_item 51 = .ok (.getfield 74, 3) := by decide +kernel
theorem dX12_item_54 : decode cX12_item 54 = .ok (.bipush 40, 2) := by decide +kernel
theorem dX12_item_56 : decode cX12_item 56 = .ok (.iload_n 1, 1) := by decide +kernel
theorem dX12_item_57 : decode cX12_item 57 = .ok (.imul, 1) := by decide +kernel
theorem dX12_item_58 : decode cX12_item 58 = .ok (.iload_n 3, 1) := by decide +kernel
theorem dX12_item_59 : decode cX12_item 59 = .ok (.iadd, 1) := by decide +kernel
theorem dX12_item_60 : decode cX12_item 60 = .ok (.laload, 1) := by decide +kernel
theorem dX12_item_61 : decode cX12_item 61 = .ok (.l2i, 1) := by decide +kernel
theorem dX12_item_62 : decode cX12_item 62 = .ok (.goto 5, 3) := by decide +kernel
theorem dX12_item_65 : decode cX12_item 65 = .ok (.bipush (-12), 2) := by decide +kernel
theorem dX12_item_67 : decode cX12_item 67 = .ok (.ireturn, 1) := by decide +kernel
theorem dX12_isHeld_0 : decode cX12_isHeld 0 = .ok (.iload_n 1, 1) := by decide +kernel
theorem dX12_isHeld_1 : decode cX12_isHeld 1 = .ok (.ifCond .ne 11, 3) := by decide +kernel
theorem dX12_isHeld_4 : decode cX12_isHeld 4 = .ok (.aload_n 0, 1) := by decide +kernel
theorem dX12_isHeld_5 : decode cX12_isHeld 5 = .ok (.iload_n 2, 1) := by decide +kernel
theorem dX12_isHeld_6 : decode cX12_isHeld 6 = .ok (.invokevirtual 239, 3) := by decide +kernel
theorem dX12_isHeld_9 : decode cX12_isHeld 9 = .ok (.goto 25, 3) := by decide +kernel
theorem dX12_isHeld_12 : decode cX12_isHeld 12 = .ok (.iload_n 1, 1) := by decide +kernel
theorem dX12_isHeld_13 : decode cX12_isHeld 13 = .ok (.iconst 1, 1) := by decide +kernel
theorem dX12_isHeld_14 : decode cX12_isHeld 14 = .ok (.if_icmp .ne 10, 3) := by decide +kernel
theorem dX12_isHeld_17 : decode cX12_isHeld 17 = .ok (.iload_n 2, 1) := by decide +kernel
theorem dX12_isHeld_18 : decode cX12_isHeld 18 = .ok (.invokestatic 346, 3) := by decide +kernel
theorem dX12_isHeld_21 : decode cX12_isHeld 21 = .ok (.goto 13, 3) := by decide +kernel
theorem dX12_isHeld_24 : decode cX12_isHeld 24 = .ok (.iload_n 1, 1) := by decide +kernel
theorem dX12_isHeld_25 : decode cX12_isHeld 25 = .ok (.iconst 2, 1) := by decide +kernel
theorem dX12_isHeld_26 : decode cX12_isHeld 26 = .ok (.if_icmp .ne 7, 3) := by decide +kernel
theorem dX12_isHeld_29 : decode cX12_isHeld 29 = .ok (.iconst 1, 1) := by decide +kernel
theorem dX12_isHeld_30 : decode cX12_isHeld 30 = .ok (.goto 4, 3) := by decide +kernel
theorem dX12_isHeld_33 : decode cX12_isHeld 33 = .ok (.iconst 0, 1) := by decide +kernel
theorem dX12_isHeld_34 : decode cX12_isHeld 34 = .ok (.ireturn, 1) := by decide +kernel
theorem dX12_shelf_0 : decode cX12_shelf 0 = .ok (.iload_n 1, 1) := by decide +kernel
theorem dX12_shelf_1 : decode cX12_shelf 1 = .ok (.invokestatic 346, 3) := by decide +kernel
theorem dX12_shelf_4 : decode cX12_shelf 4 = .ok (.ifCond .eq 12, 3) := by decide +kernel
theorem dX12_shelf_7 : decode cX12_shelf 7 = .ok (.aload_n 0, 1) := by decide +kernel
theorem dX12_shelf_8 : decode cX12_shelf 8 = .ok (.iload_n 2, 1) := by decide +kernel
theorem dX12_shelf_9 : decode cX12_shelf 9 = .ok (.iload_n 3, 1) := by decide +kernel
theorem dX12_shelf_10 : decode cX12_shelf 10 = .ok (.invokevirtual 352, 3) := by decide +kernel
theorem dX12_shelf_13 : decode cX12_shelf 13 = .ok (.ifCond .ne 5, 3) := by decide +kernel
theorem dX12_shelf_16 : decode cX12_shelf 16 = .ok (.iconst (-1), 1) := by decide +kernel
theorem dX12_shelf_17 : decode cX12_shelf 17 = .ok (.ireturn, 1) := by decide +kernel
theorem dX12_shelf_18 : decode cX12_shelf 18 = .ok (.aload_n 0, 1) := by decide +kernel
theorem dX12_shelf_19 : decode cX12_shelf 19 = .ok (.getfield 78, 3) := by decide +kernel
theorem dX12_shelf_22 : decode cX12_shelf 22 = .ok (.iload_n 1, 1) := by decide +kernel
theorem dX12_shelf_23 : decode cX12_shelf 23 = .ok (.iload_n 2, 1) := by decide +kernel
theorem dX12_shelf_24 : decode cX12_shelf 24 = .ok (.iconst 2, 1) := by decide +kernel
theorem dX12_shelf_25 : decode cX12_shelf 25 = .ok (.if_icmp .eq 17, 3) := by decide +kernel
theorem dX12_shelf_28 : decode cX12_shelf 28 = .ok (.iload_n 2, 1) := by decide +kernel
theorem dX12_shelf_29 : decode cX12_shelf 29 = .ok (.iconst 1, 1) := by decide +kernel
theorem dX12_shelf_30 : decode cX12_shelf 30 = .ok (.if_icmp .ne 16, 3) := by decide +kernel
theorem dX12_shelf_33 : decode cX12_shelf 33 = .ok (.aload_n 0, 1) := by decide +kernel
theorem dX12_shelf_34 : decode cX12_shelf 34 = .ok (.getfield 68, 3) := by decide +kernel
theorem dX12_shelf_37 : decode cX12_shelf 37 = .ok (.iload_n 3, 1) := by decide +kernel
theorem dX12_shelf_38 : decode cX12_shelf 38 = .ok (.iaload, 1) := by decide +kernel
theorem dX12_shelf_39 : decode cX12_shelf 39 = .ok (.ifCond .ge 7, 3) := by decide +kernel
theorem dX12_shelf_42 : decode cX12_shelf 42 = .ok (.iconst (-1), 1) := by decide +kernel
theorem dX12_shelf_43 : decode cX12_shelf 43 = .ok (.goto 4, 3) := by decide +kernel
theorem dX12_shelf_46 : decode cX12_shelf 46 = .ok (.iload_n 2, 1) := by decide +kernel
theorem dX12_shelf_47 : decode cX12_shelf 47 = .ok (.iastore, 1) := by decide +kernel
theorem dX12_shelf_48 : decode cX12_shelf 48 = .ok (.aload_n 0, 1) := by decide +kernel
theorem dX12_shelf_49 : decode cX12_shelf 49 = .ok (.getfield 81, 3) := by decide +kernel
theorem dX12_shelf_52 : decode cX12_shelf 52 = .ok (.iload_n 1, 1) := by decide +kernel
theorem dX12_shelf_53 : decode cX12_shelf 53 = .ok (.iload_n 2, 1) := by decide +kernel
theorem dX12_shelf_54 : decode cX12_shelf 54 = .ok (.iconst 1, 1) := by decide +kernel
theorem dX12_shelf_55 : decode cX12_shelf 55 = .ok (.if_icmp .ne 12, 3) := by decide +kernel
theorem dX12_shelf_58 : decode cX12_shelf 58 = .ok (.aload_n 0, 1) := by decide +kernel
theorem dX12_shelf_59 : decode cX12_shelf 59 = .ok (.getfield 68, 3) := by decide +kernel
theorem dX12_shelf_62 : decode cX12_shelf 62 = .ok (.iload_n 3, 1) := by decide +kernel
theorem dX12_shelf_63 : decode cX12_shelf 63 = .ok (.iaload, 1) := by decide +kernel
theorem dX12_shelf_64 : decode cX12_shelf 64 = .ok (.goto 4, 3) := by decide +kernel
theorem dX12_shelf_67 : decode cX12_shelf 67 = .ok (.iload_n 3, 1) := by decide +kernel
theorem dX12_shelf_68 : decode cX12_shelf 68 = .ok (.iastore, 1) := by decide +kernel
theorem dX12_shelf_69 : decode cX12_shelf 69 = .ok (.aload_n 0, 1) := by decide +kernel
theorem dX12_shelf_70 : decode cX12_shelf 70 = .ok (.getfield 84, 3) := by decide +kernel
theorem dX12_shelf_73 : decode cX12_shelf 73 = .ok (.iload_n 1, 1) := by decide +kernel
theorem dX12_shelf_74 : decode cX12_shelf 74 = .ok (.iload_n 2, 1) := by decide +kernel
theorem dX12_shelf_75 : decode cX12_shelf 75 = .ok (.iconst 1, 1) := by decide +kernel
theorem dX12_shelf_76 : decode cX12_shelf 76 = .ok (.if_icmp .ne 12, 3) := by decide +kernel
theorem dX12_shelf_79 : decode cX12_shelf 79 = .ok (.aload_n 0, 1) := by decide +kernel
theorem dX12_shelf_80 : decode cX12_shelf 80 = .ok (.getfield 71, 3) := by decide +kernel
theorem dX12_shelf_83 : decode cX12_shelf 83 = .ok (.iload_n 3, 1) := by decide +kernel
theorem dX12_shelf_84 : decode cX12_shelf 84 = .ok (.iaload, 1) := by decide +kernel
theorem dX12_shelf_85 : decode cX12_shelf 85 = .ok (.goto 4, 3) := by decide +kernel
theorem dX12_shelf_88 : decode cX12_shelf 88 = .ok (.iconst 0, 1) := by decide +kernel
theorem dX12_shelf_89 : decode cX12_shelf 89 = .ok (.iastore, 1) := by decide +kernel
theorem dX12_shelf_90 : decode cX12_shelf 90 = .ok (.iconst 1, 1) := by decide +kernel
theorem dX12_shelf_91 : decode cX12_shelf 91 = .ok (.ireturn, 1) := by decide +kernel
theorem dX12_kindOn_0 : decode cX12_kindOn 0 = .ok (.aload_n 0, 1) := by decide +kernel
theorem dX12_kindOn_1 : decode cX12_kindOn 1 = .ok (.getfield 78, 3) := by decide +kernel
theorem dX12_kindOn_4 : decode cX12_kindOn 4 = .ok (.iload_n 1, 1) := by decide +kernel
theorem dX12_kindOn_5 : decode cX12_kindOn 5 = .ok (.iaload, 1) := by decide +kernel
theorem dX12_kindOn_6 : decode cX12_kindOn 6 = .ok (.ifCond .eq 19, 3) := by decide +kernel
theorem dX12_kindOn_9 : decode cX12_kindOn 9 = .ok (.aload_n 0, 1) := by decide +kernel
theorem dX12_kindOn_10 : decode cX12_kindOn 10 = .ok (.getfield 78, 3) := by decide +kernel
theorem dX12_kindOn_13 : decode cX12_kindOn 13 = .ok (.iload_n 1, 1) := by decide +kernel
theorem dX12_kindOn_14 : decode cX12_kindOn 14 = .ok (.iaload, 1) := by decide +kernel
theorem dX12_kindOn_15 : decode cX12_kindOn 15 = .ok (.ifCond .ge 7, 3) := by decide +kernel
theorem dX12_kindOn_18 : decode cX12_kindOn 18 = .ok (.iconst (-1), 1) := by decide +kernel
theorem dX12_kindOn_19 : decode cX12_kindOn 19 = .ok (.goto 5, 3) := by decide +kernel
theorem dX12_kindOn_22 : decode cX12_kindOn 22 = .ok (.bipush 9, 2) := by decide +kernel
theorem dX12_kindOn_24 : decode cX12_kindOn 24 = .ok (.ireturn, 1) := by decide +kernel
theorem dX12_kindOn_25 : decode cX12_kindOn 25 = .ok (.aload_n 0, 1) := by decide +kernel
theorem dX12_kindOn_26 : decode cX12_kindOn 26 = .ok (.aload_n 0, 1) := by decide +kernel
theorem dX12_kindOn_27 : decode cX12_kindOn 27 = .ok (.getfield 81, 3) := by decide +kernel
theorem dX12_kindOn_30 : decode cX12_kindOn 30 = .ok (.iload_n 1, 1) := by decide +kernel
theorem dX12_kindOn_31 : decode cX12_kindOn 31 = .ok (.iaload, 1) := by decide +kernel
theorem dX12_kindOn_32 : decode cX12_kindOn 32 = .ok (.invokevirtual 239, 3) := by decide +kernel
theorem dX12_kindOn_35 : decode cX12_kindOn 35 = .ok (.ifCond .eq 17, 3) := by decide +kernel
theorem dX12_kindOn_38 : decode cX12_kindOn 38 = .ok (.aload_n 0, 1) := by decide +kernel
theorem dX12_kindOn_39 : decode cX12_kindOn 39 = .ok (.aload_n 0, 1) := by decide +kernel
theorem dX12_kindOn_40 : decode cX12_kindOn 40 = .ok (.getfield 81, 3) := by decide +kernel
theorem dX12_kindOn_43 : decode cX12_kindOn 43 = .ok (.iload_n 1, 1) := by decide +kernel
theorem dX12_kindOn_44 : decode cX12_kindOn 44 = .ok (.iaload, 1) := by decide +kernel
theorem dX12_kindOn_45 : decode cX12_kindOn 45 = .ok (.iconst 0, 1) := by decide +kernel
theorem dX12_kindOn_46 : decode cX12_kindOn 46 = .ok (.invokevirtual 242, 3) := by decide +kernel
theorem dX12_kindOn_49 : decode cX12_kindOn 49 = .ok (.goto 4, 3) := by decide +kernel
theorem dX12_kindOn_52 : decode cX12_kindOn 52 = .ok (.iconst (-1), 1) := by decide +kernel
theorem dX12_kindOn_53 : decode cX12_kindOn 53 = .ok (.ireturn, 1) := by decide +kernel
theorem dX12_isUnder_0 : decode cX12_isUnder 0 = .ok (.iload_n 1, 1) := by decide +kernel
theorem dX12_isUnder_1 : decode cX12_isUnder 1 = .ok (.ifCond .eq 28, 3) := by decide +kernel
theorem dX12_isUnder_4 : decode cX12_isUnder 4 = .ok (.iload_n 1, 1) := by decide +kernel
theorem dX12_isUnder_5 : decode cX12_isUnder 5 = .ok (.iload_n 0, 1) := by decide +kernel
theorem dX12_isUnder_6 : decode cX12_isUnder 6 = .ok (.if_icmp .eq 23, 3) := by decide +kernel
theorem dX12_isUnder_9 : decode cX12_isUnder 9 = .ok (.iload_n 1, 1) := by decide +kernel
theorem dX12_isUnder_10 : decode cX12_isUnder 10 = .ok (.iconst 1, 1) := by decide +kernel
theorem dX12_isUnder_11 : decode cX12_isUnder 11 = .ok (.if_icmp .ne 8, 3) := by decide +kernel
theorem dX12_isUnder_14 : decode cX12_isUnder 14 = .ok (.iload_n 0, 1) := by decide +kernel
theorem dX12_isUnder_15 : decode cX12_isUnder 15 = .ok (.iconst 4, 1) := by decide +kernel
theorem dX12_isUnder_16 : decode cX12_isUnder 16 = .ok (.if_icmp .eq 13, 3) := by decide +kernel
theorem dX12_isUnder_19 : decode cX12_isUnder 19 = .ok (.iload_n 1, 1) := by decide +kernel
theorem dX12_isUnder_20 : decode cX12_isUnder 20 = .ok (.iconst 2, 1) := by decide +kernel
theorem dX12_isUnder_21 : decode cX12_isUnder 21 = .ok (.if_icmp .ne 12, 3) := by decide +kernel
theorem dX12_isUnder_24 : decode cX12_isUnder 24 = .ok (.iload_n 0, 1) := by decide +kernel
theorem dX12_isUnder_25 : decode cX12_isUnder 25 = .ok (.iconst 3, 1) := by decide +kernel
theorem dX12_isUnder_26 : decode cX12_isUnder 26 = .ok (.if_icmp .ne 7, 3) := by decide +kernel
theorem dX12_isUnder_29 : decode cX12_isUnder 29 = .ok (.iconst 1, 1) := by decide +kernel
theorem dX12_isUnder_30 : decode cX12_isUnder 30 = .ok (.goto 4, 3) := by decide +kernel
theorem dX12_isUnder_33 : decode cX12_isUnder 33 = .ok (.iconst 0, 1) := by decide +kernel
theorem dX12_isUnder_34 : decode cX12_isUnder 34 = .ok (.ireturn, 1) := by decide +kernel
theorem dX12_taken_0 : decode cX12_taken 0 = .ok (.iload_n 1, 1) := by decide +kernel
theorem dX12_taken_1 : decode cX12_taken 1 = .ok (.invokestatic 346, 3) := by decide +kernel
theorem dX12_taken_4 : decode cX12_taken 4 = .ok (.ifCond .eq 23, 3) := by decide +kernel
theorem dX12_taken_7 : decode cX12_taken 7 = .ok (.iload_n 2, 1) := by decide +kernel
theorem dX12_taken_8 : decode cX12_taken 8 = .ok (.iconst 0, 1) := by decide +kernel
theorem dX12_taken_9 : decode cX12_taken 9 = .ok (.iconst 5, 1) := by decide +kernel
theorem dX12_taken_10 : decode cX12_taken 10 = .ok (.invokestatic 99, 3) := by decide +kernel
theorem dX12_taken_13 : decode cX12_taken 13 = .ok (.ifCond .ne 16, 3) := by decide +kernel
theorem dX12_taken_16 : decode cX12_taken 16 = .ok (.iload_n 2, 1) := by decide +kernel
theorem dX12_taken_17 : decode cX12_taken 17 = .ok (.bipush 10, 2) := by decide +kernel
theorem dX12_taken_19 : decode cX12_taken 19 = .ok (.bipush 13, 2) := by decide +kernel
theorem dX12_taken_21 : decode cX12_taken 21 = .ok (.invokestatic 99, 3) := by decide +kernel
theorem dX12_taken_24 : decode cX12_taken 24 = .ok (.ifCond .ne 5, 3) := by decide +kernel
theorem dX12_taken_27 : decode cX12_taken 27 = .ok (.iconst (-1), 1) := by decide +kernel
theorem dX12_taken_28 : decode cX12_taken 28 = .ok (.ireturn, 1) := by decide +kernel
theorem dX12_taken_29 : decode cX12_taken 29 = .ok (.aload_n 0, 1) := by decide +kernel
theorem dX12_taken_30 : decode cX12_taken 30 = .ok (.iload_n 1, 1) := by decide +kernel
theorem dX12_taken_31 : decode cX12_taken 31 = .ok (.invokevirtual 355, 3) := by decide +kernel
theorem dX12_taken_34 : decode cX12_taken 34 = .ok (.istore_n 3, 1) := by decide +kernel
theorem dX12_taken_35 : decode cX12_taken 35 = .ok (.iload_n 3, 1) := by decide +kernel
theorem dX12_taken_36 : decode cX12_taken 36 = .ok (.ifCond .ge 6, 3) := by decide +kernel
theorem dX12_taken_39 : decode cX12_taken 39 = .ok (.bipush (-11), 2) := by decide +kernel
theorem dX12_taken_41 : decode cX12_taken 41 = .ok (.ireturn, 1) := by decide +kernel
theorem dX12_taken_42 : decode cX12_taken 42 = .ok (.iload_n 3, 1) := by decide +kernel
theorem dX12_taken_43 : decode cX12_taken 43 = .ok (.bipush 9, 2) := by decide +kernel
theorem dX12_taken_45 : decode cX12_taken 45 = .ok (.if_icmp .ne 28, 3) := by decide +kernel
theorem dX12_taken_48 : decode cX12_taken 48 = .ok (.iload_n 2, 1) := by decide +kernel
theorem dX12_taken_49 : decode cX12_taken 49 = .ok (.bipush 10, 2) := by decide +kernel
theorem dX12_taken_51 : decode cX12_taken 51 = .ok (.aload_n 0, 1) := by decide +kernel
theorem dX12_taken_52 : decode cX12_taken 52 = .ok (.getfield 81, 3) := by decide +kernel
theorem dX12_taken_55 : decode cX12_taken 55 = .ok (.iload_n 1, 1) := by decide +kernel
theorem dX12_taken_56 : decode cX12_taken 56 = .ok (.iaload, 1) := by decide +kernel
theorem dX12_taken_57 : decode cX12_taken 57 = .ok (.iadd, 1) := by decide +kernel
theorem dX12_taken_58 : decode cX12_taken 58 = .ok (.if_icmp .ne 12, 3) := by decide +kernel
theorem dX12_taken_61 : decode cX12_taken 61 = .ok (.aload_n 0, 1) := by decide +kernel
theorem dX12_taken_62 : decode cX12_taken 62 = .ok (.getfield 84, 3) := by decide +kernel
theorem dX12_taken_65 : decode cX12_taken 65 = .ok (.iload_n 1, 1) := by decide +kernel
theorem dX12_taken_66 : decode cX12_taken 66 = .ok (.iaload, 1) := by decide +kernel
theorem dX12_taken_67 : decode cX12_taken 67 = .ok (.goto 5, 3) := by decide +kernel
theorem dX12_taken_70 : decode cX12_taken 70 = .ok (.bipush (-13), 2) := by decide +kernel
theorem dX12_taken_72 : decode cX12_taken 72 = .ok (.ireturn, 1) := by decide +kernel
theorem dX12_taken_73 : decode cX12_taken 73 = .ok (.iload_n 2, 1) := by decide +kernel
theorem dX12_taken_74 : decode cX12_taken 74 = .ok (.bipush 10, 2) := by decide +kernel
theorem dX12_taken_76 : decode cX12_taken 76 = .ok (.if_icmp .ge 20, 3) := by decide +kernel
theorem dX12_taken_79 : decode cX12_taken 79 = .ok (.iload_n 3, 1) := by decide +kernel
theorem dX12_taken_80 : decode cX12_taken 80 = .ok (.iload_n 2, 1) := by decide +kernel
theorem dX12_taken_81 : decode cX12_taken 81 = .ok (.invokestatic 358, 3) := by decide +kernel
theorem dX12_taken_84 : decode cX12_taken 84 = .ok (.ifCond .eq 12, 3) := by decide +kernel
theorem dX12_taken_87 : decode cX12_taken 87 = .ok (.aload_n 0, 1) := by decide +kernel
theorem dX12_taken_88 : decode cX12_taken 88 = .ok (.getfield 81, 3) := by decide +kernel
theorem dX12_taken_91 : decode cX12_taken 91 = .ok (.iload_n 1, 1) := by decide +kernel
theorem dX12_taken_92 : decode cX12_taken 92 = .ok (.iaload, 1) := by decide +kernel
theorem dX12_taken_93 : decode cX12_taken 93 = .ok (.goto 5, 3) := by decide +kernel
theorem dX12_taken_96 : decode cX12_taken 96 = .ok (.bipush (-13), 2) := by decide +kernel
theorem dX12_taken_98 : decode cX12_taken 98 = .ok (.ireturn, 1) := by decide +kernel
theorem dX12_ran_0 : decode cX12_ran 0 = .ok (.aload_n 0, 1) := by decide +kernel
theorem dX12_ran_1 : decode cX12_ran 1 = .ok (.getfield 361, 3) := by decide +kernel
theorem dX12_ran_4 : decode cX12_ran 4 = .ok (.bipush 30, 2) := by decide +kernel
theorem dX12_ran_6 : decode cX12_ran 6 = .ok (.if_icmp .ge 23, 3) := by decide +kernel
theorem dX12_ran_9 : decode cX12_ran 9 = .ok (.aload_n 0, 1) := by decide +kernel
theorem dX12_ran_10 : decode cX12_ran 10 = .ok (.getfield 87, 3) := by decide +kernel
theorem dX12_ran_13 : decode cX12_ran 13 = .ok (.aload_n 0, 1) := by decide +kernel
theorem dX12_ran_14 : decode cX12_ran 14 = .ok (.getfield 361, 3) := by decide +kernel
theorem dX12_ran_17 : decode cX12_ran 17 = .ok (.iload_n 1, 1) := by decide +kernel
theorem dX12_ran_18 : decode cX12_ran 18 = .ok (.iastore, 1) := by decide +kernel
theorem dX12_ran_19 : decode cX12_ran 19 = .ok (.aload_n 0, 1) := by decide +kernel
theorem dX12_ran_20 : decode cX12_ran 20 = .ok (.dup, 1) := by decide +kernel
theorem dX12_ran_21 : decode cX12_ran 21 = .ok (.getfield 361, 3) := by decide +kernel
theorem dX12_ran_24 : decode cX12_ran 24 = .ok (.iconst 1, 1) := by decide +kernel
theorem dX12_ran_25 : decode cX12_ran 25 = .ok (.iadd, 1) := by decide +kernel
theorem dX12_ran_26 : decode cX12_ran 26 = .ok (.putfield 361, 3) := by decide +kernel
theorem dX12_ran_29 : decode cX12_ran 29 = .ok (.return_, 1) := by decide +kernel
theorem dX12_plainPrints_0 : decode cX12_plainPrints 0 = .ok (.aload_n 0, 1) := by decide +kernel
theorem dX12_plainPrints_1 : decode cX12_plainPrints 1 = .ok (.bipush 10, 2) := by decide +kernel
theorem dX12_plainPrints_3 : decode cX12_plainPrints 3 = .ok (.invokevirtual 364, 3) := by decide +kernel
theorem dX12_plainPrints_6 : decode cX12_plainPrints 6 = .ok (.iload_n 1, 1) := by decide +kernel
theorem dX12_plainPrints_7 : decode cX12_plainPrints 7 = .ok (.aload_n 0, 1) := by decide +kernel
theorem dX12_plainPrints_8 : decode cX12_plainPrints 8 = .ok (.getfield 367, 3) := by decide +kernel
theorem dX12_plainPrints_11 : decode cX12_plainPrints 11 = .ok (.iadd, 1) := by decide +kernel
theorem dX12_plainPrints_12 : decode cX12_plainPrints 12 = .ok (.ireturn, 1) := by decide +kernel
theorem dX12_posterPrints_0 : decode cX12_posterPrints 0 = .ok (.aload_n 0, 1) := by decide +kernel
theorem dX12_posterPrints_1 : decode cX12_posterPrints 1 = .ok (.bipush 30, 2) := by decide +kernel
theorem dX12_posterPrints_3 : decode cX12_posterPrints 3 = .ok (.invokevirtual 364, 3) := by decide +kernel
theorem dX12_posterPrints_6 : decode cX12_posterPrints 6 = .ok (.aload_n 0, 1) := by decide +kernel
theorem dX12_posterPrints_7 : decode cX12_posterPrints 7 = .ok (.iload_n 1, 1) := by decide +kernel
theorem dX12_posterPrints_8 : decode cX12_posterPrints 8 = .ok (.invokevirtual 370, 3) := by decide +kernel
theorem dX12_posterPrints_11 : decode cX12_posterPrints 11 = .ok (.iconst 3, 1) := by decide +kernel
theorem dX12_posterPrints_12 : decode cX12_posterPrints 12 = .ok (.imul, 1) := by decide +kernel
theorem dX12_posterPrints_13 : decode cX12_posterPrints 13 = .ok (.ireturn, 1) := by decide +kernel
theorem dX12_printsIt_0 : decode cX12_printsIt 0 = .ok (.aload_n 0, 1) := by decide +kernel
theorem dX12_printsIt_1 : decode cX12_printsIt 1 = .ok (.getfield 373, 3) := by decide +kernel
theorem dX12_printsIt_4 : decode cX12_printsIt 4 = .ok (.tableswitch 65 2 4 #[28, 34, 51], 28) := by decide +kernel
theorem dX12_printsIt_32 : decode cX12_printsIt 32 = .ok (.aload_n 0, 1) := by decide +kernel
theorem dX12_printsIt_33 : decode cX12_printsIt 33 = .ok (.iload_n 1, 1) := by decide +kernel
theorem dX12_printsIt_34 : decode cX12_printsIt 34 = .ok (.invokevirtual 376, 3) := by decide +kernel
theorem dX12_printsIt_37 : decode cX12_printsIt 37 = .ok (.ireturn, 1) := by decide +kernel
theorem dX12_printsIt_38 : decode cX12_printsIt 38 = .ok (.aload_n 0, 1) := by decide +kernel
theorem dX12_printsIt_39 : decode cX12_printsIt 39 = .ok (.bipush 41, 2) := by decide +kernel
theorem dX12_printsIt_41 : decode cX12_printsIt 41 = .ok (.invokevirtual 364, 3) := by decide +kernel
theorem dX12_printsIt_44 : decode cX12_printsIt 44 = .ok (.aload_n 0, 1) := by decide +kernel
theorem dX12_printsIt_45 : decode cX12_printsIt 45 = .ok (.iload_n 1, 1) := by decide +kernel
theorem dX12_printsIt_46 : decode cX12_printsIt 46 = .ok (.invokevirtual 376, 3) := by decide +kernel
theorem dX12_printsIt_49 : decode cX12_printsIt 49 = .ok (.aload_n 0, 1) := by decide +kernel
theorem dX12_printsIt_50 : decode cX12_printsIt 50 = .ok (.getfield 367, 3) := by decide +kernel
theorem dX12_printsIt_53 : decode cX12_printsIt 53 = .ok (.isub, 1) := by decide +kernel
theorem dX12_printsIt_54 : decode cX12_printsIt 54 = .ok (.ireturn, 1) := by decide +kernel
theorem dX12_printsIt_55 : decode cX12_printsIt 55 = .ok (.aload_n 0, 1) := by decide +kernel
theorem dX12_printsIt_56 : decode cX12_printsIt 56 = .ok (.bipush 50, 2) := by decide +kernel
theorem dX12_printsIt_58 : decode cX12_printsIt 58 = .ok (.invokevirtual 364, 3) := by decide +kernel
theorem dX12_printsIt_61 : decode cX12_printsIt 61 = .ok (.iconst 0, 1) := by decide +kernel
theorem dX12_printsIt_62 : decode cX12_printsIt 62 = .ok (.aload_n 0, 1) := by decide +kernel
theorem dX12_printsIt_63 : decode cX12_printsIt 63 = .ok (.iload_n 1, 1) := by decide +kernel
theorem dX12_printsIt_64 : decode cX12_printsIt 64 = .ok (.invokevirtual 370, 3) := by decide +kernel
theorem dX12_printsIt_67 : decode cX12_printsIt 67 = .ok (.isub, 1) := by decide +kernel
theorem dX12_printsIt_68 : decode cX12_printsIt 68 = .ok (.ireturn, 1) := by decide +kernel
theorem dX12_printsIt_69 : decode cX12_printsIt 69 = .ok (.aload_n 0, 1) := by decide +kernel
theorem dX12_printsIt_70 : decode cX12_printsIt 70 = .ok (.iload_n 1, 1) := by decide +kernel
theorem dX12_printsIt_71 : decode cX12_printsIt 71 = .ok (.invokevirtual 370, 3) := by decide +kernel
theorem dX12_printsIt_74 : decode cX12_printsIt 74 = .ok (.ireturn, 1) := by decide +kernel
theorem dX12_plainSets_0 : decode cX12_plainSets 0 = .ok (.aload_n 0, 1) := by decide +kernel
theorem dX12_plainSets_1 : decode cX12_plainSets 1 = .ok (.bipush 11, 2) := by decide +kernel
theorem dX12_plainSets_3 : decode cX12_plainSets 3 = .ok (.invokevirtual 364, 3) := by decide +kernel
theorem dX12_plainSets_6 : decode cX12_plainSets 6 = .ok (.aload_n 0, 1) := by decide +kernel
theorem dX12_plainSets_7 : decode cX12_plainSets 7 = .ok (.iload_n 1, 1) := by decide +kernel
theorem dX12_plainSets_8 : decode cX12_plainSets 8 = .ok (.invokevirtual 379, 3) := by decide +kernel
theorem dX12_plainSets_11 : decode cX12_plainSets 11 = .ok (.iconst 2, 1) := by decide +kernel
theorem dX12_plainSets_12 : decode cX12_plainSets 12 = .ok (.imul, 1) := by decide +kernel
theorem dX12_plainSets_13 : decode cX12_plainSets 13 = .ok (.ireturn, 1) := by decide +kernel
theorem dX12_weddingSets_0 : decode cX12_weddingSets 0 = .ok (.aload_n 0, 1) := by decide +kernel
theorem dX12_weddingSets_1 : decode cX12_weddingSets 1 = .ok (.bipush 20, 2) := by decide +kernel
theorem dX12_weddingSets_3 : decode cX12_weddingSets 3 = .ok (.invokevirtual 364, 3) := by decide +kernel
theorem dX12_weddingSets_6 : decode cX12_weddingSets 6 = .ok (.aload_n 0, 1) := by decide +kernel
theorem dX12_weddingSets_7 : decode cX12_weddingSets 7 = .ok (.iload_n 1, 1) := by decide +kernel
theorem dX12_weddingSets_8 : decode cX12_weddingSets 8 = .ok (.invokevirtual 382, 3) := by decide +kernel
theorem dX12_weddingSets_11 : decode cX12_weddingSets 11 = .ok (.aload_n 0, 1) := by decide +kernel
theorem dX12_weddingSets_12 : decode cX12_weddingSets 12 = .ok (.getfield 385, 3) := by decide +kernel
theorem dX12_weddingSets_15 : decode cX12_weddingSets 15 = .ok (.isub, 1) := by decide +kernel
theorem dX12_weddingSets_16 : decode cX12_weddingSets 16 = .ok (.ireturn, 1) := by decide +kernel
theorem dX12_setsIt_0 : decode cX12_setsIt 0 = .ok (.aload_n 0, 1) := by decide +kernel
theorem dX12_setsIt_1 : decode cX12_setsIt 1 = .ok (.getfield 373, 3) := by decide +kernel
theorem dX12_setsIt_4 : decode cX12_setsIt 4 = .ok (.iconst 4, 1) := by decide +kernel
theorem dX12_setsIt_5 : decode cX12_setsIt 5 = .ok (.if_icmp .ne 26, 3) := by decide +kernel
theorem dX12_setsIt_8 : decode cX12_setsIt 8 = .ok (.aload_n 0, 1) := by decide +kernel
theorem dX12_setsIt_9 : decode cX12_setsIt 9 = .ok (.bipush 51, 2) := by decide +kernel
theorem dX12_setsIt_11 : decode cX12_setsIt 11 = .ok (.invokevirtual 364, 3) := by decide +kernel
theorem dX12_setsIt_14 : decode cX12_setsIt 14 = .ok (.aload_n 0, 1) := by decide +kernel
theorem dX12_setsIt_15 : decode cX12_setsIt 15 = .ok (.iload_n 1, 1) := by decide +kernel
theorem dX12_setsIt_16 : decode cX12_setsIt 16 = .ok (.invokevirtual 388, 3) := by decide +kernel
theorem dX12_setsIt_19 : decode cX12_setsIt 19 = .ok (.istore_n 2, 1) := by decide +kernel
theorem dX12_setsIt_20 : decode cX12_setsIt 20 = .ok (.iload_n 2, 1) := by decide +kernel
theorem dX12_setsIt_21 : decode cX12_setsIt 21 = .ok (.aload_n 0, 1) := by decide +kernel
theorem dX12_setsIt_22 : decode cX12_setsIt 22 = .ok (.aload_n 0, 1) := by decide +kernel
theorem dX12_setsIt_23 : decode cX12_setsIt 23 = .ok (.getfield 367, 3) := by decide +kernel
theorem dX12_setsIt_26 : decode cX12_setsIt 26 = .ok (.invokevirtual 379, 3) := by decide +kernel
theorem dX12_setsIt_29 : decode cX12_setsIt 29 = .ok (.iadd, 1) := by decide +kernel
theorem dX12_setsIt_30 : decode cX12_setsIt 30 = .ok (.ireturn, 1) := by decide +kernel
theorem dX12_setsIt_31 : decode cX12_setsIt 31 = .ok (.aload_n 0, 1) := by decide +kernel
theorem dX12_setsIt_32 : decode cX12_setsIt 32 = .ok (.getfield 373, 3) := by decide +kernel
theorem dX12_setsIt_35 : decode cX12_setsIt 35 = .ok (.iconst 1, 1) := by decide +kernel
theorem dX12_setsIt_36 : decode cX12_setsIt 36 = .ok (.if_icmp .ne 11, 3) := by decide +kernel
theorem dX12_setsIt_39 : decode cX12_setsIt 39 = .ok (.aload_n 0, 1) := by decide +kernel
theorem dX12_setsIt_40 : decode cX12_setsIt 40 = .ok (.iload_n 1, 1) := by decide +kernel
theorem dX12_setsIt_41 : decode cX12_setsIt 41 = .ok (.invokevirtual 388, 3) := by decide +kernel
theorem dX12_setsIt_44 : decode cX12_setsIt 44 = .ok (.goto 8, 3) := by decide +kernel
theorem dX12_setsIt_47 : decode cX12_setsIt 47 = .ok (.aload_n 0, 1) := by decide +kernel
theorem dX12_setsIt_48 : decode cX12_setsIt 48 = .ok (.iload_n 1, 1) := by decide +kernel
theorem dX12_setsIt_49 : decode cX12_setsIt 49 = .ok (.invokevirtual 382, 3) := by decide +kernel
theorem dX12_setsIt_52 : decode cX12_setsIt 52 = .ok (.ireturn, 1) := by decide +kernel
theorem dX12_plainShares_0 : decode cX12_plainShares 0 = .ok (.aload_n 0, 1) := by decide +kernel
theorem dX12_plainShares_1 : decode cX12_plainShares 1 = .ok (.bipush 12, 2) := by decide +kernel
theorem dX12_plainShares_3 : decode cX12_plainShares 3 = .ok (.invokevirtual 364, 3) := by decide +kernel
theorem dX12_plainShares_6 : decode cX12_plainShares 6 = .ok (.aload_n 0, 1) := by decide +kernel
theorem dX12_plainShares_7 : decode cX12_plainShares 7 = .ok (.getfield 385, 3) := by decide +kernel
theorem dX12_plainShares_10 : decode cX12_plainShares 10 = .ok (.aload_n 0, 1) := by decide +kernel
theorem dX12_plainShares_11 : decode cX12_plainShares 11 = .ok (.getfield 367, 3) := by decide +kernel
theorem dX12_plainShares_14 : decode cX12_plainShares 14 = .ok (.if_icmp .ne 10, 3) := by decide +kernel
theorem dX12_plainShares_17 : decode cX12_plainShares 17 = .ok (.aload_n 0, 1) := by decide +kernel
theorem dX12_plainShares_18 : decode cX12_plainShares 18 = .ok (.iconst 1, 1) := by decide +kernel
theorem dX12_plainShares_19 : decode cX12_plainShares 19 = .ok (.putfield 391, 3) := by decide +kernel
theorem dX12_plainShares_22 : decode cX12_plainShares 22 = .ok (.iconst 0, 1) := by decide +kernel
theorem dX12_plainShares_23 : decode cX12_plainShares 23 = .ok (.ireturn, 1) := by decide +kernel
theorem dX12_plainShares_24 : decode cX12_plainShares 24 = .ok (.iload_n 1, 1) := by decide +kernel
theorem dX12_plainShares_25 : decode cX12_plainShares 25 = .ok (.aload_n 0, 1) := by decide +kernel
theorem dX12_plainShares_26 : decode cX12_plainShares 26 = .ok (.getfield 385, 3) := by decide +kernel
theorem dX12_plainShares_29 : decode cX12_plainShares 29 = .ok (.aload_n 0, 1) := by decide +kernel
theorem dX12_plainShares_30 : decode cX12_plainShares 30 = .ok (.getfield 367, 3) := by decide +kernel
theorem dX12_plainShares_33 : decode cX12_plainShares 33 = .ok (.isub, 1) := by decide +kernel
theorem dX12_plainShares_34 : decode cX12_plainShares 34 = .ok (.idiv, 1) := by decide +kernel
theorem dX12_plainShares_35 : decode cX12_plainShares 35 = .ok (.ireturn, 1) := by decide +kernel
theorem dX12_sharesIt_0 : decode cX12_sharesIt 0 = .ok (.aload_n 0, 1) := by decide +kernel
theorem dX12_sharesIt_1 : decode cX12_sharesIt 1 = .ok (.getfield 373, 3) := by decide +kernel
theorem dX12_sharesIt_4 : decode cX12_sharesIt 4 = .ok (.iconst 3, 1) := by decide +kernel
theorem dX12_sharesIt_5 : decode cX12_sharesIt 5 = .ok (.if_icmp .ne 19, 3) := by decide +kernel
theorem dX12_sharesIt_8 : decode cX12_sharesIt 8 = .ok (.aload_n 0, 1) := by decide +kernel
theorem dX12_sharesIt_9 : decode cX12_sharesIt 9 = .ok (.bipush 40, 2) := by decide +kernel
theorem dX12_sharesIt_11 : decode cX12_sharesIt 11 = .ok (.invokevirtual 364, 3) := by decide +kernel
theorem dX12_sharesIt_14 : decode cX12_sharesIt 14 = .ok (.aload_n 0, 1) := by decide +kernel
theorem dX12_sharesIt_15 : decode cX12_sharesIt 15 = .ok (.iload_n 1, 1) := by decide +kernel
theorem dX12_sharesIt_16 : decode cX12_sharesIt 16 = .ok (.iconst 2, 1) := by decide +kernel
theorem dX12_sharesIt_17 : decode cX12_sharesIt 17 = .ok (.iadd, 1) := by decide +kernel
theorem dX12_sharesIt_18 : decode cX12_sharesIt 18 = .ok (.invokevirtual 394, 3) := by decide +kernel
theorem dX12_sharesIt_21 : decode cX12_sharesIt 21 = .ok (.iconst 1, 1) := by decide +kernel
theorem dX12_sharesIt_22 : decode cX12_sharesIt 22 = .ok (.ixor, 1) := by decide +kernel
theorem dX12_sharesIt_23 : decode cX12_sharesIt 23 = .ok (.ireturn, 1) := by decide +kernel
theorem dX12_sharesIt_24 : decode cX12_sharesIt 24 = .ok (.aload_n 0, 1) := by decide +kernel
theorem dX12_sharesIt_25 : decode cX12_sharesIt 25 = .ok (.getfield 373, 3) := by decide +kernel
theorem dX12_sharesIt_28 : decode cX12_sharesIt 28 = .ok (.iconst 5, 1) := by decide +kernel
theorem dX12_sharesIt_29 : decode cX12_sharesIt 29 = .ok (.if_icmp .ne 37, 3) := by decide +kernel
theorem dX12_sharesIt_32 : decode cX12_sharesIt 32 = .ok (.aload_n 0, 1) := by decide +kernel
theorem dX12_sharesIt_33 : decode cX12_sharesIt 33 = .ok (.bipush 61, 2) := by decide +kernel
theorem dX12_sharesIt_35 : decode cX12_sharesIt 35 = .ok (.invokevirtual 364, 3) := by decide +kernel
theorem dX12_sharesIt_38 : decode cX12_sharesIt 38 = .ok (.aload_n 0, 1) := by decide +kernel
theorem dX12_sharesIt_39 : decode cX12_sharesIt 39 = .ok (.iload_n 1, 1) := by decide +kernel
theorem dX12_sharesIt_40 : decode cX12_sharesIt 40 = .ok (.invokevirtual 394, 3) := by decide +kernel
theorem dX12_sharesIt_43 : decode cX12_sharesIt 43 = .ok (.istore_n 2, 1) := by decide +kernel
theorem dX12_sharesIt_44 : decode cX12_sharesIt 44 = .ok (.aload_n 0, 1) := by decide +kernel
theorem dX12_sharesIt_45 : decode cX12_sharesIt 45 = .ok (.getfield 391, 3) := by decide +kernel
theorem dX12_sharesIt_48 : decode cX12_sharesIt 48 = .ok (.ifCond .eq 7, 3) := by decide +kernel
theorem dX12_sharesIt_51 : decode cX12_sharesIt 51 = .ok (.iconst 0, 1) := by decide +kernel
theorem dX12_sharesIt_52 : decode cX12_sharesIt 52 = .ok (.goto 13, 3) := by decide +kernel
theorem dX12_sharesIt_55 : decode cX12_sharesIt 55 = .ok (.iload_n 2, 1) := by decide +kernel
theorem dX12_sharesIt_56 : decode cX12_sharesIt 56 = .ok (.aload_n 0, 1) := by decide +kernel
theorem dX12_sharesIt_57 : decode cX12_sharesIt 57 = .ok (.aload_n 0, 1) := by decide +kernel
theorem dX12_sharesIt_58 : decode cX12_sharesIt 58 = .ok (.getfield 385, 3) := by decide +kernel
theorem dX12_sharesIt_61 : decode cX12_sharesIt 61 = .ok (.invokevirtual 379, 3) := by decide +kernel
theorem dX12_sharesIt_64 : decode cX12_sharesIt 64 = .ok (.iadd, 1) := by decide +kernel
theorem dX12_sharesIt_65 : decode cX12_sharesIt 65 = .ok (.ireturn, 1) := by decide +kernel
theorem dX12_sharesIt_66 : decode cX12_sharesIt 66 = .ok (.aload_n 0, 1) := by decide +kernel
theorem dX12_sharesIt_67 : decode cX12_sharesIt 67 = .ok (.iload_n 1, 1) := by decide +kernel
theorem dX12_sharesIt_68 : decode cX12_sharesIt 68 = .ok (.invokevirtual 394, 3) := by decide +kernel
theorem dX12_sharesIt_71 : decode cX12_sharesIt 71 = .ok (.ireturn, 1) := by decide +kernel
theorem dX12_plainTells_0 : decode cX12_plainTells 0 = .ok (.aload_n 0, 1) := by decide +kernel
theorem dX12_plainTells_1 : decode cX12_plainTells 1 = .ok (.bipush 13, 2) := by decide +kernel
theorem dX12_plainTells_3 : decode cX12_plainTells 3 = .ok (.invokevirtual 364, 3) := by decide +kernel
theorem dX12_plainTells_6 : decode cX12_plainTells 6 = .ok (.aload_n 0, 1) := by decide +kernel
theorem dX12_plainTells_7 : decode cX12_plainTells 7 = .ok (.iload_n 1, 1) := by decide +kernel
theorem dX12_plainTells_8 : decode cX12_plainTells 8 = .ok (.invokevirtual 397, 3) := by decide +kernel
theorem dX12_plainTells_11 : decode cX12_plainTells 11 = .ok (.aload_n 0, 1) := by decide +kernel
theorem dX12_plainTells_12 : decode cX12_plainTells 12 = .ok (.getfield 385, 3) := by decide +kernel
theorem dX12_plainTells_15 : decode cX12_plainTells 15 = .ok (.ixor, 1) := by decide +kernel
theorem dX12_plainTells_16 : decode cX12_plainTells 16 = .ok (.ireturn, 1) := by decide +kernel
theorem dX12_tellsIt_0 : decode cX12_tellsIt 0 = .ok (.aload_n 0, 1) := by decide +kernel
theorem dX12_tellsIt_1 : decode cX12_tellsIt 1 = .ok (.getfield 373, 3) := by decide +kernel
theorem dX12_tellsIt_4 : decode cX12_tellsIt 4 = .ok (.iconst 2, 1) := by decide +kernel
theorem dX12_tellsIt_5 : decode cX12_tellsIt 5 = .ok (.if_icmp .eq 11, 3) := by decide +kernel
theorem dX12_tellsIt_8 : decode cX12_tellsIt 8 = .ok (.aload_n 0, 1) := by decide +kernel
theorem dX12_tellsIt_9 : decode cX12_tellsIt 9 = .ok (.getfield 373, 3) := by decide +kernel
theorem dX12_tellsIt_12 : decode cX12_tellsIt 12 = .ok (.iconst 3, 1) := by decide +kernel
theorem dX12_tellsIt_13 : decode cX12_tellsIt 13 = .ok (.if_icmp .ne 26, 3) := by decide +kernel
theorem dX12_tellsIt_16 : decode cX12_tellsIt 16 = .ok (.aload_n 0, 1) := by decide +kernel
theorem dX12_tellsIt_17 : decode cX12_tellsIt 17 = .ok (.bipush 31, 2) := by decide +kernel
theorem dX12_tellsIt_19 : decode cX12_tellsIt 19 = .ok (.invokevirtual 364, 3) := by decide +kernel
theorem dX12_tellsIt_22 : decode cX12_tellsIt 22 = .ok (.aload_n 0, 1) := by decide +kernel
theorem dX12_tellsIt_23 : decode cX12_tellsIt 23 = .ok (.iload_n 1, 1) := by decide +kernel
theorem dX12_tellsIt_24 : decode cX12_tellsIt 24 = .ok (.invokevirtual 400, 3) := by decide +kernel
theorem dX12_tellsIt_27 : decode cX12_tellsIt 27 = .ok (.istore_n 2, 1) := by decide +kernel
theorem dX12_tellsIt_28 : decode cX12_tellsIt 28 = .ok (.iload_n 2, 1) := by decide +kernel
theorem dX12_tellsIt_29 : decode cX12_tellsIt 29 = .ok (.aload_n 0, 1) := by decide +kernel
theorem dX12_tellsIt_30 : decode cX12_tellsIt 30 = .ok (.aload_n 0, 1) := by decide +kernel
theorem dX12_tellsIt_31 : decode cX12_tellsIt 31 = .ok (.getfield 367, 3) := by decide +kernel
theorem dX12_tellsIt_34 : decode cX12_tellsIt 34 = .ok (.invokevirtual 403, 3) := by decide +kernel
theorem dX12_tellsIt_37 : decode cX12_tellsIt 37 = .ok (.iadd, 1) := by decide +kernel
theorem dX12_tellsIt_38 : decode cX12_tellsIt 38 = .ok (.ireturn, 1) := by decide +kernel
theorem dX12_tellsIt_39 : decode cX12_tellsIt 39 = .ok (.aload_n 0, 1) := by decide +kernel
theorem dX12_tellsIt_40 : decode cX12_tellsIt 40 = .ok (.getfield 373, 3) := by decide +kernel
theorem dX12_tellsIt_43 : decode cX12_tellsIt 43 = .ok (.iconst 5, 1) := by decide +kernel
theorem dX12_tellsIt_44 : decode cX12_tellsIt 44 = .ok (.if_icmp .ne 17, 3) := by decide +kernel
theorem dX12_tellsIt_47 : decode cX12_tellsIt 47 = .ok (.aload_n 0, 1) := by decide +kernel
theorem dX12_tellsIt_48 : decode cX12_tellsIt 48 = .ok (.bipush 60, 2) := by decide +kernel
theorem dX12_tellsIt_50 : decode cX12_tellsIt 50 = .ok (.invokevirtual 364, 3) := by decide +kernel
theorem dX12_tellsIt_53 : decode cX12_tellsIt 53 = .ok (.aload_n 0, 1) := by decide +kernel
theorem dX12_tellsIt_54 : decode cX12_tellsIt 54 = .ok (.iload_n 1, 1) := by decide +kernel
theorem dX12_tellsIt_55 : decode cX12_tellsIt 55 = .ok (.invokevirtual 400, 3) := by decide +kernel
theorem dX12_tellsIt_58 : decode cX12_tellsIt 58 = .ok (.iconst 2, 1) := by decide +kernel
theorem dX12_tellsIt_59 : decode cX12_tellsIt 59 = .ok (.imul, 1) := by decide +kernel
theorem dX12_tellsIt_60 : decode cX12_tellsIt 60 = .ok (.ireturn, 1) := by decide +kernel
theorem dX12_tellsIt_61 : decode cX12_tellsIt 61 = .ok (.aload_n 0, 1) := by decide +kernel
theorem dX12_tellsIt_62 : decode cX12_tellsIt 62 = .ok (.iload_n 1, 1) := by decide +kernel
theorem dX12_tellsIt_63 : decode cX12_tellsIt 63 = .ok (.invokevirtual 400, 3) := by decide +kernel
theorem dX12_tellsIt_66 : decode cX12_tellsIt 66 = .ok (.ireturn, 1) := by decide +kernel
theorem dX12_act_0 : decode cX12_act 0 = .ok (.aload_n 0, 1) := by decide +kernel
theorem dX12_act_1 : decode cX12_act 1 = .ok (.iconst 0, 1) := by decide +kernel
theorem dX12_act_2 : decode cX12_act 2 = .ok (.putfield 361, 3) := by decide +kernel
theorem dX12_act_5 : decode cX12_act 5 = .ok (.iload_n 1, 1) := by decide +kernel
theorem dX12_act_6 : decode cX12_act 6 = .ok (.invokestatic 346, 3) := by decide +kernel
theorem dX12_act_9 : decode cX12_act 9 = .ok (.ifCond .eq 11, 3) := by decide +kernel
theorem dX12_act_12 : decode cX12_act 12 = .ok (.aload_n 0, 1) := by decide +kernel
theorem dX12_act_13 : decode cX12_act 13 = .ok (.iload_n 1, 1) := by decide +kernel
theorem dX12_act_14 : decode cX12_act 14 = .ok (.invokevirtual 355, 3) := by decide +kernel
theorem dX12_act_17 : decode cX12_act 17 = .ok (.goto 4, 3) := by decide +kernel
theorem dX12_act_20 : decode cX12_act 20 = .ok (.iconst (-1), 1) := by decide +kernel
theorem dX12_act_21 : decode cX12_act 21 = .ok (.istore 4, 2) := by decide +kernel
theorem dX12_act_23 : decode cX12_act 23 = .ok (.iload_n 2, 1) := by decide +kernel
theorem dX12_act_24 : decode cX12_act 24 = .ok (.iconst 0, 1) := by decide +kernel
theorem dX12_act_25 : decode cX12_act 25 = .ok (.iconst 3, 1) := by decide +kernel
theorem dX12_act_26 : decode cX12_act 26 = .ok (.invokestatic 99, 3) := by decide +kernel
theorem dX12_act_29 : decode cX12_act 29 = .ok (.ifCond .eq 13, 3) := by decide +kernel
theorem dX12_act_32 : decode cX12_act 32 = .ok (.iload 4, 2) := by decide +kernel
theorem dX12_act_34 : decode cX12_act 34 = .ok (.iconst 0, 1) := by decide +kernel
theorem dX12_act_35 : decode cX12_act 35 = .ok (.iconst 5, 1) := by decide +kernel
theorem dX12_act_36 : decode cX12_act 36 = .ok (.invokestatic 99, 3) := by decide +kernel
theorem dX12_act_39 : decode cX12_act 39 = .ok (.ifCond .ne 5, 3) := by decide +kernel
theorem dX12_act_42 : decode cX12_act 42 = .ok (.iconst 0, 1) := by decide +kernel
theorem dX12_act_43 : decode cX12_act 43 = .ok (.ireturn, 1) := by decide +kernel
theorem dX12_act_44 : decode cX12_act 44 = .ok (.aload_n 0, 1) := by decide +kernel
theorem dX12_act_45 : decode cX12_act 45 = .ok (.iload 4, 2) := by decide +kernel
theorem dX12_act_47 : decode cX12_act 47 = .ok (.putfield 373, 3) := by decide +kernel
theorem dX12_act_50 : decode cX12_act 50 = .ok (.aload_n 0, 1) := by decide +kernel
theorem dX12_act_51 : decode cX12_act 51 = .ok (.aload_n 0, 1) := by decide +kernel
theorem dX12_act_52 : decode cX12_act 52 = .ok (.getfield 81, 3) := by decide +kernel
theorem dX12_act_55 : decode cX12_act 55 = .ok (.iload_n 1, 1) := by decide +kernel
theorem dX12_act_56 : decode cX12_act 56 = .ok (.iaload, 1) := by decide +kernel
theorem dX12_act_57 : decode cX12_act 57 = .ok (.putfield 367, 3) := by decide +kernel
theorem dX12_act_60 : decode cX12_act 60 = .ok (.aload_n 0, 1) := by decide +kernel
theorem dX12_act_61 : decode cX12_act 61 = .ok (.aload_n 0, 1) := by decide +kernel
theorem dX12_act_62 : decode cX12_act 62 = .ok (.aload_n 0, 1) := by decide +kernel
theorem dX12_act_63 : decode cX12_act 63 = .ok (.getfield 367, 3) := by decide +kernel
theorem dX12_act_66 : decode cX12_act 66 = .ok (.iconst 4, 1) := by decide +kernel
theorem dX12_act_67 : decode cX12_act 67 = .ok (.invokevirtual 242, 3) := by decide +kernel
theorem dX12_act_70 : decode cX12_act 70 = .ok (.putfield 385, 3) := by decide +kernel
theorem dX12_act_73 : decode cX12_act 73 = .ok (.aload_n 0, 1) := by decide +kernel
theorem dX12_act_74 : decode cX12_act 74 = .ok (.iconst 0, 1) := by decide +kernel
theorem dX12_act_75 : decode cX12_act 75 = .ok (.putfield 391, 3) := by decide +kernel
theorem dX12_act_78 : decode cX12_act 78 = .ok (.iload_n 2, 1) := by decide +kernel
theorem dX12_act_79 : decode cX12_act 79 = .ok (.ifCond .ne 11, 3) := by decide +kernel
theorem dX12_act_82 : decode cX12_act 82 = .ok (.aload_n 0, 1) := by decide +kernel
theorem dX12_act_83 : decode cX12_act 83 = .ok (.iload_n 3, 1) := by decide +kernel
theorem dX12_act_84 : decode cX12_act 84 = .ok (.invokevirtual 379, 3) := by decide +kernel
theorem dX12_act_87 : decode cX12_act 87 = .ok (.goto 34, 3) := by decide +kernel
theorem dX12_act_90 : decode cX12_act 90 = .ok (.iload_n 2, 1) := by decide +kernel
theorem dX12_act_91 : decode cX12_act 91 = .ok (.iconst 1, 1) := by decide +kernel
theorem dX12_act_92 : decode cX12_act 92 = .ok (.if_icmp .ne 11, 3) := by decide +kernel
theorem dX12_act_95 : decode cX12_act 95 = .ok (.aload_n 0, 1) := by decide +kernel
theorem dX12_act_96 : decode cX12_act 96 = .ok (.iload_n 3, 1) := by decide +kernel
theorem dX12_act_97 : decode cX12_act 97 = .ok (.invokevirtual 397, 3) := by decide +kernel
theorem dX12_act_100 : decode cX12_act 100 = .ok (.goto 21, 3) := by decide +kernel
theorem dX12_act_103 : decode cX12_act 103 = .ok (.iload_n 2, 1) := by decide +kernel
theorem dX12_act_104 : decode cX12_act 104 = .ok (.iconst 2, 1) := by decide +kernel
theorem dX12_act_105 : decode cX12_act 105 = .ok (.if_icmp .ne 11, 3) := by decide +kernel
theorem dX12_act_108 : decode cX12_act 108 = .ok (.aload_n 0, 1) := by decide +kernel
theorem dX12_act_109 : decode cX12_act 109 = .ok (.iload_n 3, 1) := by decide +kernel
theorem dX12_act_110 : decode cX12_act 110 = .ok (.invokevirtual 403, 3) := by decide +kernel
theorem dX12_act_113 : decode cX12_act 113 = .ok (.goto 8, 3) := by decide +kernel
theorem dX12_act_116 : decode cX12_act 116 = .ok (.aload_n 0, 1) := by decide +kernel
theorem dX12_act_117 : decode cX12_act 117 = .ok (.iload_n 3, 1) := by decide +kernel
theorem dX12_act_118 : decode cX12_act 118 = .ok (.invokevirtual 406, 3) := by decide +kernel
theorem dX12_act_121 : decode cX12_act 121 = .ok (.istore 5, 2) := by decide +kernel
theorem dX12_act_123 : decode cX12_act 123 = .ok (.aload_n 0, 1) := by decide +kernel
theorem dX12_act_124 : decode cX12_act 124 = .ok (.getfield 391, 3) := by decide +kernel
theorem dX12_act_127 : decode cX12_act 127 = .ok (.ifCond .eq 8, 3) := by decide +kernel
theorem dX12_act_130 : decode cX12_act 130 = .ok (.bipush (-15), 2) := by decide +kernel
theorem dX12_act_132 : decode cX12_act 132 = .ok (.goto 5, 3) := by decide +kernel
theorem dX12_act_135 : decode cX12_act 135 = .ok (.iload 5, 2) := by decide +kernel
theorem dX12_act_137 : decode cX12_act 137 = .ok (.ireturn, 1) := by decide +kernel
theorem dX12_trace_0 : decode cX12_trace 0 = .ok (.iload_n 1, 1) := by decide +kernel
theorem dX12_trace_1 : decode cX12_trace 1 = .ok (.iconst 0, 1) := by decide +kernel
theorem dX12_trace_2 : decode cX12_trace 2 = .ok (.aload_n 0, 1) := by decide +kernel
theorem dX12_trace_3 : decode cX12_trace 3 = .ok (.getfield 361, 3) := by decide +kernel
theorem dX12_trace_6 : decode cX12_trace 6 = .ok (.iconst 1, 1) := by decide +kernel
theorem dX12_trace_7 : decode cX12_trace 7 = .ok (.isub, 1) := by decide +kernel
theorem dX12_trace_8 : decode cX12_trace 8 = .ok (.invokestatic 99, 3) := by decide +kernel
theorem dX12_trace_11 : decode cX12_trace 11 = .ok (.ifCond .eq 12, 3) := by decide +kernel
theorem dX12_trace_14 : decode cX12_trace 14 = .ok (.aload_n 0, 1) := by decide +kernel
theorem dX12_trace_15 : decode cX12_trace 15 = .ok (.getfield 87, 3) := by decide +kernel
theorem dX12_trace_18 : decode cX12_trace 18 = .ok (.iload_n 1, 1) := by decide +kernel
theorem dX12_trace_19 : decode cX12_trace 19 = .ok (.iaload, 1) := by decide +kernel
theorem dX12_trace_20 : decode cX12_trace 20 = .ok (.goto 5, 3) := by decide +kernel
theorem dX12_trace_23 : decode cX12_trace 23 = .ok (.bipush (-3), 2) := by decide +kernel
theorem dX12_trace_25 : decode cX12_trace 25 = .ok (.ireturn, 1) := by decide +kernel
theorem dX12_many_0 : decode cX12_many 0 = .ok (.iload_n 1, 1) := by decide +kernel
theorem dX12_many_1 : decode cX12_many 1 = .ok (.tableswitch 60 0 4 #[35, 40, 45, 50, 55], 35) := by decide +kernel
theorem dX12_many_36 : decode cX12_many 36 = .ok (.aload_n 0, 1) := by decide +kernel
theorem dX12_many_37 : decode cX12_many 37 = .ok (.getfield 96, 3) := by decide +kernel
theorem dX12_many_40 : decode cX12_many 40 = .ok (.ireturn, 1) := by decide +kernel
theorem dX12_many_41 : decode cX12_many 41 = .ok (.aload_n 0, 1) := by decide +kernel
theorem dX12_many_42 : decode cX12_many 42 = .ok (.getfield 324, 3) := by decide +kernel
theorem dX12_many_45 : decode cX12_many 45 = .ok (.ireturn, 1) := by decide +kernel
theorem dX12_many_46 : decode cX12_many 46 = .ok (.aload_n 0, 1) := by decide +kernel
theorem dX12_many_47 : decode cX12_many 47 = .ok (.getfield 229, 3) := by decide +kernel
theorem dX12_many_50 : decode cX12_many 50 = .ok (.ireturn, 1) := by decide +kernel
theorem dX12_many_51 : decode cX12_many 51 = .ok (.aload_n 0, 1) := by decide +kernel
theorem dX12_many_52 : decode cX12_many 52 = .ok (.getfield 111, 3) := by decide +kernel
theorem dX12_many_55 : decode cX12_many 55 = .ok (.ireturn, 1) := by decide +kernel
theorem dX12_many_56 : decode cX12_many 56 = .ok (.aload_n 0, 1) := by decide +kernel
theorem dX12_many_57 : decode cX12_many 57 = .ok (.getfield 361, 3) := by decide +kernel
theorem dX12_many_60 : decode cX12_many 60 = .ok (.ireturn, 1) := by decide +kernel
theorem dX12_many_61 : decode cX12_many 61 = .ok (.iconst (-1), 1) := by decide +kernel
theorem dX12_many_62 : decode cX12_many 62 = .ok (.ireturn, 1) := by decide +kernel
theorem dX12_move_0 : decode cX12_move 0 = .ok (.iconst 0, 1) := by decide +kernel
theorem dX12_move_1 : decode cX12_move 1 = .ok (.istore 4, 2) := by decide +kernel
theorem dX12_move_3 : decode cX12_move 3 = .ok (.iload 4, 2) := by decide +kernel
theorem dX12_move_5 : decode cX12_move 5 = .ok (.iload_n 2, 1) := by decide +kernel
theorem dX12_move_6 : decode cX12_move 6 = .ok (.if_icmp .ge 52, 3) := by decide +kernel
theorem dX12_move_9 : decode cX12_move 9 = .ok (.iload_n 3, 1) := by decide +kernel
theorem dX12_move_10 : decode cX12_move 10 = .ok (.ifCond .eq 19, 3) := by decide +kernel
theorem dX12_move_13 : decode cX12_move 13 = .ok (.aload_n 0, 1) := by decide +kernel
theorem dX12_move_14 : decode cX12_move 14 = .ok (.getfield 90, 3) := by decide +kernel
theorem dX12_move_17 : decode cX12_move 17 = .ok (.aload_n 0, 1) := by decide +kernel
theorem dX12_move_18 : decode cX12_move 18 = .ok (.getfield 409, 3) := by decide +kernel
theorem dX12_move_21 : decode cX12_move 21 = .ok (.aload_n 1, 1) := by decide +kernel
theorem dX12_move_22 : decode cX12_move 22 = .ok (.iload 4, 2) := by decide +kernel
theorem dX12_move_24 : decode cX12_move 24 = .ok (.iaload, 1) := by decide +kernel
theorem dX12_move_25 : decode cX12_move 25 = .ok (.iastore, 1) := by decide +kernel
theorem dX12_move_26 : decode cX12_move 26 = .ok (.goto 16, 3) := by decide +kernel
theorem dX12_move_29 : decode cX12_move 29 = .ok (.aload_n 1, 1) := by decide +kernel
theorem dX12_move_30 : decode cX12_move 30 = .ok (.iload 4, 2) := by decide +kernel
theorem dX12_move_32 : decode cX12_move 32 = .ok (.aload_n 0, 1) := by decide +kernel
theorem dX12_move_33 : decode cX12_move 33 = .ok (.getfield 90, 3) := by decide +kernel
theorem dX12_move_36 : decode cX12_move 36 = .ok (.aload_n 0, 1) := by decide +kernel
theorem dX12_move_37 : decode cX12_move 37 = .ok (.getfield 409, 3) := by decide +kernel
theorem dX12_move_40 : decode cX12_move 40 = .ok (.iaload, 1) := by decide +kernel
theorem dX12_move_41 : decode cX12_move 41 = .ok (.iastore, 1) := by decide +kernel
theorem dX12_move_42 : decode cX12_move 42 = .ok (.aload_n 0, 1) := by decide +kernel
theorem dX12_move_43 : decode cX12_move 43 = .ok (.dup, 1) := by decide +kernel
theorem dX12_move_44 : decode cX12_move 44 = .ok (.getfield 409, 3) := by decide +kernel
theorem dX12_move_47 : decode cX12_move 47 = .ok (.iconst 1, 1) := by decide +kernel
theorem dX12_move_48 : decode cX12_move 48 = .ok (.iadd, 1) := by decide +kernel
theorem dX12_move_49 : decode cX12_move 49 = .ok (.putfield 409, 3) := by decide +kernel
theorem dX12_move_52 : decode cX12_move 52 = .ok (.iinc 4 1, 3) := by decide +kernel
theorem dX12_move_55 : decode cX12_move 55 = .ok (.goto (-52), 3) := by decide +kernel
theorem dX12_move_58 : decode cX12_move 58 = .ok (.return_, 1) := by decide +kernel
theorem dX12_moveAll_0 : decode cX12_moveAll 0 = .ok (.aload_n 0, 1) := by decide +kernel
theorem dX12_moveAll_1 : decode cX12_moveAll 1 = .ok (.iconst 0, 1) := by decide +kernel
theorem dX12_moveAll_2 : decode cX12_moveAll 2 = .ok (.putfield 409, 3) := by decide +kernel
theorem dX12_moveAll_5 : decode cX12_moveAll 5 = .ok (.aload_n 0, 1) := by decide +kernel
theorem dX12_moveAll_6 : decode cX12_moveAll 6 = .ok (.getfield 93, 3) := by decide +kernel
theorem dX12_moveAll_9 : decode cX12_moveAll 9 = .ok (.iconst 0, 1) := by decide +kernel
theorem dX12_moveAll_10 : decode cX12_moveAll 10 = .ok (.aload_n 0, 1) := by decide +kernel
theorem dX12_moveAll_11 : decode cX12_moveAll 11 = .ok (.getfield 96, 3) := by decide +kernel
theorem dX12_moveAll_14 : decode cX12_moveAll 14 = .ok (.iastore, 1) := by decide +kernel
theorem dX12_moveAll_15 : decode cX12_moveAll 15 = .ok (.aload_n 0, 1) := by decide +kernel
theorem dX12_moveAll_16 : decode cX12_moveAll 16 = .ok (.getfield 93, 3) := by decide +kernel
theorem dX12_moveAll_19 : decode cX12_moveAll 19 = .ok (.iconst 1, 1) := by decide +kernel
theorem dX12_moveAll_20 : decode cX12_moveAll 20 = .ok (.aload_n 0, 1) := by decide +kernel
theorem dX12_moveAll_21 : decode cX12_moveAll 21 = .ok (.getfield 217, 3) := by decide +kernel
theorem dX12_moveAll_24 : decode cX12_moveAll 24 = .ok (.iastore, 1) := by decide +kernel
theorem dX12_moveAll_25 : decode cX12_moveAll 25 = .ok (.aload_n 0, 1) := by decide +kernel
theorem dX12_moveAll_26 : decode cX12_moveAll 26 = .ok (.getfield 93, 3) := by decide +kernel
theorem dX12_moveAll_29 : decode cX12_moveAll 29 = .ok (.iconst 2, 1) := by decide +kernel
theorem dX12_moveAll_30 : decode cX12_moveAll 30 = .ok (.aload_n 0, 1) := by decide +kernel
theorem dX12_moveAll_31 : decode cX12_moveAll 31 = .ok (.getfield 220, 3) := by decide +kernel
theorem dX12_moveAll_34 : decode cX12_moveAll 34 = .ok (.iastore, 1) := by decide +kernel
theorem dX12_moveAll_35 : decode cX12_moveAll 35 = .ok (.aload_n 0, 1) := by decide +kernel
theorem dX12_moveAll_36 : decode cX12_moveAll 36 = .ok (.getfield 93, 3) := by decide +kernel
theorem dX12_moveAll_39 : decode cX12_moveAll 39 = .ok (.iconst 3, 1) := by decide +kernel
theorem dX12_moveAll_40 : decode cX12_moveAll 40 = .ok (.aload_n 0, 1) := by decide +kernel
theorem dX12_moveAll_41 : decode cX12_moveAll 41 = .ok (.getfield 223, 3) := by decide +kernel
theorem dX12_moveAll_44 : decode cX12_moveAll 44 = .ok (.iastore, 1) := by decide +kernel
theorem dX12_moveAll_45 : decode cX12_moveAll 45 = .ok (.aload_n 0, 1) := by decide +kernel
theorem dX12_moveAll_46 : decode cX12_moveAll 46 = .ok (.getfield 93, 3) := by decide +kernel
theorem dX12_moveAll_49 : decode cX12_moveAll 49 = .ok (.iconst 4, 1) := by decide +kernel
theorem dX12_moveAll_50 : decode cX12_moveAll 50 = .ok (.aload_n 0, 1) := by decide +kernel
theorem dX12_moveAll_51 : decode cX12_moveAll 51 = .ok (.getfield 226, 3) := by decide +kernel
theorem dX12_moveAll_54 : decode cX12_moveAll 54 = .ok (.iastore, 1) := by decide +kernel
theorem dX12_moveAll_55 : decode cX12_moveAll 55 = .ok (.aload_n 0, 1) := by decide +kernel
theorem dX12_moveAll_56 : decode cX12_moveAll 56 = .ok (.getfield 93, 3) := by decide +kernel
theorem dX12_moveAll_59 : decode cX12_moveAll 59 = .ok (.iconst 5, 1) := by decide +kernel
theorem dX12_moveAll_60 : decode cX12_moveAll 60 = .ok (.aload_n 0, 1) := by decide +kernel
theorem dX12_moveAll_61 : decode cX12_moveAll 61 = .ok (.getfield 324, 3) := by decide +kernel
theorem dX12_moveAll_64 : decode cX12_moveAll 64 = .ok (.iastore, 1) := by decide +kernel
theorem dX12_moveAll_65 : decode cX12_moveAll 65 = .ok (.aload_n 0, 1) := by decide +kernel
theorem dX12_moveAll_66 : decode cX12_moveAll 66 = .ok (.getfield 93, 3) := by decide +kernel
theorem dX12_moveAll_69 : decode cX12_moveAll 69 = .ok (.bipush 6, 2) := by decide +kernel
theorem dX12_moveAll_71 : decode cX12_moveAll 71 = .ok (.aload_n 0, 1) := by decide +kernel
theorem dX12_moveAll_72 : decode cX12_moveAll 72 = .ok (.getfield 34, 3) := by decide +kernel
theorem dX12_moveAll_75 : decode cX12_moveAll 75 = .ok (.iastore, 1) := by decide +kernel
theorem dX12_moveAll_76 : decode cX12_moveAll 76 = .ok (.aload_n 0, 1) := by decide +kernel
theorem dX12_moveAll_77 : decode cX12_moveAll 77 = .ok (.aload_n 0, 1) := by decide +kernel
theorem dX12_moveAll_78 : decode cX12_moveAll 78 = .ok (.getfield 93, 3) := by decide +kernel
theorem dX12_moveAll_81 : decode cX12_moveAll 81 = .ok (.bipush 7, 2) := by decide +kernel
theorem dX12_moveAll_83 : decode cX12_moveAll 83 = .ok (.iload_n 1, 1) := by decide +kernel
theorem dX12_moveAll_84 : decode cX12_moveAll 84 = .ok (.invokevirtual 412, 3) := by decide +kernel
theorem dX12_moveAll_87 : decode cX12_moveAll 87 = .ok (.aload_n 0, 1) := by decide +kernel
theorem dX12_moveAll_88 : decode cX12_moveAll 88 = .ok (.aload_n 0, 1) := by decide +kernel
theorem dX12_moveAll_89 : decode cX12_moveAll 89 = .ok (.getfield 7, 3) := by decide +kernel
theorem dX12_moveAll_92 : decode cX12_moveAll 92 = .ok (.bipush 50, 2) := by decide +kernel
theorem dX12_moveAll_94 : decode cX12_moveAll 94 = .ok (.iload_n 1, 1) := by decide +kernel
theorem dX12_moveAll_95 : decode cX12_moveAll 95 = .ok (.invokevirtual 412, 3) := by decide +kernel
theorem dX12_moveAll_98 : decode cX12_moveAll 98 = .ok (.aload_n 0, 1) := by decide +kernel
theorem dX12_moveAll_99 : decode cX12_moveAll 99 = .ok (.aload_n 0, 1) := by decide +kernel
theorem dX12_moveAll_100 : decode cX12_moveAll 100 = .ok (.getfield 13, 3) := by decide +kernel
theorem dX12_moveAll_103 : decode cX12_moveAll 103 = .ok (.iconst 4, 1) := by decide +kernel
theorem dX12_moveAll_104 : decode cX12_moveAll 104 = .ok (.iload_n 1, 1) := by decide +kernel
theorem dX12_moveAll_105 : decode cX12_moveAll 105 = .ok (.invokevirtual 412, 3) := by decide +kernel
theorem dX12_moveAll_108 : decode cX12_moveAll 108 = .ok (.aload_n 0, 1) := by decide +kernel
theorem dX12_moveAll_109 : decode cX12_moveAll 109 = .ok (.aload_n 0, 1) := by decide +kernel
theorem dX12_moveAll_110 : decode cX12_moveAll 110 = .ok (.getfield 22, 3) := by decide +kernel
theorem dX12_moveAll_113 : decode cX12_moveAll 113 = .ok (.bipush 61, 2) := by decide +kernel
theorem dX12_moveAll_115 : decode cX12_moveAll 115 = .ok (.iload_n 1, 1) := by decide +kernel
theorem dX12_moveAll_116 : decode cX12_moveAll 116 = .ok (.invokevirtual 412, 3) := by decide +kernel
theorem dX12_moveAll_119 : decode cX12_moveAll 119 = .ok (.aload_n 0, 1) := by decide +kernel
theorem dX12_moveAll_120 : decode cX12_moveAll 120 = .ok (.aload_n 0, 1) := by decide +kernel
theorem dX12_moveAll_121 : decode cX12_moveAll 121 = .ok (.getfield 25, 3) := by decide +kernel
theorem dX12_moveAll_124 : decode cX12_moveAll 124 = .ok (.bipush 61, 2) := by decide +kernel
theorem dX12_moveAll_126 : decode cX12_moveAll 126 = .ok (.iload_n 1, 1) := by decide +kernel
theorem dX12_moveAll_127 : decode cX12_moveAll 127 = .ok (.invokevirtual 412, 3) := by decide +kernel
theorem dX12_moveAll_130 : decode cX12_moveAll 130 = .ok (.aload_n 0, 1) := by decide +kernel
theorem dX12_moveAll_131 : decode cX12_moveAll 131 = .ok (.aload_n 0, 1) := by decide +kernel
theorem dX12_moveAll_132 : decode cX12_moveAll 132 = .ok (.getfield 28, 3) := by decide +kernel
theorem dX12_moveAll_135 : decode cX12_moveAll 135 = .ok (.bipush 8, 2) := by decide +kernel
theorem dX12_moveAll_137 : decode cX12_moveAll 137 = .ok (.iload_n 1, 1) := by decide +kernel
theorem dX12_moveAll_138 : decode cX12_moveAll 138 = .ok (.invokevirtual 412, 3) := by decide +kernel
theorem dX12_moveAll_141 : decode cX12_moveAll 141 = .ok (.aload_n 0, 1) := by decide +kernel
theorem dX12_moveAll_142 : decode cX12_moveAll 142 = .ok (.aload_n 0, 1) := by decide +kernel
theorem dX12_moveAll_143 : decode cX12_moveAll 143 = .ok (.getfield 31, 3) := by decide +kernel
theorem dX12_moveAll_146 : decode cX12_moveAll 146 = .ok (.bipush 18, 2) := by decide +kernel
theorem dX12_moveAll_148 : decode cX12_moveAll 148 = .ok (.iload_n 1, 1) := by decide +kernel
theorem dX12_moveAll_149 : decode cX12_moveAll 149 = .ok (.invokevirtual 412, 3) := by decide +kernel
theorem dX12_moveAll_152 : decode cX12_moveAll 152 = .ok (.return_, 1) := by decide +kernel
theorem dX12_keep_0 : decode cX12_keep 0 = .ok (.aload_n 0, 1) := by decide +kernel
theorem dX12_keep_1 : decode cX12_keep 1 = .ok (.iconst 1, 1) := by decide +kernel
theorem dX12_keep_2 : decode cX12_keep 2 = .ok (.invokevirtual 416, 3) := by decide +kernel
theorem dX12_keep_5 : decode cX12_keep 5 = .ok (.aload_n 0, 1) := by decide +kernel
theorem dX12_keep_6 : decode cX12_keep 6 = .ok (.iconst 1, 1) := by decide +kernel
theorem dX12_keep_7 : decode cX12_keep 7 = .ok (.putfield 420, 3) := by decide +kernel
theorem dX12_keep_10 : decode cX12_keep 10 = .ok (.iconst 1, 1) := by decide +kernel
theorem dX12_keep_11 : decode cX12_keep 11 = .ok (.ireturn, 1) := by decide +kernel
theorem dX12_again_0 : decode cX12_again 0 = .ok (.aload_n 0, 1) := by decide +kernel
theorem dX12_again_1 : decode cX12_again 1 = .ok (.getfield 420, 3) := by decide +kernel
theorem dX12_again_4 : decode cX12_again 4 = .ok (.ifCond .ne 6, 3) := by decide +kernel
theorem dX12_again_7 : decode cX12_again 7 = .ok (.bipush (-3), 2) := by decide +kernel
theorem dX12_again_9 : decode cX12_again 9 = .ok (.ireturn, 1) := by decide +kernel
theorem dX12_again_10 : decode cX12_again 10 = .ok (.aload_n 0, 1) := by decide +kernel
theorem dX12_again_11 : decode cX12_again 11 = .ok (.iconst 0, 1) := by decide +kernel
theorem dX12_again_12 : decode cX12_again 12 = .ok (.invokevirtual 416, 3) := by decide +kernel
theorem dX12_again_15 : decode cX12_again 15 = .ok (.aload_n 0, 1) := by decide +kernel
theorem dX12_again_16 : decode cX12_again 16 = .ok (.aload_n 0, 1) := by decide +kernel
theorem dX12_again_17 : decode cX12_again 17 = .ok (.getfield 93, 3) := by decide +kernel
theorem dX12_again_20 : decode cX12_again 20 = .ok (.iconst 0, 1) := by decide +kernel
theorem dX12_again_21 : decode cX12_again 21 = .ok (.iaload, 1) := by decide +kernel
theorem dX12_again_22 : decode cX12_again 22 = .ok (.putfield 96, 3) := by decide +kernel
theorem dX12_again_25 : decode cX12_again 25 = .ok (.aload_n 0, 1) := by decide +kernel
theorem dX12_again_26 : decode cX12_again 26 = .ok (.aload_n 0, 1) := by decide +kernel
theorem dX12_again_27 : decode cX12_again 27 = .ok (.getfield 93, 3) := by decide +kernel
theorem dX12_again_30 : decode cX12_again 30 = .ok (.iconst 1, 1) := by decide +kernel
theorem dX12_again_31 : decode cX12_again 31 = .ok (.iaload, 1) := by decide +kernel
theorem dX12_again_32 : decode cX12_again 32 = .ok (.putfield 217, 3) := by decide +kernel
theorem dX12_again_35 : decode cX12_again 35 = .ok (.aload_n 0, 1) := by decide +kernel
theorem dX12_again_36 : decode cX12_again 36 = .ok (.aload_n 0, 1) := by decide +kernel
theorem dX12_again_37 : decode cX12_again 37 = .ok (.getfield 93, 3) := by decide +kernel
theorem dX12_again_40 : decode cX12_again 40 = .ok (.iconst 2, 1) := by decide +kernel
theorem dX12_again_41 : decode cX12_again 41 = .ok (.iaload, 1) := by decide +kernel
theorem dX12_again_42 : decode cX12_again 42 = .ok (.putfield 220, 3) := by decide +kernel
theorem dX12_again_45 : decode cX12_again 45 = .ok (.aload_n 0, 1) := by decide +kernel
theorem dX12_again_46 : decode cX12_again 46 = .ok (.aload_n 0, 1) := by decide +kernel
theorem dX12_again_47 : decode cX12_again 47 = .ok (.getfield 93, 3) := by decide +kernel
theorem dX12_again_50 : decode cX12_again 50 = .ok (.iconst 3, 1) := by decide +kernel
theorem dX12_again_51 : decode cX12_again 51 = .ok (.iaload, 1) := by decide +kernel
theorem dX12_again_52 : decode cX12_again 52 = .ok (.putfield 223, 3) := by decide +kernel
theorem dX12_again_55 : decode cX12_again 55 = .ok (.aload_n 0, 1) := by decide +kernel
theorem dX12_again_56 : decode cX12_again 56 = .ok (.aload_n 0, 1) := by decide +kernel
theorem dX12_again_57 : decode cX12_again 57 = .ok (.getfield 93, 3) := by decide +kernel
theorem dX12_again_60 : decode cX12_again 60 = .ok (.iconst 4, 1) := by decide +kernel
theorem dX12_again_61 : decode cX12_again 61 = .ok (.iaload, 1) := by decide +kernel
theorem dX12_again_62 : decode cX12_again 62 = .ok (.putfield 226, 3) := by decide +kernel
theorem dX12_again_65 : decode cX12_again 65 = .ok (.aload_n 0, 1) := by decide +kernel
theorem dX12_again_66 : decode cX12_again 66 = .ok (.aload_n 0, 1) := by decide +kernel
theorem dX12_again_67 : decode cX12_again 67 = .ok (.getfield 93, 3) := by decide +kernel
theorem dX12_again_70 : decode cX12_again 70 = .ok (.iconst 5, 1) := by decide +kernel
theorem dX12_again_71 : decode cX12_again 71 = .ok (.iaload, 1) := by decide +kernel
theorem dX12_again_72 : decode cX12_again 72 = .ok (.putfield 324, 3) := by decide +kernel
theorem dX12_again_75 : decode cX12_again 75 = .ok (.aload_n 0, 1) := by decide +kernel
theorem dX12_again_76 : decode cX12_again 76 = .ok (.aload_n 0, 1) := by decide +kernel
theorem dX12_again_77 : decode cX12_again 77 = .ok (.getfield 93, 3) := by decide +kernel
theorem dX12_again_80 : decode cX12_again 80 = .ok (.bipush 6, 2) := by decide +kernel
theorem dX12_again_82 : decode cX12_again 82 = .ok (.iaload, 1) := by decide +kernel
theorem dX12_again_83 : decode cX12_again 83 = .ok (.putfield 34, 3) := by decide +kernel
theorem dX12_again_86 : decode cX12_again 86 = .ok (.aload_n 0, 1) := by decide +kernel
theorem dX12_again_87 : decode cX12_again 87 = .ok (.getfield 96, 3) := by decide +kernel
theorem dX12_again_90 : decode cX12_again 90 = .ok (.ireturn, 1) := by decide +kernel
theorem dJ9_max_7cf53_0 : decode cJ9_max_7cf53 0 = .ok (.iload_n 0, 1) := by decide +kernel
theorem dJ9_max_7cf53_1 : decode cJ9_max_7cf53 1 = .ok (.iload_n 1, 1) := by decide +kernel
theorem dJ9_max_7cf53_2 : decode cJ9_max_7cf53 2 = .ok (.if_icmp .lt 7, 3) := by decide +kernel
theorem dJ9_max_7cf53_5 : decode cJ9_max_7cf53 5 = .ok (.iload_n 0, 1) := by decide +kernel
theorem dJ9_max_7cf53_6 : decode cJ9_max_7cf53 6 = .ok (.goto 4, 3) := by decide +kernel
theorem dJ9_max_7cf53_9 : decode cJ9_max_7cf53 9 = .ok (.iload_n 1, 1) := by decide +kernel
theorem dJ9_max_7cf53_10 : decode cJ9_max_7cf53 10 = .ok (.ireturn, 1) := by decide +kernel
theorem dJ9_min_7cf53_0 : decode cJ9_min_7cf53 0 = .ok (.iload_n 0, 1) := by decide +kernel
theorem dJ9_min_7cf53_1 : decode cJ9_min_7cf53 1 = .ok (.iload_n 1, 1) := by decide +kernel
theorem dJ9_min_7cf53_2 : decode cJ9_min_7cf53 2 = .ok (.if_icmp .gt 7, 3) := by decide +kernel
theorem dJ9_min_7cf53_5 : decode cJ9_min_7cf53 5 = .ok (.iload_n 0, 1) := by decide +kernel
theorem dJ9_min_7cf53_6 : decode cJ9_min_7cf53 6 = .ok (.goto 4, 3) := by decide +kernel
theorem dJ9_min_7cf53_9 : decode cJ9_min_7cf53 9 = .ok (.iload_n 1, 1) := by decide +kernel
theorem dJ9_min_7cf53_10 : decode cJ9_min_7cf53 10 = .ok (.ireturn, 1) := by decide +kernel
theorem dJ0_length_8abf5_0 : decode cJ0_length_8abf5 0 = .ok (.aload_n 0, 1) := by decide +kernel
theorem dJ0_length_8abf5_1 : decode cJ0_length_8abf5 1 = .ok (.getfield 9, 3) := by decide +kernel
theorem dJ0_length_8abf5_4 : decode cJ0_length_8abf5 4 = .ok (.arraylength, 1) := by decide +kernel
theorem dJ0_length_8abf5_5 : decode cJ0_length_8abf5 5 = .ok (.aload_n 0, 1) := by decide +kernel
theorem dJ0_length_8abf5_6 : decode cJ0_length_8abf5 6 = .ok (.invokevirtual 335, 3) := by decide +kernel
theorem dJ0_length_8abf5_9 : decode cJ0_length_8abf5 9 = .ok (.ishr, 1) := by decide +kernel
theorem dJ0_length_8abf5_10 : decode cJ0_length_8abf5 10 = .ok (.ireturn, 1) := by decide +kernel
theorem dJ0_charAt_5068e_0 : decode cJ0_charAt_5068e 0 = .ok (.aload_n 0, 1) := by decide +kernel
theorem dJ0_charAt_5068e_1 : decode cJ0_charAt_5068e 1 = .ok (.invokevirtual 492, 3) := by decide +kernel
theorem dJ0_charAt_5068e_4 : decode cJ0_charAt_5068e 4 = .ok (.ifCond .eq 12, 3) := by decide +kernel
theorem dJ0_charAt_5068e_7 : decode cJ0_charAt_5068e 7 = .ok (.aload_n 0, 1) := by decide +kernel
theorem dJ0_charAt_5068e_8 : decode cJ0_charAt_5068e 8 = .ok (.getfield 9, 3) := by decide +kernel
theorem dJ0_charAt_5068e_11 : decode cJ0_charAt_5068e 11 = .ok (.iload_n 1, 1) := by decide +kernel
theorem dJ0_charAt_5068e_12 : decode cJ0_charAt_5068e 12 = .ok (.invokestatic 495, 3) := by decide +kernel
theorem dJ0_charAt_5068e_15 : decode cJ0_charAt_5068e 15 = .ok (.ireturn, 1) := by decide +kernel
theorem dJ0_charAt_5068e_16 : decode cJ0_charAt_5068e 16 = .ok (.aload_n 0, 1) := by decide +kernel
theorem dJ0_charAt_5068e_17 : decode cJ0_charAt_5068e 17 = .ok (.getfield 9, 3) := by decide +kernel
theorem dJ0_charAt_5068e_20 : decode cJ0_charAt_5068e 20 = .ok (.iload_n 1, 1) := by decide +kernel
theorem dJ0_charAt_5068e_21 : decode cJ0_charAt_5068e 21 = .ok (.invokestatic 498, 3) := by decide +kernel
theorem dJ0_charAt_5068e_24 : decode cJ0_charAt_5068e 24 = .ok (.ireturn, 1) := by decide +kernel
theorem dJ0_coder_7d493_0 : decode cJ0_coder_7d493 0 = .ok (.getstatic 38, 3) := by decide +kernel
theorem dJ0_coder_7d493_3 : decode cJ0_coder_7d493 3 = .ok (.ifCond .eq 10, 3) := by decide +kernel
theorem dJ0_coder_7d493_6 : decode cJ0_coder_7d493 6 = .ok (.aload_n 0, 1) := by decide +kernel
theorem dJ0_coder_7d493_7 : decode cJ0_coder_7d493 7 = .ok (.getfield 15, 3) := by decide +kernel
theorem dJ0_coder_7d493_10 : decode cJ0_coder_7d493 10 = .ok (.goto 4, 3) := by decide +kernel
theorem dJ0_coder_7d493_13 : decode cJ0_coder_7d493 13 = .ok (.iconst 1, 1) := by decide +kernel
theorem dJ0_coder_7d493_14 : decode cJ0_coder_7d493 14 = .ok (.ireturn, 1) := by decide +kernel
theorem dJ0_isLatin1_aae02_0 : decode cJ0_isLatin1_aae02 0 = .ok (.getstatic 38, 3) := by decide +kernel
theorem dJ0_isLatin1_aae02_3 : decode cJ0_isLatin1_aae02 3 = .ok (.ifCond .eq 14, 3) := by decide +kernel
theorem dJ0_isLatin1_aae02_6 : decode cJ0_isLatin1_aae02 6 = .ok (.aload_n 0, 1) := by decide +kernel
theorem dJ0_isLatin1_aae02_7 : decode cJ0_isLatin1_aae02 7 = .ok (.getfield 15, 3) := by decide +kernel
theorem dJ0_isLatin1_aae02_10 : decode cJ0_isLatin1_aae02 10 = .ok (.ifCond .ne 7, 3) := by decide +kernel
theorem dJ0_isLatin1_aae02_13 : decode cJ0_isLatin1_aae02 13 = .ok (.iconst 1, 1) := by decide +kernel
theorem dJ0_isLatin1_aae02_14 : decode cJ0_isLatin1_aae02 14 = .ok (.goto 4, 3) := by decide +kernel
theorem dJ0_isLatin1_aae02_17 : decode cJ0_isLatin1_aae02 17 = .ok (.iconst 0, 1) := by decide +kernel
theorem dJ0_isLatin1_aae02_18 : decode cJ0_isLatin1_aae02 18 = .ok (.ireturn, 1) := by decide +kernel
theorem dJ0_checkIndex_df160_0 : decode cJ0_checkIndex_df160 0 = .ok (.iload_n 0, 1) := by decide +kernel
theorem dJ0_checkIndex_df160_1 : decode cJ0_checkIndex_df160 1 = .ok (.iload_n 1, 1) := by decide +kernel
theorem dJ0_checkIndex_df160_2 : decode cJ0_checkIndex_df160 2 = .ok (.getstatic 1053, 3) := by decide +kernel
theorem dJ0_checkIndex_df160_5 : decode cJ0_checkIndex_df160 5 = .ok (.invokestatic 1059, 3) := by decide +kernel
theorem dJ0_checkIndex_df160_8 : decode cJ0_checkIndex_df160 8 = .ok (.pop, 1) := by decide +kernel
theorem dJ0_checkIndex_df160_9 : decode cJ0_checkIndex_df160 9 = .ok (.return_, 1) := by decide +kernel
theorem dJ1_charAt_3b067_0 : decode cJ1_charAt_3b067 0 = .ok (.iload_n 1, 1) := by decide +kernel
theorem dJ1_charAt_3b067_1 : decode cJ1_charAt_3b067 1 = .ok (.aload_n 0, 1) := by decide +kernel
theorem dJ1_charAt_3b067_2 : decode cJ1_charAt_3b067 2 = .ok (.arraylength, 1) := by decide +kernel
theorem dJ1_charAt_3b067_3 : decode cJ1_charAt_3b067 3 = .ok (.invokestatic 9, 3) := by decide +kernel
theorem dJ1_charAt_3b067_6 : decode cJ1_charAt_3b067 6 = .ok (.aload_n 0, 1) := by decide +kernel
theorem dJ1_charAt_3b067_7 : decode cJ1_charAt_3b067 7 = .ok (.iload_n 1, 1) := by decide +kernel
theorem dJ1_charAt_3b067_8 : decode cJ1_charAt_3b067 8 = .ok (.baload, 1) := by decide +kernel
theorem dJ1_charAt_3b067_9 : decode cJ1_charAt_3b067 9 = .ok (.sipush 255, 3) := by decide +kernel
theorem dJ1_charAt_3b067_12 : decode cJ1_charAt_3b067 12 = .ok (.iand, 1) := by decide +kernel
theorem dJ1_charAt_3b067_13 : decode cJ1_charAt_3b067 13 = .ok (.i2c, 1) := by decide +kernel
theorem dJ1_charAt_3b067_14 : decode cJ1_charAt_3b067 14 = .ok (.ireturn, 1) := by decide +kernel
theorem dJ2_getChar_3b067_0 : decode cJ2_getChar_3b067 0 = .ok (.getstatic 44, 3) := by decide +kernel
theorem dJ2_getChar_3b067_3 : decode cJ2_getChar_3b067 3 = .ok (.ifCond .ne 25, 3) := by decide +kernel
theorem dJ2_getChar_3b067_6 : decode cJ2_getChar_3b067 6 = .ok (.iload_n 1, 1) := by decide +kernel
theorem dJ2_getChar_3b067_7 : decode cJ2_getChar_3b067 7 = .ok (.ifCond .lt 11, 3) := by decide +kernel
theorem dJ2_getChar_3b067_10 : decode cJ2_getChar_3b067 10 = .ok (.iload_n 1, 1) := by decide +kernel
theorem dJ2_getChar_3b067_11 : decode cJ2_getChar_3b067 11 = .ok (.aload_n 0, 1) := by decide +kernel
theorem dJ2_getChar_3b067_12 : decode cJ2_getChar_3b067 12 = .ok (.invokestatic 48, 3) := by decide +kernel
theorem dJ2_getChar_3b067_15 : decode cJ2_getChar_3b067 15 = .ok (.if_icmp .lt 13, 3) := by decide +kernel
theorem dJ2_getChar_3b067_18 : decode cJ2_getChar_3b067 18 = .ok (.new 52, 3) := by decide +kernel
theorem dJ2_getChar_3b067_21 : decode cJ2_getChar_3b067 21 = .ok (.dup, 1) := by decide +kernel
theorem dJ2_getChar_3b067_22 : decode cJ2_getChar_3b067 22 = .ok (.ldc 54, 2) := by decide +kernel
theorem dJ2_getChar_3b067_24 : decode cJ2_getChar_3b067 24 = .ok (.invokespecial 56, 3) := by decide +kernel
theorem dJ2_getChar_3b067_27 : decode cJ2_getChar_3b067 27 = .ok (.athrow, 1) := by decide +kernel
theorem dJ2_getChar_3b067_28 : decode cJ2_getChar_3b067 28 = .ok (.iload_n 1, 1) := by decide +kernel
theorem dJ2_getChar_3b067_29 : decode cJ2_getChar_3b067 29 = .ok (.iconst 1, 1) := by decide +kernel
theorem dJ2_getChar_3b067_30 : decode cJ2_getChar_3b067 30 = .ok (.ishl, 1) := by decide +kernel
theorem dJ2_getChar_3b067_31 : decode cJ2_getChar_3b067 31 = .ok (.istore_n 1, 1) := by decide +kernel
theorem dJ2_getChar_3b067_32 : decode cJ2_getChar_3b067 32 = .ok (.aload_n 0, 1) := by decide +kernel
theorem dJ2_getChar_3b067_33 : decode cJ2_getChar_3b067 33 = .ok (.iload_n 1, 1) := by decide +kernel
theorem dJ2_getChar_3b067_34 : decode cJ2_getChar_3b067 34 = .ok (.iinc 1 1, 3) := by decide +kernel
theorem dJ2_getChar_3b067_37 : decode cJ2_getChar_3b067 37 = .ok (.baload, 1) := by decide +kernel
theorem dJ2_getChar_3b067_38 : decode cJ2_getChar_3b067 38 = .ok (.sipush 255, 3) := by decide +kernel
theorem dJ2_getChar_3b067_41 : decode cJ2_getChar_3b067 41 = .ok (.iand, 1) := by decide +kernel
theorem dJ2_getChar_3b067_42 : decode cJ2_getChar_3b067 42 = .ok (.getstatic 59, 3) := by decide +kernel
theorem dJ2_getChar_3b067_45 : decode cJ2_getChar_3b067 45 = .ok (.ishl, 1) := by decide +kernel
theorem dJ2_getChar_3b067_46 : decode cJ2_getChar_3b067 46 = .ok (.aload_n 0, 1) := by decide +kernel
theorem dJ2_getChar_3b067_47 : decode cJ2_getChar_3b067 47 = .ok (.iload_n 1, 1) := by decide +kernel
theorem dJ2_getChar_3b067_48 : decode cJ2_getChar_3b067 48 = .ok (.baload, 1) := by decide +kernel
theorem dJ2_getChar_3b067_49 : decode cJ2_getChar_3b067 49 = .ok (.sipush 255, 3) := by decide +kernel
theorem dJ2_getChar_3b067_52 : decode cJ2_getChar_3b067 52 = .ok (.iand, 1) := by decide +kernel
theorem dJ2_getChar_3b067_53 : decode cJ2_getChar_3b067 53 = .ok (.getstatic 63, 3) := by decide +kernel
theorem dJ2_getChar_3b067_56 : decode cJ2_getChar_3b067 56 = .ok (.ishl, 1) := by decide +kernel
theorem dJ2_getChar_3b067_57 : decode cJ2_getChar_3b067 57 = .ok (.ior, 1) := by decide +kernel
theorem dJ2_getChar_3b067_58 : decode cJ2_getChar_3b067 58 = .ok (.i2c, 1) := by decide +kernel
theorem dJ2_getChar_3b067_59 : decode cJ2_getChar_3b067 59 = .ok (.ireturn, 1) := by decide +kernel
theorem dJ2_length_9d52b_0 : decode cJ2_length_9d52b 0 = .ok (.aload_n 0, 1) := by decide +kernel
theorem dJ2_length_9d52b_1 : decode cJ2_length_9d52b 1 = .ok (.arraylength, 1) := by decide +kernel
theorem dJ2_length_9d52b_2 : decode cJ2_length_9d52b 2 = .ok (.iconst 1, 1) := by decide +kernel
theorem dJ2_length_9d52b_3 : decode cJ2_length_9d52b 3 = .ok (.ishr, 1) := by decide +kernel
theorem dJ2_length_9d52b_4 : decode cJ2_length_9d52b 4 = .ok (.ireturn, 1) := by decide +kernel
theorem dJ2_charAt_3b067_0 : decode cJ2_charAt_3b067 0 = .ok (.iload_n 1, 1) := by decide +kernel
theorem dJ2_charAt_3b067_1 : decode cJ2_charAt_3b067 1 = .ok (.aload_n 0, 1) := by decide +kernel
theorem dJ2_charAt_3b067_2 : decode cJ2_charAt_3b067 2 = .ok (.invokestatic 67, 3) := by decide +kernel
theorem dJ2_charAt_3b067_5 : decode cJ2_charAt_3b067 5 = .ok (.aload_n 0, 1) := by decide +kernel
theorem dJ2_charAt_3b067_6 : decode cJ2_charAt_3b067 6 = .ok (.iload_n 1, 1) := by decide +kernel
theorem dJ2_charAt_3b067_7 : decode cJ2_charAt_3b067 7 = .ok (.invokestatic 71, 3) := by decide +kernel
theorem dJ2_charAt_3b067_10 : decode cJ2_charAt_3b067 10 = .ok (.ireturn, 1) := by decide +kernel
theorem dJ2_checkIndex_2214a_0 : decode cJ2_checkIndex_2214a 0 = .ok (.iload_n 0, 1) := by decide +kernel
theorem dJ2_checkIndex_2214a_1 : decode cJ2_checkIndex_2214a 1 = .ok (.aload_n 1, 1) := by decide +kernel
theorem dJ2_checkIndex_2214a_2 : decode cJ2_checkIndex_2214a 2 = .ok (.invokestatic 48, 3) := by decide +kernel
theorem dJ2_checkIndex_2214a_5 : decode cJ2_checkIndex_2214a 5 = .ok (.invokestatic 414, 3) := by decide +kernel
theorem dJ2_checkIndex_2214a_8 : decode cJ2_checkIndex_2214a 8 = .ok (.return_, 1) := by decide +kernel
theorem dJ3_checkIndex_8e157_0 : decode cJ3_checkIndex_8e157 0 = .ok (.iload_n 0, 1) := by decide +kernel
theorem dJ3_checkIndex_8e157_1 : decode cJ3_checkIndex_8e157 1 = .ok (.ifCond .lt 8, 3) := by decide +kernel
theorem dJ3_checkIndex_8e157_4 : decode cJ3_checkIndex_8e157 4 = .ok (.iload_n 0, 1) := by decide +kernel
theorem dJ3_checkIndex_8e157_5 : decode cJ3_checkIndex_8e157 5 = .ok (.iload_n 1, 1) := by decide +kernel
theorem dJ3_checkIndex_8e157_6 : decode cJ3_checkIndex_8e157 6 = .ok (.if_icmp .lt 10, 3) := by decide +kernel
theorem dJ3_checkIndex_8e157_9 : decode cJ3_checkIndex_8e157 9 = .ok (.aload_n 2, 1) := by decide +kernel
theorem dJ3_checkIndex_8e157_10 : decode cJ3_checkIndex_8e157 10 = .ok (.iload_n 0, 1) := by decide +kernel
theorem dJ3_checkIndex_8e157_11 : decode cJ3_checkIndex_8e157 11 = .ok (.iload_n 1, 1) := by decide +kernel
theorem dJ3_checkIndex_8e157_12 : decode cJ3_checkIndex_8e157 12 = .ok (.invokestatic 95, 3) := by decide +kernel
theorem dJ3_checkIndex_8e157_15 : decode cJ3_checkIndex_8e157 15 = .ok (.athrow, 1) := by decide +kernel
theorem dJ3_checkIndex_8e157_16 : decode cJ3_checkIndex_8e157 16 = .ok (.iload_n 0, 1) := by decide +kernel
theorem dJ3_checkIndex_8e157_17 : decode cJ3_checkIndex_8e157 17 = .ok (.ireturn, 1) := by decide +kernel
theorem dL_law_0 : decode cL_law 0 = .ok (.new 7, 3) := by decide +kernel
theorem dL_law_3 : decode cL_law 3 = .ok (.dup, 1) := by decide +kernel
theorem dL_law_4 : decode cL_law 4 = .ok (.invokespecial 9, 3) := by decide +kernel
theorem dL_law_7 : decode cL_law 7 = .ok (.astore_n 1, 1) := by decide +kernel
theorem dL_law_8 : decode cL_law 8 = .ok (.new 10, 3) := by decide +kernel
theorem dL_law_11 : decode cL_law 11 = .ok (.dup, 1) := by decide +kernel
theorem dL_law_12 : decode cL_law 12 = .ok (.invokespecial 12, 3) := by decide +kernel
theorem dL_law_15 : decode cL_law 15 = .ok (.astore_n 2, 1) := by decide +kernel
theorem dL_law_16 : decode cL_law 16 = .ok (.iconst 0, 1) := by decide +kernel
theorem dL_law_17 : decode cL_law 17 = .ok (.istore_n 3, 1) := by decide +kernel
theorem dL_law_18 : decode cL_law 18 = .ok (.iload_n 3, 1) := by decide +kernel
theorem dL_law_19 : decode cL_law 19 = .ok (.aload_n 0, 1) := by decide +kernel
theorem dL_law_20 : decode cL_law 20 = .ok (.arraylength, 1) := by decide +kernel
theorem dL_law_21 : decode cL_law 21 = .ok (.bipush 7, 2) := by decide +kernel
theorem dL_law_23 : decode cL_law 23 = .ok (.isub, 1) := by decide +kernel
theorem dL_law_24 : decode cL_law 24 = .ok (.if_icmp .gt 1517, 3) := by decide +kernel
theorem dL_law_27 : decode cL_law 27 = .ok (.aload_n 0, 1) := by decide +kernel
theorem dL_law_28 : decode cL_law 28 = .ok (.iload_n 3, 1) := by decide +kernel
theorem dL_law_29 : decode cL_law 29 = .ok (.iaload, 1) := by decide +kernel
theorem dL_law_30 : decode cL_law 30 = .ok (.bipush 63, 2) := by decide +kernel
theorem dL_law_32 : decode cL_law 32 = .ok (.iand, 1) := by decide +kernel
theorem dL_law_33 : decode cL_law 33 = .ok (.tableswitch 1502 0 44 #[195, 258, 271, 334, 367, 390, 423, 456, 489, 512, 535, 558, 581, 604, 617, 630, 653, 666, 709, 772, 795, 808, 831, 854, 877, 952, 985, 1018, 1031, 1054, 1067, 1080, 1093, 1126, 1169, 1182, 1225, 1268, 1311, 1354, 1387, 1430, 1453, 1476, 1489], 195) := by decide +kernel
theorem dL_law_228 : decode cL_law 228 = .ok (.aload_n 1, 1) := by decide +kernel
theorem dL_law_229 : decode cL_law 229 = .ok (.aload_n 0, 1) := by decide +kernel
theorem dL_law_230 : decode cL_law 230 = .ok (.iload_n 3, 1) := by decide +kernel
theorem dL_law_231 : decode cL_law 231 = .ok (.iconst 1, 1) := by decide +kernel
theorem dL_law_232 : decode cL_law 232 = .ok (.iadd, 1) := by decide +kernel
theorem dL_law_233 : decode cL_law 233 = .ok (.iaload, 1) := by decide +kernel
theorem dL_law_234 : decode cL_law 234 = .ok (.i2l, 1) := by decide +kernel
theorem dL_law_235 : decode cL_law 235 = .ok (.bipush 32, 2) := by decide +kernel
theorem dL_law_237 : decode cL_law 237 = .ok (.lshl, 1) := by decide +kernel
theorem dL_law_238 : decode cL_law 238 = .ok (.aload_n 0, 1) := by decide +kernel
theorem dL_law_239 : decode cL_law 239 = .ok (.iload_n 3, 1) := by decide +kernel
theorem dL_law_240 : decode cL_law 240 = .ok (.iconst 2, 1) := by decide +kernel
theorem dL_law_241 : decode cL_law 241 = .ok (.iadd, 1) := by decide +kernel
theorem dL_law_242 : decode cL_law 242 = .ok (.iaload, 1) := by decide +kernel
theorem dL_law_243 : decode cL_law 243 = .ok (.i2l, 1) := by decide +kernel
theorem dL_law_244 : decode cL_law 244 = .ok (.ldc2_w 13, 3) := by decide +kernel
theorem dL_law_247 : decode cL_law 247 = .ok (.land, 1) := by decide +kernel
theorem dL_law_248 : decode cL_law 248 = .ok (.lor, 1) := by decide +kernel
theorem dL_law_249 : decode cL_law 249 = .ok (.aload_n 0, 1) := by decide +kernel
theorem dL_law_250 : decode cL_law 250 = .ok (.iload_n 3, 1) := by decide +kernel
theorem dL_law_251 : decode cL_law 251 = .ok (.iconst 3, 1) := by decide +kernel
theorem dL_law_252 : decode cL_law 252 = .ok (.iadd, 1) := by decide +kernel
theorem dL_law_253 : decode cL_law 253 = .ok (.iaload, 1) := by decide +kernel
theorem dL_law_254 : decode cL_law 254 = .ok (.invokevirtual 15, 3) := by decide +kernel
theorem dL_law_257 : decode cL_law 257 = .ok (.aload_n 2, 1) := by decide +kernel
theorem dL_law_258 : decode cL_law 258 = .ok (.aload_n 0, 1) := by decide +kernel
theorem dL_law_259 : decode cL_law 259 = .ok (.iload_n 3, 1) := by decide +kernel
theorem dL_law_260 : decode cL_law 260 = .ok (.iconst 1, 1) := by decide +kernel
theorem dL_law_261 : decode cL_law 261 = .ok (.iadd, 1) := by decide +kernel
theorem dL_law_262 : decode cL_law 262 = .ok (.iaload, 1) := by decide +kernel
theorem dL_law_263 : decode cL_law 263 = .ok (.i2l, 1) := by decide +kernel
theorem dL_law_264 : decode cL_law 264 = .ok (.bipush 32, 2) := by decide +kernel
theorem dL_law_266 : decode cL_law 266 = .ok (.lshl, 1) := by decide +kernel
theorem dL_law_267 : decode cL_law 267 = .ok (.aload_n 0, 1) := by decide +kernel
theorem dL_law_268 : decode cL_law 268 = .ok (.iload_n 3, 1) := by decide +kernel
theorem dL_law_269 : decode cL_law 269 = .ok (.iconst 2, 1) := by decide +kernel
theorem dL_law_270 : decode cL_law 270 = .ok (.iadd, 1) := by decide +kernel
theorem dL_law_271 : decode cL_law 271 = .ok (.iaload, 1) := by decide +kernel
theorem dL_law_272 : decode cL_law 272 = .ok (.i2l, 1) := by decide +kernel
theorem dL_law_273 : decode cL_law 273 = .ok (.ldc2_w 13, 3) := by decide +kernel
theorem dL_law_276 : decode cL_law 276 = .ok (.land, 1) := by decide +kernel
theorem dL_law_277 : decode cL_law 277 = .ok (.lor, 1) := by decide +kernel
theorem dL_law_278 : decode cL_law 278 = .ok (.aload_n 0, 1) := by decide +kernel
theorem dL_law_279 : decode cL_law 279 = .ok (.iload_n 3, 1) := by decide +kernel
theorem dL_law_280 : decode cL_law 280 = .ok (.iconst 3, 1) := by decide +kernel
theorem dL_law_281 : decode cL_law 281 = .ok (.iadd, 1) := by decide +kernel
theorem dL_law_282 : decode cL_law 282 = .ok (.iaload, 1) := by decide +kernel
theorem dL_law_283 : decode cL_law 283 = .ok (.invokevirtual 19, 3) := by decide +kernel
theorem dL_law_286 : decode cL_law 286 = .ok (.if_icmp .eq 1249, 3) := by decide +kernel
theorem dL_law_289 : decode cL_law 289 = .ok (.iconst 0, 1) := by decide +kernel
theorem dL_law_290 : decode cL_law 290 = .ok (.ireturn, 1) := by decide +kernel
theorem dL_law_291 : decode cL_law 291 = .ok (.aload_n 1, 1) := by decide +kernel
theorem dL_law_292 : decode cL_law 292 = .ok (.invokevirtual 20, 3) := by decide +kernel
theorem dL_law_295 : decode cL_law 295 = .ok (.aload_n 2, 1) := by decide +kernel
theorem dL_law_296 : decode cL_law 296 = .ok (.invokevirtual 24, 3) := by decide +kernel
theorem dL_law_299 : decode cL_law 299 = .ok (.if_icmp .eq 1236, 3) := by decide +kernel
theorem dL_law_302 : decode cL_law 302 = .ok (.iconst 0, 1) := by decide +kernel
theorem dL_law_303 : decode cL_law 303 = .ok (.ireturn, 1) := by decide +kernel
theorem dL_law_304 : decode cL_law 304 = .ok (.aload_n 1, 1) := by decide +kernel
theorem dL_law_305 : decode cL_law 305 = .ok (.aload_n 0, 1) := by decide +kernel
theorem dL_law_306 : decode cL_law 306 = .ok (.iload_n 3, 1) := by decide +kernel
theorem dL_law_307 : decode cL_law 307 = .ok (.iconst 1, 1) := by decide +kernel
theorem dL_law_308 : decode cL_law 308 = .ok (.iadd, 1) := by decide +kernel
theorem dL_law_309 : decode cL_law 309 = .ok (.iaload, 1) := by decide +kernel
theorem dL_law_310 : decode cL_law 310 = .ok (.aload_n 0, 1) := by decide +kernel
theorem dL_law_311 : decode cL_law 311 = .ok (.iload_n 3, 1) := by decide +kernel
theorem dL_law_312 : decode cL_law 312 = .ok (.iconst 2, 1) := by decide +kernel
theorem dL_law_313 : decode cL_law 313 = .ok (.iadd, 1) := by decide +kernel
theorem dL_law_314 : decode cL_law 314 = .ok (.iaload, 1) := by decide +kernel
theorem dL_law_315 : decode cL_law 315 = .ok (.aload_n 0, 1) := by decide +kernel
theorem dL_law_316 : decode cL_law 316 = .ok (.iload_n 3, 1) := by decide +kernel
theorem dL_law_317 : decode cL_law 317 = .ok (.iconst 3, 1) := by decide +kernel
theorem dL_law_318 : decode cL_law 318 = .ok (.iadd, 1) := by decide +kernel
theorem dL_law_319 : decode cL_law 319 = .ok (.iaload, 1) := by decide +kernel
theorem dL_law_320 : decode cL_law 320 = .ok (.aload_n 0, 1) := by decide +kernel
theorem dL_law_321 : decode cL_law 321 = .ok (.iload_n 3, 1) := by decide +kernel
theorem dL_law_322 : decode cL_law 322 = .ok (.iconst 4, 1) := by decide +kernel
theorem dL_law_323 : decode cL_law 323 = .ok (.iadd, 1) := by decide +kernel
theorem dL_law_324 : decode cL_law 324 = .ok (.iaload, 1) := by decide +kernel
theorem dL_law_325 : decode cL_law 325 = .ok (.aload_n 0, 1) := by decide +kernel
theorem dL_law_326 : decode cL_law 326 = .ok (.iload_n 3, 1) := by decide +kernel
theorem dL_law_327 : decode cL_law 327 = .ok (.iconst 5, 1) := by decide +kernel
theorem dL_law_328 : decode cL_law 328 = .ok (.iadd, 1) := by decide +kernel
theorem dL_law_329 : decode cL_law 329 = .ok (.iaload, 1) := by decide +kernel
theorem dL_law_330 : decode cL_law 330 = .ok (.invokevirtual 25, 3) := by decide +kernel
theorem dL_law_333 : decode cL_law 333 = .ok (.aload_n 2, 1) := by decide +kernel
theorem dL_law_334 : decode cL_law 334 = .ok (.aload_n 0, 1) := by decide +kernel
theorem dL_law_335 : decode cL_law 335 = .ok (.iload_n 3, 1) := by decide +kernel
theorem dL_law_336 : decode cL_law 336 = .ok (.iconst 1, 1) := by decide +kernel
theorem dL_law_337 : decode cL_law 337 = .ok (.iadd, 1) := by decide +kernel
theorem dL_law_338 : decode cL_law 338 = .ok (.iaload, 1) := by decide +kernel
theorem dL_law_339 : decode cL_law 339 = .ok (.aload_n 0, 1) := by decide +kernel
theorem dL_law_340 : decode cL_law 340 = .ok (.iload_n 3, 1) := by decide +kernel
theorem dL_law_341 : decode cL_law 341 = .ok (.iconst 2, 1) := by decide +kernel
theorem dL_law_342 : decode cL_law 342 = .ok (.iadd, 1) := by decide +kernel
theorem dL_law_343 : decode cL_law 343 = .ok (.iaload, 1) := by decide +kernel
theorem dL_law_344 : decode cL_law 344 = .ok (.aload_n 0, 1) := by decide +kernel
theorem dL_law_345 : decode cL_law 345 = .ok (.iload_n 3, 1) := by decide +kernel
theorem dL_law_346 : decode cL_law 346 = .ok (.iconst 3, 1) := by decide +kernel
theorem dL_law_347 : decode cL_law 347 = .ok (.iadd, 1) := by decide +kernel
theorem dL_law_348 : decode cL_law 348 = .ok (.iaload, 1) := by decide +kernel
theorem dL_law_349 : decode cL_law 349 = .ok (.aload_n 0, 1) := by decide +kernel
theorem dL_law_350 : decode cL_law 350 = .ok (.iload_n 3, 1) := by decide +kernel
theorem dL_law_351 : decode cL_law 351 = .ok (.iconst 4, 1) := by decide +kernel
theorem dL_law_352 : decode cL_law 352 = .ok (.iadd, 1) := by decide +kernel
theorem dL_law_353 : decode cL_law 353 = .ok (.iaload, 1) := by decide +kernel
theorem dL_law_354 : decode cL_law 354 = .ok (.aload_n 0, 1) := by decide +kernel
theorem dL_law_355 : decode cL_law 355 = .ok (.iload_n 3, 1) := by decide +kernel
theorem dL_law_356 : decode cL_law 356 = .ok (.iconst 5, 1) := by decide +kernel
theorem dL_law_357 : decode cL_law 357 = .ok (.iadd, 1) := by decide +kernel
theorem dL_law_358 : decode cL_law 358 = .ok (.iaload, 1) := by decide +kernel
theorem dL_law_359 : decode cL_law 359 = .ok (.invokevirtual 29, 3) := by decide +kernel
theorem dL_law_362 : decode cL_law 362 = .ok (.if_icmp .eq 1173, 3) := by decide +kernel
theorem dL_law_365 : decode cL_law 365 = .ok (.iconst 0, 1) := by decide +kernel
theorem dL_law_366 : decode cL_law 366 = .ok (.ireturn, 1) := by decide +kernel
theorem dL_law_367 : decode cL_law 367 = .ok (.aload_n 1, 1) := by decide +kernel
theorem dL_law_368 : decode cL_law 368 = .ok (.aload_n 0, 1) := by decide +kernel
theorem dL_law_369 : decode cL_law 369 = .ok (.iload_n 3, 1) := by decide +kernel
theorem dL_law_370 : decode cL_law 370 = .ok (.iconst 1, 1) := by decide +kernel
theorem dL_law_371 : decode cL_law 371 = .ok (.iadd, 1) := by decide +kernel
theorem dL_law_372 : decode cL_law 372 = .ok (.iaload, 1) := by decide +kernel
theorem dL_law_373 : decode cL_law 373 = .ok (.aload_n 0, 1) := by decide +kernel
theorem dL_law_374 : decode cL_law 374 = .ok (.iload_n 3, 1) := by decide +kernel
theorem dL_law_375 : decode cL_law 375 = .ok (.iconst 2, 1) := by decide +kernel
theorem dL_law_376 : decode cL_law 376 = .ok (.iadd, 1) := by decide +kernel
theorem dL_law_377 : decode cL_law 377 = .ok (.iaload, 1) := by decide +kernel
theorem dL_law_378 : decode cL_law 378 = .ok (.invokevirtual 30, 3) := by decide +kernel
theorem dL_law_381 : decode cL_law 381 = .ok (.aload_n 2, 1) := by decide +kernel
theorem dL_law_382 : decode cL_law 382 = .ok (.aload_n 0, 1) := by decide +kernel
theorem dL_law_383 : decode cL_law 383 = .ok (.iload_n 3, 1) := by decide +kernel
theorem dL_law_384 : decode cL_law 384 = .ok (.iconst 1, 1) := by decide +kernel
theorem dL_law_385 : decode cL_law 385 = .ok (.iadd, 1) := by decide +kernel
theorem dL_law_386 : decode cL_law 386 = .ok (.iaload, 1) := by decide +kernel
theorem dL_law_387 : decode cL_law 387 = .ok (.aload_n 0, 1) := by decide +kernel
theorem dL_law_388 : decode cL_law 388 = .ok (.iload_n 3, 1) := by decide +kernel
theorem dL_law_389 : decode cL_law 389 = .ok (.iconst 2, 1) := by decide +kernel
theorem dL_law_390 : decode cL_law 390 = .ok (.iadd, 1) := by decide +kernel
theorem dL_law_391 : decode cL_law 391 = .ok (.iaload, 1) := by decide +kernel
theorem dL_law_392 : decode cL_law 392 = .ok (.invokevirtual 34, 3) := by decide +kernel
theorem dL_law_395 : decode cL_law 395 = .ok (.if_icmp .eq 1140, 3) := by decide +kernel
theorem dL_law_398 : decode cL_law 398 = .ok (.iconst 0, 1) := by decide +kernel
theorem dL_law_399 : decode cL_law 399 = .ok (.ireturn, 1) := by decide +kernel
theorem dL_law_400 : decode cL_law 400 = .ok (.aload_n 1, 1) := by decide +kernel
theorem dL_law_401 : decode cL_law 401 = .ok (.aload_n 0, 1) := by decide +kernel
theorem dL_law_402 : decode cL_law 402 = .ok (.iload_n 3, 1) := by decide +kernel
theorem dL_law_403 : decode cL_law 403 = .ok (.iconst 1, 1) := by decide +kernel
theorem dL_law_404 : decode cL_law 404 = .ok (.iadd, 1) := by decide +kernel
theorem dL_law_405 : decode cL_law 405 = .ok (.iaload, 1) := by decide +kernel
theorem dL_law_406 : decode cL_law 406 = .ok (.invokevirtual 35, 3) := by decide +kernel
theorem dL_law_409 : decode cL_law 409 = .ok (.aload_n 2, 1) := by decide +kernel
theorem dL_law_410 : decode cL_law 410 = .ok (.aload_n 0, 1) := by decide +kernel
theorem dL_law_411 : decode cL_law 411 = .ok (.iload_n 3, 1) := by decide +kernel
theorem dL_law_412 : decode cL_law 412 = .ok (.iconst 1, 1) := by decide +kernel
theorem dL_law_413 : decode cL_law 413 = .ok (.iadd, 1) := by decide +kernel
theorem dL_law_414 : decode cL_law 414 = .ok (.iaload, 1) := by decide +kernel
theorem dL_law_415 : decode cL_law 415 = .ok (.invokevirtual 39, 3) := by decide +kernel
theorem dL_law_418 : decode cL_law 418 = .ok (.if_icmp .eq 1117, 3) := by decide +kernel
theorem dL_law_421 : decode cL_law 421 = .ok (.iconst 0, 1) := by decide +kernel
theorem dL_law_422 : decode cL_law 422 = .ok (.ireturn, 1) := by decide +kernel
theorem dL_law_423 : decode cL_law 423 = .ok (.aload_n 1, 1) := by decide +kernel
theorem dL_law_424 : decode cL_law 424 = .ok (.aload_n 0, 1) := by decide +kernel
theorem dL_law_425 : decode cL_law 425 = .ok (.iload_n 3, 1) := by decide +kernel
theorem dL_law_426 : decode cL_law 426 = .ok (.iconst 1, 1) := by decide +kernel
theorem dL_law_427 : decode cL_law 427 = .ok (.iadd, 1) := by decide +kernel
theorem dL_law_428 : decode cL_law 428 = .ok (.iaload, 1) := by decide +kernel
theorem dL_law_429 : decode cL_law 429 = .ok (.aload_n 0, 1) := by decide +kernel
theorem dL_law_430 : decode cL_law 430 = .ok (.iload_n 3, 1) := by decide +kernel
theorem dL_law_431 : decode cL_law 431 = .ok (.iconst 2, 1) := by decide +kernel
theorem dL_law_432 : decode cL_law 432 = .ok (.iadd, 1) := by decide +kernel
theorem dL_law_433 : decode cL_law 433 = .ok (.iaload, 1) := by decide +kernel
theorem dL_law_434 : decode cL_law 434 = .ok (.invokevirtual 40, 3) := by decide +kernel
theorem dL_law_437 : decode cL_law 437 = .ok (.aload_n 2, 1) := by decide +kernel
theorem dL_law_438 : decode cL_law 438 = .ok (.aload_n 0, 1) := by decide +kernel
theorem dL_law_439 : decode cL_law 439 = .ok (.iload_n 3, 1) := by decide +kernel
theorem dL_law_440 : decode cL_law 440 = .ok (.iconst 1, 1) := by decide +kernel
theorem dL_law_441 : decode cL_law 441 = .ok (.iadd, 1) := by decide +kernel
theorem dL_law_442 : decode cL_law 442 = .ok (.iaload, 1) := by decide +kernel
theorem dL_law_443 : decode cL_law 443 = .ok (.aload_n 0, 1) := by decide +kernel
theorem dL_law_444 : decode cL_law 444 = .ok (.iload_n 3, 1) := by decide +kernel
theorem dL_law_445 : decode cL_law 445 = .ok (.iconst 2, 1) := by decide +kernel
theorem dL_law_446 : decode cL_law 446 = .ok (.iadd, 1) := by decide +kernel
theorem dL_law_447 : decode cL_law 447 = .ok (.iaload, 1) := by decide +kernel
theorem dL_law_448 : decode cL_law 448 = .ok (.invokevirtual 43, 3) := by decide +kernel
theorem dL_law_451 : decode cL_law 451 = .ok (.if_icmp .eq 1084, 3) := by decide +kernel
theorem dL_law_454 : decode cL_law 454 = .ok (.iconst 0, 1) := by decide +kernel
theorem dL_law_455 : decode cL_law 455 = .ok (.ireturn, 1) := by decide +kernel
theorem dL_law_456 : decode cL_law 456 = .ok (.aload_n 1, 1) := by decide +kernel
theorem dL_law_457 : decode cL_law 457 = .ok (.aload_n 0, 1) := by decide +kernel
theorem dL_law_458 : decode cL_law 458 = .ok (.iload_n 3, 1) := by decide +kernel
theorem dL_law_459 : decode cL_law 459 = .ok (.iconst 1, 1) := by decide +kernel
theorem dL_law_460 : decode cL_law 460 = .ok (.iadd, 1) := by decide +kernel
theorem dL_law_461 : decode cL_law 461 = .ok (.iaload, 1) := by decide +kernel
theorem dL_law_462 : decode cL_law 462 = .ok (.aload_n 0, 1) := by decide +kernel
theorem dL_law_463 : decode cL_law 463 = .ok (.iload_n 3, 1) := by decide +kernel
theorem dL_law_464 : decode cL_law 464 = .ok (.iconst 2, 1) := by decide +kernel
theorem dL_law_465 : decode cL_law 465 = .ok (.iadd, 1) := by decide +kernel
theorem dL_law_466 : decode cL_law 466 = .ok (.iaload, 1) := by decide +kernel
theorem dL_law_467 : decode cL_law 467 = .ok (.invokevirtual 44, 3) := by decide +kernel
theorem dL_law_470 : decode cL_law 470 = .ok (.aload_n 2, 1) := by decide +kernel
theorem dL_law_471 : decode cL_law 471 = .ok (.aload_n 0, 1) := by decide +kernel
theorem dL_law_472 : decode cL_law 472 = .ok (.iload_n 3, 1) := by decide +kernel
theorem dL_law_473 : decode cL_law 473 = .ok (.iconst 1, 1) := by decide +kernel
theorem dL_law_474 : decode cL_law 474 = .ok (.iadd, 1) := by decide +kernel
theorem dL_law_475 : decode cL_law 475 = .ok (.iaload, 1) := by decide +kernel
theorem dL_law_476 : decode cL_law 476 = .ok (.aload_n 0, 1) := by decide +kernel
theorem dL_law_477 : decode cL_law 477 = .ok (.iload_n 3, 1) := by decide +kernel
theorem dL_law_478 : decode cL_law 478 = .ok (.iconst 2, 1) := by decide +kernel
theorem dL_law_479 : decode cL_law 479 = .ok (.iadd, 1) := by decide +kernel
theorem dL_law_480 : decode cL_law 480 = .ok (.iaload, 1) := by decide +kernel
theorem dL_law_481 : decode cL_law 481 = .ok (.invokevirtual 47, 3) := by decide +kernel
theorem dL_law_484 : decode cL_law 484 = .ok (.if_icmp .eq 1051, 3) := by decide +kernel
theorem dL_law_487 : decode cL_law 487 = .ok (.iconst 0, 1) := by decide +kernel
theorem dL_law_488 : decode cL_law 488 = .ok (.ireturn, 1) := by decide +kernel
theorem dL_law_489 : decode cL_law 489 = .ok (.aload_n 1, 1) := by decide +kernel
theorem dL_law_490 : decode cL_law 490 = .ok (.aload_n 0, 1) := by decide +kernel
theorem dL_law_491 : decode cL_law 491 = .ok (.iload_n 3, 1) := by decide +kernel
theorem dL_law_492 : decode cL_law 492 = .ok (.iconst 1, 1) := by decide +kernel
theorem dL_law_493 : decode cL_law 493 = .ok (.iadd, 1) := by decide +kernel
theorem dL_law_494 : decode cL_law 494 = .ok (.iaload, 1) := by decide +kernel
theorem dL_law_495 : decode cL_law 495 = .ok (.aload_n 0, 1) := by decide +kernel
theorem dL_law_496 : decode cL_law 496 = .ok (.iload_n 3, 1) := by decide +kernel
theorem dL_law_497 : decode cL_law 497 = .ok (.iconst 2, 1) := by decide +kernel
theorem dL_law_498 : decode cL_law 498 = .ok (.iadd, 1) := by decide +kernel
theorem dL_law_499 : decode cL_law 499 = .ok (.iaload, 1) := by decide +kernel
theorem dL_law_500 : decode cL_law 500 = .ok (.invokevirtual 48, 3) := by decide +kernel
theorem dL_law_503 : decode cL_law 503 = .ok (.aload_n 2, 1) := by decide +kernel
theorem dL_law_504 : decode cL_law 504 = .ok (.aload_n 0, 1) := by decide +kernel
theorem dL_law_505 : decode cL_law 505 = .ok (.iload_n 3, 1) := by decide +kernel
theorem dL_law_506 : decode cL_law 506 = .ok (.iconst 1, 1) := by decide +kernel
theorem dL_law_507 : decode cL_law 507 = .ok (.iadd, 1) := by decide +kernel
theorem dL_law_508 : decode cL_law 508 = .ok (.iaload, 1) := by decide +kernel
theorem dL_law_509 : decode cL_law 509 = .ok (.aload_n 0, 1) := by decide +kernel
theorem dL_law_510 : decode cL_law 510 = .ok (.iload_n 3, 1) := by decide +kernel
theorem dL_law_511 : decode cL_law 511 = .ok (.iconst 2, 1) := by decide +kernel
theorem dL_law_512 : decode cL_law 512 = .ok (.iadd, 1) := by decide +kernel
theorem dL_law_513 : decode cL_law 513 = .ok (.iaload, 1) := by decide +kernel
theorem dL_law_514 : decode cL_law 514 = .ok (.invokevirtual 51, 3) := by decide +kernel
theorem dL_law_517 : decode cL_law 517 = .ok (.if_icmp .eq 1018, 3) := by decide +kernel
theorem dL_law_520 : decode cL_law 520 = .ok (.iconst 0, 1) := by decide +kernel
theorem dL_law_521 : decode cL_law 521 = .ok (.ireturn, 1) := by decide +kernel
theorem dL_law_522 : decode cL_law 522 = .ok (.aload_n 1, 1) := by decide +kernel
theorem dL_law_523 : decode cL_law 523 = .ok (.aload_n 0, 1) := by decide +kernel
theorem dL_law_524 : decode cL_law 524 = .ok (.iload_n 3, 1) := by decide +kernel
theorem dL_law_525 : decode cL_law 525 = .ok (.iconst 1, 1) := by decide +kernel
theorem dL_law_526 : decode cL_law 526 = .ok (.iadd, 1) := by decide +kernel
theorem dL_law_527 : decode cL_law 527 = .ok (.iaload, 1) := by decide +kernel
theorem dL_law_528 : decode cL_law 528 = .ok (.invokevirtual 52, 3) := by decide +kernel
theorem dL_law_531 : decode cL_law 531 = .ok (.aload_n 2, 1) := by decide +kernel
theorem dL_law_532 : decode cL_law 532 = .ok (.aload_n 0, 1) := by decide +kernel
theorem dL_law_533 : decode cL_law 533 = .ok (.iload_n 3, 1) := by decide +kernel
theorem dL_law_534 : decode cL_law 534 = .ok (.iconst 1, 1) := by decide +kernel
theorem dL_law_535 : decode cL_law 535 = .ok (.iadd, 1) := by decide +kernel
theorem dL_law_536 : decode cL_law 536 = .ok (.iaload, 1) := by decide +kernel
theorem dL_law_537 : decode cL_law 537 = .ok (.invokevirtual 55, 3) := by decide +kernel
theorem dL_law_540 : decode cL_law 540 = .ok (.if_icmp .eq 995, 3) := by decide +kernel
theorem dL_law_543 : decode cL_law 543 = .ok (.iconst 0, 1) := by decide +kernel
theorem dL_law_544 : decode cL_law 544 = .ok (.ireturn, 1) := by decide +kernel
theorem dL_law_545 : decode cL_law 545 = .ok (.aload_n 1, 1) := by decide +kernel
theorem dL_law_546 : decode cL_law 546 = .ok (.aload_n 0, 1) := by decide +kernel
theorem dL_law_547 : decode cL_law 547 = .ok (.iload_n 3, 1) := by decide +kernel
theorem dL_law_548 : decode cL_law 548 = .ok (.iconst 1, 1) := by decide +kernel
theorem dL_law_549 : decode cL_law 549 = .ok (.iadd, 1) := by decide +kernel
theorem dL_law_550 : decode cL_law 550 = .ok (.iaload, 1) := by decide +kernel
theorem dL_law_551 : decode cL_law 551 = .ok (.invokevirtual 56, 3) := by decide +kernel
theorem dL_law_554 : decode cL_law 554 = .ok (.aload_n 2, 1) := by decide +kernel
theorem dL_law_555 : decode cL_law 555 = .ok (.aload_n 0, 1) := by decide +kernel
theorem dL_law_556 : decode cL_law 556 = .ok (.iload_n 3, 1) := by decide +kernel
theorem dL_law_557 : decode cL_law 557 = .ok (.iconst 1, 1) := by decide +kernel
theorem dL_law_558 : decode cL_law 558 = .ok (.iadd, 1) := by decide +kernel
theorem dL_law_559 : decode cL_law 559 = .ok (.iaload, 1) := by decide +kernel
theorem dL_law_560 : decode cL_law 560 = .ok (.invokevirtual 59, 3) := by decide +kernel
theorem dL_law_563 : decode cL_law 563 = .ok (.if_icmp .eq 972, 3) := by decide +kernel
theorem dL_law_566 : decode cL_law 566 = .ok (.iconst 0, 1) := by decide +kernel
theorem dL_law_567 : decode cL_law 567 = .ok (.ireturn, 1) := by decide +kernel
theorem dL_law_568 : decode cL_law 568 = .ok (.aload_n 1, 1) := by decide +kernel
theorem dL_law_569 : decode cL_law 569 = .ok (.aload_n 0, 1) := by decide +kernel
theorem dL_law_570 : decode cL_law 570 = .ok (.iload_n 3, 1) := by decide +kernel
theorem dL_law_571 : decode cL_law 571 = .ok (.iconst 1, 1) := by decide +kernel
theorem dL_law_572 : decode cL_law 572 = .ok (.iadd, 1) := by decide +kernel
theorem dL_law_573 : decode cL_law 573 = .ok (.iaload, 1) := by decide +kernel
theorem dL_law_574 : decode cL_law 574 = .ok (.invokevirtual 60, 3) := by decide +kernel
theorem dL_law_577 : decode cL_law 577 = .ok (.aload_n 2, 1) := by decide +kernel
theorem dL_law_578 : decode cL_law 578 = .ok (.aload_n 0, 1) := by decide +kernel
theorem dL_law_579 : decode cL_law 579 = .ok (.iload_n 3, 1) := by decide +kernel
theorem dL_law_580 : decode cL_law 580 = .ok (.iconst 1, 1) := by decide +kernel
theorem dL_law_581 : decode cL_law 581 = .ok (.iadd, 1) := by decide +kernel
theorem dL_law_582 : decode cL_law 582 = .ok (.iaload, 1) := by decide +kernel
theorem dL_law_583 : decode cL_law 583 = .ok (.invokevirtual 63, 3) := by decide +kernel
theorem dL_law_586 : decode cL_law 586 = .ok (.if_icmp .eq 949, 3) := by decide +kernel
theorem dL_law_589 : decode cL_law 589 = .ok (.iconst 0, 1) := by decide +kernel
theorem dL_law_590 : decode cL_law 590 = .ok (.ireturn, 1) := by decide +kernel
theorem dL_law_591 : decode cL_law 591 = .ok (.aload_n 1, 1) := by decide +kernel
theorem dL_law_592 : decode cL_law 592 = .ok (.aload_n 0, 1) := by decide +kernel
theorem dL_law_593 : decode cL_law 593 = .ok (.iload_n 3, 1) := by decide +kernel
theorem dL_law_594 : decode cL_law 594 = .ok (.iconst 1, 1) := by decide +kernel
theorem dL_law_595 : decode cL_law 595 = .ok (.iadd, 1) := by decide +kernel
theorem dL_law_596 : decode cL_law 596 = .ok (.iaload, 1) := by decide +kernel
theorem dL_law_597 : decode cL_law 597 = .ok (.invokevirtual 64, 3) := by decide +kernel
theorem dL_law_600 : decode cL_law 600 = .ok (.aload_n 2, 1) := by decide +kernel
theorem dL_law_601 : decode cL_law 601 = .ok (.aload_n 0, 1) := by decide +kernel
theorem dL_law_602 : decode cL_law 602 = .ok (.iload_n 3, 1) := by decide +kernel
theorem dL_law_603 : decode cL_law 603 = .ok (.iconst 1, 1) := by decide +kernel
theorem dL_law_604 : decode cL_law 604 = .ok (.iadd, 1) := by decide +kernel
theorem dL_law_605 : decode cL_law 605 = .ok (.iaload, 1) := by decide +kernel
theorem dL_law_606 : decode cL_law 606 = .ok (.invokevirtual 67, 3) := by decide +kernel
theorem dL_law_609 : decode cL_law 609 = .ok (.if_icmp .eq 926, 3) := by decide +kernel
theorem dL_law_612 : decode cL_law 612 = .ok (.iconst 0, 1) := by decide +kernel
theorem dL_law_613 : decode cL_law 613 = .ok (.ireturn, 1) := by decide +kernel
theorem dL_law_614 : decode cL_law 614 = .ok (.aload_n 1, 1) := by decide +kernel
theorem dL_law_615 : decode cL_law 615 = .ok (.aload_n 0, 1) := by decide +kernel
theorem dL_law_616 : decode cL_law 616 = .ok (.iload_n 3, 1) := by decide +kernel
theorem dL_law_617 : decode cL_law 617 = .ok (.iconst 1, 1) := by decide +kernel
theorem dL_law_618 : decode cL_law 618 = .ok (.iadd, 1) := by decide +kernel
theorem dL_law_619 : decode cL_law 619 = .ok (.iaload, 1) := by decide +kernel
theorem dL_law_620 : decode cL_law 620 = .ok (.invokevirtual 68, 3) := by decide +kernel
theorem dL_law_623 : decode cL_law 623 = .ok (.aload_n 2, 1) := by decide +kernel
theorem dL_law_624 : decode cL_law 624 = .ok (.aload_n 0, 1) := by decide +kernel
theorem dL_law_625 : decode cL_law 625 = .ok (.iload_n 3, 1) := by decide +kernel
theorem dL_law_626 : decode cL_law 626 = .ok (.iconst 1, 1) := by decide +kernel
theorem dL_law_627 : decode cL_law 627 = .ok (.iadd, 1) := by decide +kernel
theorem dL_law_628 : decode cL_law 628 = .ok (.iaload, 1) := by decide +kernel
theorem dL_law_629 : decode cL_law 629 = .ok (.invokevirtual 71, 3) := by decide +kernel
theorem dL_law_632 : decode cL_law 632 = .ok (.if_icmp .eq 903, 3) := by decide +kernel
theorem dL_law_635 : decode cL_law 635 = .ok (.iconst 0, 1) := by decide +kernel
theorem dL_law_636 : decode cL_law 636 = .ok (.ireturn, 1) := by decide +kernel
theorem dL_law_637 : decode cL_law 637 = .ok (.aload_n 1, 1) := by decide +kernel
theorem dL_law_638 : decode cL_law 638 = .ok (.invokevirtual 72, 3) := by decide +kernel
theorem dL_law_641 : decode cL_law 641 = .ok (.aload_n 2, 1) := by decide +kernel
theorem dL_law_642 : decode cL_law 642 = .ok (.invokevirtual 75, 3) := by decide +kernel
theorem dL_law_645 : decode cL_law 645 = .ok (.if_icmp .eq 890, 3) := by decide +kernel
theorem dL_law_648 : decode cL_law 648 = .ok (.iconst 0, 1) := by decide +kernel
theorem dL_law_649 : decode cL_law 649 = .ok (.ireturn, 1) := by decide +kernel
theorem dL_law_650 : decode cL_law 650 = .ok (.aload_n 1, 1) := by decide +kernel
theorem dL_law_651 : decode cL_law 651 = .ok (.invokevirtual 76, 3) := by decide +kernel
theorem dL_law_654 : decode cL_law 654 = .ok (.aload_n 2, 1) := by decide +kernel
theorem dL_law_655 : decode cL_law 655 = .ok (.invokevirtual 79, 3) := by decide +kernel
theorem dL_law_658 : decode cL_law 658 = .ok (.if_icmp .eq 877, 3) := by decide +kernel
theorem dL_law_661 : decode cL_law 661 = .ok (.iconst 0, 1) := by decide +kernel
theorem dL_law_662 : decode cL_law 662 = .ok (.ireturn, 1) := by decide +kernel
theorem dL_law_663 : decode cL_law 663 = .ok (.aload_n 1, 1) := by decide +kernel
theorem dL_law_664 : decode cL_law 664 = .ok (.aload_n 0, 1) := by decide +kernel
theorem dL_law_665 : decode cL_law 665 = .ok (.iload_n 3, 1) := by decide +kernel
theorem dL_law_666 : decode cL_law 666 = .ok (.iconst 1, 1) := by decide +kernel
theorem dL_law_667 : decode cL_law 667 = .ok (.iadd, 1) := by decide +kernel
theorem dL_law_668 : decode cL_law 668 = .ok (.iaload, 1) := by decide +kernel
theorem dL_law_669 : decode cL_law 669 = .ok (.invokevirtual 80, 3) := by decide +kernel
theorem dL_law_672 : decode cL_law 672 = .ok (.aload_n 2, 1) := by decide +kernel
theorem dL_law_673 : decode cL_law 673 = .ok (.aload_n 0, 1) := by decide +kernel
theorem dL_law_674 : decode cL_law 674 = .ok (.iload_n 3, 1) := by decide +kernel
theorem dL_law_675 : decode cL_law 675 = .ok (.iconst 1, 1) := by decide +kernel
theorem dL_law_676 : decode cL_law 676 = .ok (.iadd, 1) := by decide +kernel
theorem dL_law_677 : decode cL_law 677 = .ok (.iaload, 1) := by decide +kernel
theorem dL_law_678 : decode cL_law 678 = .ok (.invokevirtual 83, 3) := by decide +kernel
theorem dL_law_681 : decode cL_law 681 = .ok (.if_icmp .eq 854, 3) := by decide +kernel
theorem dL_law_684 : decode cL_law 684 = .ok (.iconst 0, 1) := by decide +kernel
theorem dL_law_685 : decode cL_law 685 = .ok (.ireturn, 1) := by decide +kernel
theorem dL_law_686 : decode cL_law 686 = .ok (.aload_n 1, 1) := by decide +kernel
theorem dL_law_687 : decode cL_law 687 = .ok (.invokevirtual 84, 3) := by decide +kernel
theorem dL_law_690 : decode cL_law 690 = .ok (.aload_n 2, 1) := by decide +kernel
theorem dL_law_691 : decode cL_law 691 = .ok (.invokevirtual 87, 3) := by decide +kernel
theorem dL_law_694 : decode cL_law 694 = .ok (.if_icmp .eq 841, 3) := by decide +kernel
theorem dL_law_697 : decode cL_law 697 = .ok (.iconst 0, 1) := by decide +kernel
theorem dL_law_698 : decode cL_law 698 = .ok (.ireturn, 1) := by decide +kernel
theorem dL_law_699 : decode cL_law 699 = .ok (.aload_n 1, 1) := by decide +kernel
theorem dL_law_700 : decode cL_law 700 = .ok (.aload_n 0, 1) := by decide +kernel
theorem dL_law_701 : decode cL_law 701 = .ok (.iload_n 3, 1) := by decide +kernel
theorem dL_law_702 : decode cL_law 702 = .ok (.iconst 1, 1) := by decide +kernel
theorem dL_law_703 : decode cL_law 703 = .ok (.iadd, 1) := by decide +kernel
theorem dL_law_704 : decode cL_law 704 = .ok (.iaload, 1) := by decide +kernel
theorem dL_law_705 : decode cL_law 705 = .ok (.aload_n 0, 1) := by decide +kernel
theorem dL_law_706 : decode cL_law 706 = .ok (.iload_n 3, 1) := by decide +kernel
theorem dL_law_707 : decode cL_law 707 = .ok (.iconst 2, 1) := by decide +kernel
theorem dL_law_708 : decode cL_law 708 = .ok (.iadd, 1) := by decide +kernel
theorem dL_law_709 : decode cL_law 709 = .ok (.iaload, 1) := by decide +kernel
theorem dL_law_710 : decode cL_law 710 = .ok (.aload_n 0, 1) := by decide +kernel
theorem dL_law_711 : decode cL_law 711 = .ok (.iload_n 3, 1) := by decide +kernel
theorem dL_law_712 : decode cL_law 712 = .ok (.iconst 3, 1) := by decide +kernel
theorem dL_law_713 : decode cL_law 713 = .ok (.iadd, 1) := by decide +kernel
theorem dL_law_714 : decode cL_law 714 = .ok (.iaload, 1) := by decide +kernel
theorem dL_law_715 : decode cL_law 715 = .ok (.invokevirtual 88, 3) := by decide +kernel
theorem dL_law_718 : decode cL_law 718 = .ok (.aload_n 2, 1) := by decide +kernel
theorem dL_law_719 : decode cL_law 719 = .ok (.aload_n 0, 1) := by decide +kernel
theorem dL_law_720 : decode cL_law 720 = .ok (.iload_n 3, 1) := by decide +kernel
theorem dL_law_721 : decode cL_law 721 = .ok (.iconst 1, 1) := by decide +kernel
theorem dL_law_722 : decode cL_law 722 = .ok (.iadd, 1) := by decide +kernel
theorem dL_law_723 : decode cL_law 723 = .ok (.iaload, 1) := by decide +kernel
theorem dL_law_724 : decode cL_law 724 = .ok (.aload_n 0, 1) := by decide +kernel
theorem dL_law_725 : decode cL_law 725 = .ok (.iload_n 3, 1) := by decide +kernel
theorem dL_law_726 : decode cL_law 726 = .ok (.iconst 2, 1) := by decide +kernel
theorem dL_law_727 : decode cL_law 727 = .ok (.iadd, 1) := by decide +kernel
theorem dL_law_728 : decode cL_law 728 = .ok (.iaload, 1) := by decide +kernel
theorem dL_law_729 : decode cL_law 729 = .ok (.aload_n 0, 1) := by decide +kernel
theorem dL_law_730 : decode cL_law 730 = .ok (.iload_n 3, 1) := by decide +kernel
theorem dL_law_731 : decode cL_law 731 = .ok (.iconst 3, 1) := by decide +kernel
theorem dL_law_732 : decode cL_law 732 = .ok (.iadd, 1) := by decide +kernel
theorem dL_law_733 : decode cL_law 733 = .ok (.iaload, 1) := by decide +kernel
theorem dL_law_734 : decode cL_law 734 = .ok (.invokevirtual 92, 3) := by decide +kernel
theorem dL_law_737 : decode cL_law 737 = .ok (.if_icmp .eq 798, 3) := by decide +kernel
theorem dL_law_740 : decode cL_law 740 = .ok (.iconst 0, 1) := by decide +kernel
theorem dL_law_741 : decode cL_law 741 = .ok (.ireturn, 1) := by decide +kernel
theorem dL_law_742 : decode cL_law 742 = .ok (.aload_n 1, 1) := by decide +kernel
theorem dL_law_743 : decode cL_law 743 = .ok (.aload_n 0, 1) := by decide +kernel
theorem dL_law_744 : decode cL_law 744 = .ok (.iload_n 3, 1) := by decide +kernel
theorem dL_law_745 : decode cL_law 745 = .ok (.iconst 1, 1) := by decide +kernel
theorem dL_law_746 : decode cL_law 746 = .ok (.iadd, 1) := by decide +kernel
theorem dL_law_747 : decode cL_law 747 = .ok (.iaload, 1) := by decide +kernel
theorem dL_law_748 : decode cL_law 748 = .ok (.aload_n 0, 1) := by decide +kernel
theorem dL_law_749 : decode cL_law 749 = .ok (.iload_n 3, 1) := by decide +kernel
theorem dL_law_750 : decode cL_law 750 = .ok (.iconst 2, 1) := by decide +kernel
theorem dL_law_751 : decode cL_law 751 = .ok (.iadd, 1) := by decide +kernel
theorem dL_law_752 : decode cL_law 752 = .ok (.iaload, 1) := by decide +kernel
theorem dL_law_753 : decode cL_law 753 = .ok (.aload_n 0, 1) := by decide +kernel
theorem dL_law_754 : decode cL_law 754 = .ok (.iload_n 3, 1) := by decide +kernel
theorem dL_law_755 : decode cL_law 755 = .ok (.iconst 3, 1) := by decide +kernel
theorem dL_law_756 : decode cL_law 756 = .ok (.iadd, 1) := by decide +kernel
theorem dL_law_757 : decode cL_law 757 = .ok (.iaload, 1) := by decide +kernel
theorem dL_law_758 : decode cL_law 758 = .ok (.aload_n 0, 1) := by decide +kernel
theorem dL_law_759 : decode cL_law 759 = .ok (.iload_n 3, 1) := by decide +kernel
theorem dL_law_760 : decode cL_law 760 = .ok (.iconst 4, 1) := by decide +kernel
theorem dL_law_761 : decode cL_law 761 = .ok (.iadd, 1) := by decide +kernel
theorem dL_law_762 : decode cL_law 762 = .ok (.iaload, 1) := by decide +kernel
theorem dL_law_763 : decode cL_law 763 = .ok (.aload_n 0, 1) := by decide +kernel
theorem dL_law_764 : decode cL_law 764 = .ok (.iload_n 3, 1) := by decide +kernel
theorem dL_law_765 : decode cL_law 765 = .ok (.iconst 5, 1) := by decide +kernel
theorem dL_law_766 : decode cL_law 766 = .ok (.iadd, 1) := by decide +kernel
theorem dL_law_767 : decode cL_law 767 = .ok (.iaload, 1) := by decide +kernel
theorem dL_law_768 : decode cL_law 768 = .ok (.invokevirtual 93, 3) := by decide +kernel
theorem dL_law_771 : decode cL_law 771 = .ok (.aload_n 2, 1) := by decide +kernel
theorem dL_law_772 : decode cL_law 772 = .ok (.aload_n 0, 1) := by decide +kernel
theorem dL_law_773 : decode cL_law 773 = .ok (.iload_n 3, 1) := by decide +kernel
theorem dL_law_774 : decode cL_law 774 = .ok (.iconst 1, 1) := by decide +kernel
theorem dL_law_775 : decode cL_law 775 = .ok (.iadd, 1) := by decide +kernel
theorem dL_law_776 : decode cL_law 776 = .ok (.iaload, 1) := by decide +kernel
theorem dL_law_777 : decode cL_law 777 = .ok (.aload_n 0, 1) := by decide +kernel
theorem dL_law_778 : decode cL_law 778 = .ok (.iload_n 3, 1) := by decide +kernel
theorem dL_law_779 : decode cL_law 779 = .ok (.iconst 2, 1) := by decide +kernel
theorem dL_law_780 : decode cL_law 780 = .ok (.iadd, 1) := by decide +kernel
theorem dL_law_781 : decode cL_law 781 = .ok (.iaload, 1) := by decide +kernel
theorem dL_law_782 : decode cL_law 782 = .ok (.aload_n 0, 1) := by decide +kernel
theorem dL_law_783 : decode cL_law 783 = .ok (.iload_n 3, 1) := by decide +kernel
theorem dL_law_784 : decode cL_law 784 = .ok (.iconst 3, 1) := by decide +kernel
theorem dL_law_785 : decode cL_law 785 = .ok (.iadd, 1) := by decide +kernel
theorem dL_law_786 : decode cL_law 786 = .ok (.iaload, 1) := by decide +kernel
theorem dL_law_787 : decode cL_law 787 = .ok (.aload_n 0, 1) := by decide +kernel
theorem dL_law_788 : decode cL_law 788 = .ok (.iload_n 3, 1) := by decide +kernel
theorem dL_law_789 : decode cL_law 789 = .ok (.iconst 4, 1) := by decide +kernel
theorem dL_law_790 : decode cL_law 790 = .ok (.iadd, 1) := by decide +kernel
theorem dL_law_791 : decode cL_law 791 = .ok (.iaload, 1) := by decide +kernel
theorem dL_law_792 : decode cL_law 792 = .ok (.aload_n 0, 1) := by decide +kernel
theorem dL_law_793 : decode cL_law 793 = .ok (.iload_n 3, 1) := by decide +kernel
theorem dL_law_794 : decode cL_law 794 = .ok (.iconst 5, 1) := by decide +kernel
theorem dL_law_795 : decode cL_law 795 = .ok (.iadd, 1) := by decide +kernel
theorem dL_law_796 : decode cL_law 796 = .ok (.iaload, 1) := by decide +kernel
theorem dL_law_797 : decode cL_law 797 = .ok (.invokevirtual 96, 3) := by decide +kernel
theorem dL_law_800 : decode cL_law 800 = .ok (.if_icmp .eq 735, 3) := by decide +kernel
theorem dL_law_803 : decode cL_law 803 = .ok (.iconst 0, 1) := by decide +kernel
theorem dL_law_804 : decode cL_law 804 = .ok (.ireturn, 1) := by decide +kernel
theorem dL_law_805 : decode cL_law 805 = .ok (.aload_n 1, 1) := by decide +kernel
theorem dL_law_806 : decode cL_law 806 = .ok (.aload_n 0, 1) := by decide +kernel
theorem dL_law_807 : decode cL_law 807 = .ok (.iload_n 3, 1) := by decide +kernel
theorem dL_law_808 : decode cL_law 808 = .ok (.iconst 1, 1) := by decide +kernel
theorem dL_law_809 : decode cL_law 809 = .ok (.iadd, 1) := by decide +kernel
theorem dL_law_810 : decode cL_law 810 = .ok (.iaload, 1) := by decide +kernel
theorem dL_law_811 : decode cL_law 811 = .ok (.invokevirtual 97, 3) := by decide +kernel
theorem dL_law_814 : decode cL_law 814 = .ok (.aload_n 2, 1) := by decide +kernel
theorem dL_law_815 : decode cL_law 815 = .ok (.aload_n 0, 1) := by decide +kernel
theorem dL_law_816 : decode cL_law 816 = .ok (.iload_n 3, 1) := by decide +kernel
theorem dL_law_817 : decode cL_law 817 = .ok (.iconst 1, 1) := by decide +kernel
theorem dL_law_818 : decode cL_law 818 = .ok (.iadd, 1) := by decide +kernel
theorem dL_law_819 : decode cL_law 819 = .ok (.iaload, 1) := by decide +kernel
theorem dL_law_820 : decode cL_law 820 = .ok (.invokevirtual 100, 3) := by decide +kernel
theorem dL_law_823 : decode cL_law 823 = .ok (.if_icmp .eq 712, 3) := by decide +kernel
theorem dL_law_826 : decode cL_law 826 = .ok (.iconst 0, 1) := by decide +kernel
theorem dL_law_827 : decode cL_law 827 = .ok (.ireturn, 1) := by decide +kernel
theorem dL_law_828 : decode cL_law 828 = .ok (.aload_n 1, 1) := by decide +kernel
theorem dL_law_829 : decode cL_law 829 = .ok (.invokevirtual 101, 3) := by decide +kernel
theorem dL_law_832 : decode cL_law 832 = .ok (.aload_n 2, 1) := by decide +kernel
theorem dL_law_833 : decode cL_law 833 = .ok (.invokevirtual 104, 3) := by decide +kernel
theorem dL_law_836 : decode cL_law 836 = .ok (.if_icmp .eq 699, 3) := by decide +kernel
theorem dL_law_839 : decode cL_law 839 = .ok (.iconst 0, 1) := by decide +kernel
theorem dL_law_840 : decode cL_law 840 = .ok (.ireturn, 1) := by decide +kernel
theorem dL_law_841 : decode cL_law 841 = .ok (.aload_n 1, 1) := by decide +kernel
theorem dL_law_842 : decode cL_law 842 = .ok (.aload_n 0, 1) := by decide +kernel
theorem dL_law_843 : decode cL_law 843 = .ok (.iload_n 3, 1) := by decide +kernel
theorem dL_law_844 : decode cL_law 844 = .ok (.iconst 1, 1) := by decide +kernel
theorem dL_law_845 : decode cL_law 845 = .ok (.iadd, 1) := by decide +kernel
theorem dL_law_846 : decode cL_law 846 = .ok (.iaload, 1) := by decide +kernel
theorem dL_law_847 : decode cL_law 847 = .ok (.invokevirtual 105, 3) := by decide +kernel
theorem dL_law_850 : decode cL_law 850 = .ok (.aload_n 2, 1) := by decide +kernel
theorem dL_law_851 : decode cL_law 851 = .ok (.aload_n 0, 1) := by decide +kernel
theorem dL_law_852 : decode cL_law 852 = .ok (.iload_n 3, 1) := by decide +kernel
theorem dL_law_853 : decode cL_law 853 = .ok (.iconst 1, 1) := by decide +kernel
theorem dL_law_854 : decode cL_law 854 = .ok (.iadd, 1) := by decide +kernel
theorem dL_law_855 : decode cL_law 855 = .ok (.iaload, 1) := by decide +kernel
theorem dL_law_856 : decode cL_law 856 = .ok (.invokevirtual 108, 3) := by decide +kernel
theorem dL_law_859 : decode cL_law 859 = .ok (.if_icmp .eq 676, 3) := by decide +kernel
theorem dL_law_862 : decode cL_law 862 = .ok (.iconst 0, 1) := by decide +kernel
theorem dL_law_863 : decode cL_law 863 = .ok (.ireturn, 1) := by decide +kernel
theorem dL_law_864 : decode cL_law 864 = .ok (.aload_n 1, 1) := by decide +kernel
theorem dL_law_865 : decode cL_law 865 = .ok (.aload_n 0, 1) := by decide +kernel
theorem dL_law_866 : decode cL_law 866 = .ok (.iload_n 3, 1) := by decide +kernel
theorem dL_law_867 : decode cL_law 867 = .ok (.iconst 1, 1) := by decide +kernel
theorem dL_law_868 : decode cL_law 868 = .ok (.iadd, 1) := by decide +kernel
theorem dL_law_869 : decode cL_law 869 = .ok (.iaload, 1) := by decide +kernel
theorem dL_law_870 : decode cL_law 870 = .ok (.invokevirtual 109, 3) := by decide +kernel
theorem dL_law_873 : decode cL_law 873 = .ok (.aload_n 2, 1) := by decide +kernel
theorem dL_law_874 : decode cL_law 874 = .ok (.aload_n 0, 1) := by decide +kernel
theorem dL_law_875 : decode cL_law 875 = .ok (.iload_n 3, 1) := by decide +kernel
theorem dL_law_876 : decode cL_law 876 = .ok (.iconst 1, 1) := by decide +kernel
theorem dL_law_877 : decode cL_law 877 = .ok (.iadd, 1) := by decide +kernel
theorem dL_law_878 : decode cL_law 878 = .ok (.iaload, 1) := by decide +kernel
theorem dL_law_879 : decode cL_law 879 = .ok (.invokevirtual 112, 3) := by decide +kernel
theorem dL_law_882 : decode cL_law 882 = .ok (.if_icmp .eq 653, 3) := by decide +kernel
theorem dL_law_885 : decode cL_law 885 = .ok (.iconst 0, 1) := by decide +kernel
theorem dL_law_886 : decode cL_law 886 = .ok (.ireturn, 1) := by decide +kernel
theorem dL_law_887 : decode cL_law 887 = .ok (.aload_n 1, 1) := by decide +kernel
theorem dL_law_888 : decode cL_law 888 = .ok (.aload_n 0, 1) := by decide +kernel
theorem dL_law_889 : decode cL_law 889 = .ok (.iload_n 3, 1) := by decide +kernel
theorem dL_law_890 : decode cL_law 890 = .ok (.iconst 1, 1) := by decide +kernel
theorem dL_law_891 : decode cL_law 891 = .ok (.iadd, 1) := by decide +kernel
theorem dL_law_892 : decode cL_law 892 = .ok (.iaload, 1) := by decide +kernel
theorem dL_law_893 : decode cL_law 893 = .ok (.invokevirtual 113, 3) := by decide +kernel
theorem dL_law_896 : decode cL_law 896 = .ok (.aload_n 2, 1) := by decide +kernel
theorem dL_law_897 : decode cL_law 897 = .ok (.aload_n 0, 1) := by decide +kernel
theorem dL_law_898 : decode cL_law 898 = .ok (.iload_n 3, 1) := by decide +kernel
theorem dL_law_899 : decode cL_law 899 = .ok (.iconst 1, 1) := by decide +kernel
theorem dL_law_900 : decode cL_law 900 = .ok (.iadd, 1) := by decide +kernel
theorem dL_law_901 : decode cL_law 901 = .ok (.iaload, 1) := by decide +kernel
theorem dL_law_902 : decode cL_law 902 = .ok (.invokevirtual 116, 3) := by decide +kernel
theorem dL_law_905 : decode cL_law 905 = .ok (.if_icmp .eq 630, 3) := by decide +kernel
theorem dL_law_908 : decode cL_law 908 = .ok (.iconst 0, 1) := by decide +kernel
theorem dL_law_909 : decode cL_law 909 = .ok (.ireturn, 1) := by decide +kernel
theorem dL_law_910 : decode cL_law 910 = .ok (.aload_n 1, 1) := by decide +kernel
theorem dL_law_911 : decode cL_law 911 = .ok (.aload_n 0, 1) := by decide +kernel
theorem dL_law_912 : decode cL_law 912 = .ok (.iload_n 3, 1) := by decide +kernel
theorem dL_law_913 : decode cL_law 913 = .ok (.iconst 1, 1) := by decide +kernel
theorem dL_law_914 : decode cL_law 914 = .ok (.iadd, 1) := by decide +kernel
theorem dL_law_915 : decode cL_law 915 = .ok (.iaload, 1) := by decide +kernel
theorem dL_law_916 : decode cL_law 916 = .ok (.aload_n 0, 1) := by decide +kernel
theorem dL_law_917 : decode cL_law 917 = .ok (.iload_n 3, 1) := by decide +kernel
theorem dL_law_918 : decode cL_law 918 = .ok (.iconst 2, 1) := by decide +kernel
theorem dL_law_919 : decode cL_law 919 = .ok (.iadd, 1) := by decide +kernel
theorem dL_law_920 : decode cL_law 920 = .ok (.iaload, 1) := by decide +kernel
theorem dL_law_921 : decode cL_law 921 = .ok (.aload_n 0, 1) := by decide +kernel
theorem dL_law_922 : decode cL_law 922 = .ok (.iload_n 3, 1) := by decide +kernel
theorem dL_law_923 : decode cL_law 923 = .ok (.iconst 3, 1) := by decide +kernel
theorem dL_law_924 : decode cL_law 924 = .ok (.iadd, 1) := by decide +kernel
theorem dL_law_925 : decode cL_law 925 = .ok (.iaload, 1) := by decide +kernel
theorem dL_law_926 : decode cL_law 926 = .ok (.aload_n 0, 1) := by decide +kernel
theorem dL_law_927 : decode cL_law 927 = .ok (.iload_n 3, 1) := by decide +kernel
theorem dL_law_928 : decode cL_law 928 = .ok (.iconst 4, 1) := by decide +kernel
theorem dL_law_929 : decode cL_law 929 = .ok (.iadd, 1) := by decide +kernel
theorem dL_law_930 : decode cL_law 930 = .ok (.iaload, 1) := by decide +kernel
theorem dL_law_931 : decode cL_law 931 = .ok (.aload_n 0, 1) := by decide +kernel
theorem dL_law_932 : decode cL_law 932 = .ok (.iload_n 3, 1) := by decide +kernel
theorem dL_law_933 : decode cL_law 933 = .ok (.iconst 5, 1) := by decide +kernel
theorem dL_law_934 : decode cL_law 934 = .ok (.iadd, 1) := by decide +kernel
theorem dL_law_935 : decode cL_law 935 = .ok (.iaload, 1) := by decide +kernel
theorem dL_law_936 : decode cL_law 936 = .ok (.aload_n 0, 1) := by decide +kernel
theorem dL_law_937 : decode cL_law 937 = .ok (.iload_n 3, 1) := by decide +kernel
theorem dL_law_938 : decode cL_law 938 = .ok (.bipush 6, 2) := by decide +kernel
theorem dL_law_940 : decode cL_law 940 = .ok (.iadd, 1) := by decide +kernel
theorem dL_law_941 : decode cL_law 941 = .ok (.iaload, 1) := by decide +kernel
theorem dL_law_942 : decode cL_law 942 = .ok (.invokevirtual 117, 3) := by decide +kernel
theorem dL_law_945 : decode cL_law 945 = .ok (.aload_n 2, 1) := by decide +kernel
theorem dL_law_946 : decode cL_law 946 = .ok (.aload_n 0, 1) := by decide +kernel
theorem dL_law_947 : decode cL_law 947 = .ok (.iload_n 3, 1) := by decide +kernel
theorem dL_law_948 : decode cL_law 948 = .ok (.iconst 1, 1) := by decide +kernel
theorem dL_law_949 : decode cL_law 949 = .ok (.iadd, 1) := by decide +kernel
theorem dL_law_950 : decode cL_law 950 = .ok (.iaload, 1) := by decide +kernel
theorem dL_law_951 : decode cL_law 951 = .ok (.aload_n 0, 1) := by decide +kernel
theorem dL_law_952 : decode cL_law 952 = .ok (.iload_n 3, 1) := by decide +kernel
theorem dL_law_953 : decode cL_law 953 = .ok (.iconst 2, 1) := by decide +kernel
theorem dL_law_954 : decode cL_law 954 = .ok (.iadd, 1) := by decide +kernel
theorem dL_law_955 : decode cL_law 955 = .ok (.iaload, 1) := by decide +kernel
theorem dL_law_956 : decode cL_law 956 = .ok (.aload_n 0, 1) := by decide +kernel
theorem dL_law_957 : decode cL_law 957 = .ok (.iload_n 3, 1) := by decide +kernel
theorem dL_law_958 : decode cL_law 958 = .ok (.iconst 3, 1) := by decide +kernel
theorem dL_law_959 : decode cL_law 959 = .ok (.iadd, 1) := by decide +kernel
theorem dL_law_960 : decode cL_law 960 = .ok (.iaload, 1) := by decide +kernel
theorem dL_law_961 : decode cL_law 961 = .ok (.aload_n 0, 1) := by decide +kernel
theorem dL_law_962 : decode cL_law 962 = .ok (.iload_n 3, 1) := by decide +kernel
theorem dL_law_963 : decode cL_law 963 = .ok (.iconst 4, 1) := by decide +kernel
theorem dL_law_964 : decode cL_law 964 = .ok (.iadd, 1) := by decide +kernel
theorem dL_law_965 : decode cL_law 965 = .ok (.iaload, 1) := by decide +kernel
theorem dL_law_966 : decode cL_law 966 = .ok (.aload_n 0, 1) := by decide +kernel
theorem dL_law_967 : decode cL_law 967 = .ok (.iload_n 3, 1) := by decide +kernel
theorem dL_law_968 : decode cL_law 968 = .ok (.iconst 5, 1) := by decide +kernel
theorem dL_law_969 : decode cL_law 969 = .ok (.iadd, 1) := by decide +kernel
theorem dL_law_970 : decode cL_law 970 = .ok (.iaload, 1) := by decide +kernel
theorem dL_law_971 : decode cL_law 971 = .ok (.aload_n 0, 1) := by decide +kernel
theorem dL_law_972 : decode cL_law 972 = .ok (.iload_n 3, 1) := by decide +kernel
theorem dL_law_973 : decode cL_law 973 = .ok (.bipush 6, 2) := by decide +kernel
theorem dL_law_975 : decode cL_law 975 = .ok (.iadd, 1) := by decide +kernel
theorem dL_law_976 : decode cL_law 976 = .ok (.iaload, 1) := by decide +kernel
theorem dL_law_977 : decode cL_law 977 = .ok (.invokevirtual 121, 3) := by decide +kernel
theorem dL_law_980 : decode cL_law 980 = .ok (.if_icmp .eq 555, 3) := by decide +kernel
theorem dL_law_983 : decode cL_law 983 = .ok (.iconst 0, 1) := by decide +kernel
theorem dL_law_984 : decode cL_law 984 = .ok (.ireturn, 1) := by decide +kernel
theorem dL_law_985 : decode cL_law 985 = .ok (.aload_n 1, 1) := by decide +kernel
theorem dL_law_986 : decode cL_law 986 = .ok (.aload_n 0, 1) := by decide +kernel
theorem dL_law_987 : decode cL_law 987 = .ok (.iload_n 3, 1) := by decide +kernel
theorem dL_law_988 : decode cL_law 988 = .ok (.iconst 1, 1) := by decide +kernel
theorem dL_law_989 : decode cL_law 989 = .ok (.iadd, 1) := by decide +kernel
theorem dL_law_990 : decode cL_law 990 = .ok (.iaload, 1) := by decide +kernel
theorem dL_law_991 : decode cL_law 991 = .ok (.aload_n 0, 1) := by decide +kernel
theorem dL_law_992 : decode cL_law 992 = .ok (.iload_n 3, 1) := by decide +kernel
theorem dL_law_993 : decode cL_law 993 = .ok (.iconst 2, 1) := by decide +kernel
theorem dL_law_994 : decode cL_law 994 = .ok (.iadd, 1) := by decide +kernel
theorem dL_law_995 : decode cL_law 995 = .ok (.iaload, 1) := by decide +kernel
theorem dL_law_996 : decode cL_law 996 = .ok (.invokevirtual 122, 3) := by decide +kernel
theorem dL_law_999 : decode cL_law 999 = .ok (.aload_n 2, 1) := by decide +kernel
theorem dL_law_1000 : decode cL_law 1000 = .ok (.aload_n 0, 1) := by decide +kernel
theorem dL_law_1001 : decode cL_law 1001 = .ok (.iload_n 3, 1) := by decide +kernel
theorem dL_law_1002 : decode cL_law 1002 = .ok (.iconst 1, 1) := by decide +kernel
theorem dL_law_1003 : decode cL_law 1003 = .ok (.iadd, 1) := by decide +kernel
theorem dL_law_1004 : decode cL_law 1004 = .ok (.iaload, 1) := by decide +kernel
theorem dL_law_1005 : decode cL_law 1005 = .ok (.aload_n 0, 1) := by decide +kernel
theorem dL_law_1006 : decode cL_law 1006 = .ok (.iload_n 3, 1) := by decide +kernel
theorem dL_law_1007 : decode cL_law 1007 = .ok (.iconst 2, 1) := by decide +kernel
theorem dL_law_1008 : decode cL_law 1008 = .ok (.iadd, 1) := by decide +kernel
theorem dL_law_1009 : decode cL_law 1009 = .ok (.iaload, 1) := by decide +kernel
theorem dL_law_1010 : decode cL_law 1010 = .ok (.invokevirtual 125, 3) := by decide +kernel
theorem dL_law_1013 : decode cL_law 1013 = .ok (.if_icmp .eq 522, 3) := by decide +kernel
theorem dL_law_1016 : decode cL_law 1016 = .ok (.iconst 0, 1) := by decide +kernel
theorem dL_law_1017 : decode cL_law 1017 = .ok (.ireturn, 1) := by decide +kernel
theorem dL_law_1018 : decode cL_law 1018 = .ok (.aload_n 1, 1) := by decide +kernel
theorem dL_law_1019 : decode cL_law 1019 = .ok (.aload_n 0, 1) := by decide +kernel
theorem dL_law_1020 : decode cL_law 1020 = .ok (.iload_n 3, 1) := by decide +kernel
theorem dL_law_1021 : decode cL_law 1021 = .ok (.iconst 1, 1) := by decide +kernel
theorem dL_law_1022 : decode cL_law 1022 = .ok (.iadd, 1) := by decide +kernel
theorem dL_law_1023 : decode cL_law 1023 = .ok (.iaload, 1) := by decide +kernel
theorem dL_law_1024 : decode cL_law 1024 = .ok (.aload_n 0, 1) := by decide +kernel
theorem dL_law_1025 : decode cL_law 1025 = .ok (.iload_n 3, 1) := by decide +kernel
theorem dL_law_1026 : decode cL_law 1026 = .ok (.iconst 2, 1) := by decide +kernel
theorem dL_law_1027 : decode cL_law 1027 = .ok (.iadd, 1) := by decide +kernel
theorem dL_law_1028 : decode cL_law 1028 = .ok (.iaload, 1) := by decide +kernel
theorem dL_law_1029 : decode cL_law 1029 = .ok (.invokevirtual 126, 3) := by decide +kernel
theorem dL_law_1032 : decode cL_law 1032 = .ok (.aload_n 2, 1) := by decide +kernel
theorem dL_law_1033 : decode cL_law 1033 = .ok (.aload_n 0, 1) := by decide +kernel
theorem dL_law_1034 : decode cL_law 1034 = .ok (.iload_n 3, 1) := by decide +kernel
theorem dL_law_1035 : decode cL_law 1035 = .ok (.iconst 1, 1) := by decide +kernel
theorem dL_law_1036 : decode cL_law 1036 = .ok (.iadd, 1) := by decide +kernel
theorem dL_law_1037 : decode cL_law 1037 = .ok (.iaload, 1) := by decide +kernel
theorem dL_law_1038 : decode cL_law 1038 = .ok (.aload_n 0, 1) := by decide +kernel
theorem dL_law_1039 : decode cL_law 1039 = .ok (.iload_n 3, 1) := by decide +kernel
theorem dL_law_1040 : decode cL_law 1040 = .ok (.iconst 2, 1) := by decide +kernel
theorem dL_law_1041 : decode cL_law 1041 = .ok (.iadd, 1) := by decide +kernel
theorem dL_law_1042 : decode cL_law 1042 = .ok (.iaload, 1) := by decide +kernel
theorem dL_law_1043 : decode cL_law 1043 = .ok (.invokevirtual 129, 3) := by decide +kernel
theorem dL_law_1046 : decode cL_law 1046 = .ok (.if_icmp .eq 489, 3) := by decide +kernel
theorem dL_law_1049 : decode cL_law 1049 = .ok (.iconst 0, 1) := by decide +kernel
theorem dL_law_1050 : decode cL_law 1050 = .ok (.ireturn, 1) := by decide +kernel
theorem dL_law_1051 : decode cL_law 1051 = .ok (.aload_n 1, 1) := by decide +kernel
theorem dL_law_1052 : decode cL_law 1052 = .ok (.invokevirtual 130, 3) := by decide +kernel
theorem dL_law_1055 : decode cL_law 1055 = .ok (.aload_n 2, 1) := by decide +kernel
theorem dL_law_1056 : decode cL_law 1056 = .ok (.invokevirtual 133, 3) := by decide +kernel
theorem dL_law_1059 : decode cL_law 1059 = .ok (.if_icmp .eq 476, 3) := by decide +kernel
theorem dL_law_1062 : decode cL_law 1062 = .ok (.iconst 0, 1) := by decide +kernel
theorem dL_law_1063 : decode cL_law 1063 = .ok (.ireturn, 1) := by decide +kernel
theorem dL_law_1064 : decode cL_law 1064 = .ok (.aload_n 1, 1) := by decide +kernel
theorem dL_law_1065 : decode cL_law 1065 = .ok (.aload_n 0, 1) := by decide +kernel
theorem dL_law_1066 : decode cL_law 1066 = .ok (.iload_n 3, 1) := by decide +kernel
theorem dL_law_1067 : decode cL_law 1067 = .ok (.iconst 1, 1) := by decide +kernel
theorem dL_law_1068 : decode cL_law 1068 = .ok (.iadd, 1) := by decide +kernel
theorem dL_law_1069 : decode cL_law 1069 = .ok (.iaload, 1) := by decide +kernel
theorem dL_law_1070 : decode cL_law 1070 = .ok (.invokevirtual 134, 3) := by decide +kernel
theorem dL_law_1073 : decode cL_law 1073 = .ok (.aload_n 2, 1) := by decide +kernel
theorem dL_law_1074 : decode cL_law 1074 = .ok (.aload_n 0, 1) := by decide +kernel
theorem dL_law_1075 : decode cL_law 1075 = .ok (.iload_n 3, 1) := by decide +kernel
theorem dL_law_1076 : decode cL_law 1076 = .ok (.iconst 1, 1) := by decide +kernel
theorem dL_law_1077 : decode cL_law 1077 = .ok (.iadd, 1) := by decide +kernel
theorem dL_law_1078 : decode cL_law 1078 = .ok (.iaload, 1) := by decide +kernel
theorem dL_law_1079 : decode cL_law 1079 = .ok (.invokevirtual 137, 3) := by decide +kernel
theorem dL_law_1082 : decode cL_law 1082 = .ok (.if_icmp .eq 453, 3) := by decide +kernel
theorem dL_law_1085 : decode cL_law 1085 = .ok (.iconst 0, 1) := by decide +kernel
theorem dL_law_1086 : decode cL_law 1086 = .ok (.ireturn, 1) := by decide +kernel
theorem dL_law_1087 : decode cL_law 1087 = .ok (.aload_n 1, 1) := by decide +kernel
theorem dL_law_1088 : decode cL_law 1088 = .ok (.invokevirtual 138, 3) := by decide +kernel
theorem dL_law_1091 : decode cL_law 1091 = .ok (.aload_n 2, 1) := by decide +kernel
theorem dL_law_1092 : decode cL_law 1092 = .ok (.invokevirtual 141, 3) := by decide +kernel
theorem dL_law_1095 : decode cL_law 1095 = .ok (.if_icmp .eq 440, 3) := by decide +kernel
theorem dL_law_1098 : decode cL_law 1098 = .ok (.iconst 0, 1) := by decide +kernel
theorem dL_law_1099 : decode cL_law 1099 = .ok (.ireturn, 1) := by decide +kernel
theorem dL_law_1100 : decode cL_law 1100 = .ok (.aload_n 1, 1) := by decide +kernel
theorem dL_law_1101 : decode cL_law 1101 = .ok (.invokevirtual 142, 3) := by decide +kernel
theorem dL_law_1104 : decode cL_law 1104 = .ok (.aload_n 2, 1) := by decide +kernel
theorem dL_law_1105 : decode cL_law 1105 = .ok (.invokevirtual 145, 3) := by decide +kernel
theorem dL_law_1108 : decode cL_law 1108 = .ok (.if_icmp .eq 427, 3) := by decide +kernel
theorem dL_law_1111 : decode cL_law 1111 = .ok (.iconst 0, 1) := by decide +kernel
theorem dL_law_1112 : decode cL_law 1112 = .ok (.ireturn, 1) := by decide +kernel
theorem dL_law_1113 : decode cL_law 1113 = .ok (.aload_n 1, 1) := by decide +kernel
theorem dL_law_1114 : decode cL_law 1114 = .ok (.invokevirtual 146, 3) := by decide +kernel
theorem dL_law_1117 : decode cL_law 1117 = .ok (.aload_n 2, 1) := by decide +kernel
theorem dL_law_1118 : decode cL_law 1118 = .ok (.invokevirtual 149, 3) := by decide +kernel
theorem dL_law_1121 : decode cL_law 1121 = .ok (.if_icmp .eq 414, 3) := by decide +kernel
theorem dL_law_1124 : decode cL_law 1124 = .ok (.iconst 0, 1) := by decide +kernel
theorem dL_law_1125 : decode cL_law 1125 = .ok (.ireturn, 1) := by decide +kernel
theorem dL_law_1126 : decode cL_law 1126 = .ok (.aload_n 1, 1) := by decide +kernel
theorem dL_law_1127 : decode cL_law 1127 = .ok (.aload_n 0, 1) := by decide +kernel
theorem dL_law_1128 : decode cL_law 1128 = .ok (.iload_n 3, 1) := by decide +kernel
theorem dL_law_1129 : decode cL_law 1129 = .ok (.iconst 1, 1) := by decide +kernel
theorem dL_law_1130 : decode cL_law 1130 = .ok (.iadd, 1) := by decide +kernel
theorem dL_law_1131 : decode cL_law 1131 = .ok (.iaload, 1) := by decide +kernel
theorem dL_law_1132 : decode cL_law 1132 = .ok (.aload_n 0, 1) := by decide +kernel
theorem dL_law_1133 : decode cL_law 1133 = .ok (.iload_n 3, 1) := by decide +kernel
theorem dL_law_1134 : decode cL_law 1134 = .ok (.iconst 2, 1) := by decide +kernel
theorem dL_law_1135 : decode cL_law 1135 = .ok (.iadd, 1) := by decide +kernel
theorem dL_law_1136 : decode cL_law 1136 = .ok (.iaload, 1) := by decide +kernel
theorem dL_law_1137 : decode cL_law 1137 = .ok (.invokevirtual 150, 3) := by decide +kernel
theorem dL_law_1140 : decode cL_law 1140 = .ok (.aload_n 2, 1) := by decide +kernel
theorem dL_law_1141 : decode cL_law 1141 = .ok (.aload_n 0, 1) := by decide +kernel
theorem dL_law_1142 : decode cL_law 1142 = .ok (.iload_n 3, 1) := by decide +kernel
theorem dL_law_1143 : decode cL_law 1143 = .ok (.iconst 1, 1) := by decide +kernel
theorem dL_law_1144 : decode cL_law 1144 = .ok (.iadd, 1) := by decide +kernel
theorem dL_law_1145 : decode cL_law 1145 = .ok (.iaload, 1) := by decide +kernel
theorem dL_law_1146 : decode cL_law 1146 = .ok (.aload_n 0, 1) := by decide +kernel
theorem dL_law_1147 : decode cL_law 1147 = .ok (.iload_n 3, 1) := by decide +kernel
theorem dL_law_1148 : decode cL_law 1148 = .ok (.iconst 2, 1) := by decide +kernel
theorem dL_law_1149 : decode cL_law 1149 = .ok (.iadd, 1) := by decide +kernel
theorem dL_law_1150 : decode cL_law 1150 = .ok (.iaload, 1) := by decide +kernel
theorem dL_law_1151 : decode cL_law 1151 = .ok (.invokevirtual 153, 3) := by decide +kernel
theorem dL_law_1154 : decode cL_law 1154 = .ok (.if_icmp .eq 381, 3) := by decide +kernel
theorem dL_law_1157 : decode cL_law 1157 = .ok (.iconst 0, 1) := by decide +kernel
theorem dL_law_1158 : decode cL_law 1158 = .ok (.ireturn, 1) := by decide +kernel
theorem dL_law_1159 : decode cL_law 1159 = .ok (.aload_n 1, 1) := by decide +kernel
theorem dL_law_1160 : decode cL_law 1160 = .ok (.aload_n 0, 1) := by decide +kernel
theorem dL_law_1161 : decode cL_law 1161 = .ok (.iload_n 3, 1) := by decide +kernel
theorem dL_law_1162 : decode cL_law 1162 = .ok (.iconst 1, 1) := by decide +kernel
theorem dL_law_1163 : decode cL_law 1163 = .ok (.iadd, 1) := by decide +kernel
theorem dL_law_1164 : decode cL_law 1164 = .ok (.iaload, 1) := by decide +kernel
theorem dL_law_1165 : decode cL_law 1165 = .ok (.aload_n 0, 1) := by decide +kernel
theorem dL_law_1166 : decode cL_law 1166 = .ok (.iload_n 3, 1) := by decide +kernel
theorem dL_law_1167 : decode cL_law 1167 = .ok (.iconst 2, 1) := by decide +kernel
theorem dL_law_1168 : decode cL_law 1168 = .ok (.iadd, 1) := by decide +kernel
theorem dL_law_1169 : decode cL_law 1169 = .ok (.iaload, 1) := by decide +kernel
theorem dL_law_1170 : decode cL_law 1170 = .ok (.aload_n 0, 1) := by decide +kernel
theorem dL_law_1171 : decode cL_law 1171 = .ok (.iload_n 3, 1) := by decide +kernel
theorem dL_law_1172 : decode cL_law 1172 = .ok (.iconst 3, 1) := by decide +kernel
theorem dL_law_1173 : decode cL_law 1173 = .ok (.iadd, 1) := by decide +kernel
theorem dL_law_1174 : decode cL_law 1174 = .ok (.iaload, 1) := by decide +kernel
theorem dL_law_1175 : decode cL_law 1175 = .ok (.invokevirtual 154, 3) := by decide +kernel
theorem dL_law_1178 : decode cL_law 1178 = .ok (.aload_n 2, 1) := by decide +kernel
theorem dL_law_1179 : decode cL_law 1179 = .ok (.aload_n 0, 1) := by decide +kernel
theorem dL_law_1180 : decode cL_law 1180 = .ok (.iload_n 3, 1) := by decide +kernel
theorem dL_law_1181 : decode cL_law 1181 = .ok (.iconst 1, 1) := by decide +kernel
theorem dL_law_1182 : decode cL_law 1182 = .ok (.iadd, 1) := by decide +kernel
theorem dL_law_1183 : decode cL_law 1183 = .ok (.iaload, 1) := by decide +kernel
theorem dL_law_1184 : decode cL_law 1184 = .ok (.aload_n 0, 1) := by decide +kernel
theorem dL_law_1185 : decode cL_law 1185 = .ok (.iload_n 3, 1) := by decide +kernel
theorem dL_law_1186 : decode cL_law 1186 = .ok (.iconst 2, 1) := by decide +kernel
theorem dL_law_1187 : decode cL_law 1187 = .ok (.iadd, 1) := by decide +kernel
theorem dL_law_1188 : decode cL_law 1188 = .ok (.iaload, 1) := by decide +kernel
theorem dL_law_1189 : decode cL_law 1189 = .ok (.aload_n 0, 1) := by decide +kernel
theorem dL_law_1190 : decode cL_law 1190 = .ok (.iload_n 3, 1) := by decide +kernel
theorem dL_law_1191 : decode cL_law 1191 = .ok (.iconst 3, 1) := by decide +kernel
theorem dL_law_1192 : decode cL_law 1192 = .ok (.iadd, 1) := by decide +kernel
theorem dL_law_1193 : decode cL_law 1193 = .ok (.iaload, 1) := by decide +kernel
theorem dL_law_1194 : decode cL_law 1194 = .ok (.invokevirtual 157, 3) := by decide +kernel
theorem dL_law_1197 : decode cL_law 1197 = .ok (.if_icmp .eq 338, 3) := by decide +kernel
theorem dL_law_1200 : decode cL_law 1200 = .ok (.iconst 0, 1) := by decide +kernel
theorem dL_law_1201 : decode cL_law 1201 = .ok (.ireturn, 1) := by decide +kernel
theorem dL_law_1202 : decode cL_law 1202 = .ok (.aload_n 1, 1) := by decide +kernel
theorem dL_law_1203 : decode cL_law 1203 = .ok (.invokevirtual 158, 3) := by decide +kernel
theorem dL_law_1206 : decode cL_law 1206 = .ok (.aload_n 2, 1) := by decide +kernel
theorem dL_law_1207 : decode cL_law 1207 = .ok (.invokevirtual 161, 3) := by decide +kernel
theorem dL_law_1210 : decode cL_law 1210 = .ok (.if_icmp .eq 325, 3) := by decide +kernel
theorem dL_law_1213 : decode cL_law 1213 = .ok (.iconst 0, 1) := by decide +kernel
theorem dL_law_1214 : decode cL_law 1214 = .ok (.ireturn, 1) := by decide +kernel
theorem dL_law_1215 : decode cL_law 1215 = .ok (.aload_n 1, 1) := by decide +kernel
theorem dL_law_1216 : decode cL_law 1216 = .ok (.aload_n 0, 1) := by decide +kernel
theorem dL_law_1217 : decode cL_law 1217 = .ok (.iload_n 3, 1) := by decide +kernel
theorem dL_law_1218 : decode cL_law 1218 = .ok (.iconst 1, 1) := by decide +kernel
theorem dL_law_1219 : decode cL_law 1219 = .ok (.iadd, 1) := by decide +kernel
theorem dL_law_1220 : decode cL_law 1220 = .ok (.iaload, 1) := by decide +kernel
theorem dL_law_1221 : decode cL_law 1221 = .ok (.aload_n 0, 1) := by decide +kernel
theorem dL_law_1222 : decode cL_law 1222 = .ok (.iload_n 3, 1) := by decide +kernel
theorem dL_law_1223 : decode cL_law 1223 = .ok (.iconst 2, 1) := by decide +kernel
theorem dL_law_1224 : decode cL_law 1224 = .ok (.iadd, 1) := by decide +kernel
theorem dL_law_1225 : decode cL_law 1225 = .ok (.iaload, 1) := by decide +kernel
theorem dL_law_1226 : decode cL_law 1226 = .ok (.aload_n 0, 1) := by decide +kernel
theorem dL_law_1227 : decode cL_law 1227 = .ok (.iload_n 3, 1) := by decide +kernel
theorem dL_law_1228 : decode cL_law 1228 = .ok (.iconst 3, 1) := by decide +kernel
theorem dL_law_1229 : decode cL_law 1229 = .ok (.iadd, 1) := by decide +kernel
theorem dL_law_1230 : decode cL_law 1230 = .ok (.iaload, 1) := by decide +kernel
theorem dL_law_1231 : decode cL_law 1231 = .ok (.invokevirtual 162, 3) := by decide +kernel
theorem dL_law_1234 : decode cL_law 1234 = .ok (.aload_n 2, 1) := by decide +kernel
theorem dL_law_1235 : decode cL_law 1235 = .ok (.aload_n 0, 1) := by decide +kernel
theorem dL_law_1236 : decode cL_law 1236 = .ok (.iload_n 3, 1) := by decide +kernel
theorem dL_law_1237 : decode cL_law 1237 = .ok (.iconst 1, 1) := by decide +kernel
theorem dL_law_1238 : decode cL_law 1238 = .ok (.iadd, 1) := by decide +kernel
theorem dL_law_1239 : decode cL_law 1239 = .ok (.iaload, 1) := by decide +kernel
theorem dL_law_1240 : decode cL_law 1240 = .ok (.aload_n 0, 1) := by decide +kernel
theorem dL_law_1241 : decode cL_law 1241 = .ok (.iload_n 3, 1) := by decide +kernel
theorem dL_law_1242 : decode cL_law 1242 = .ok (.iconst 2, 1) := by decide +kernel
theorem dL_law_1243 : decode cL_law 1243 = .ok (.iadd, 1) := by decide +kernel
theorem dL_law_1244 : decode cL_law 1244 = .ok (.iaload, 1) := by decide +kernel
theorem dL_law_1245 : decode cL_law 1245 = .ok (.aload_n 0, 1) := by decide +kernel
theorem dL_law_1246 : decode cL_law 1246 = .ok (.iload_n 3, 1) := by decide +kernel
theorem dL_law_1247 : decode cL_law 1247 = .ok (.iconst 3, 1) := by decide +kernel
theorem dL_law_1248 : decode cL_law 1248 = .ok (.iadd, 1) := by decide +kernel
theorem dL_law_1249 : decode cL_law 1249 = .ok (.iaload, 1) := by decide +kernel
theorem dL_law_1250 : decode cL_law 1250 = .ok (.invokevirtual 165, 3) := by decide +kernel
theorem dL_law_1253 : decode cL_law 1253 = .ok (.if_icmp .eq 282, 3) := by decide +kernel
theorem dL_law_1256 : decode cL_law 1256 = .ok (.iconst 0, 1) := by decide +kernel
theorem dL_law_1257 : decode cL_law 1257 = .ok (.ireturn, 1) := by decide +kernel
theorem dL_law_1258 : decode cL_law 1258 = .ok (.aload_n 1, 1) := by decide +kernel
theorem dL_law_1259 : decode cL_law 1259 = .ok (.aload_n 0, 1) := by decide +kernel
theorem dL_law_1260 : decode cL_law 1260 = .ok (.iload_n 3, 1) := by decide +kernel
theorem dL_law_1261 : decode cL_law 1261 = .ok (.iconst 1, 1) := by decide +kernel
theorem dL_law_1262 : decode cL_law 1262 = .ok (.iadd, 1) := by decide +kernel
theorem dL_law_1263 : decode cL_law 1263 = .ok (.iaload, 1) := by decide +kernel
theorem dL_law_1264 : decode cL_law 1264 = .ok (.aload_n 0, 1) := by decide +kernel
theorem dL_law_1265 : decode cL_law 1265 = .ok (.iload_n 3, 1) := by decide +kernel
theorem dL_law_1266 : decode cL_law 1266 = .ok (.iconst 2, 1) := by decide +kernel
theorem dL_law_1267 : decode cL_law 1267 = .ok (.iadd, 1) := by decide +kernel
theorem dL_law_1268 : decode cL_law 1268 = .ok (.iaload, 1) := by decide +kernel
theorem dL_law_1269 : decode cL_law 1269 = .ok (.aload_n 0, 1) := by decide +kernel
theorem dL_law_1270 : decode cL_law 1270 = .ok (.iload_n 3, 1) := by decide +kernel
theorem dL_law_1271 : decode cL_law 1271 = .ok (.iconst 3, 1) := by decide +kernel
theorem dL_law_1272 : decode cL_law 1272 = .ok (.iadd, 1) := by decide +kernel
theorem dL_law_1273 : decode cL_law 1273 = .ok (.iaload, 1) := by decide +kernel
theorem dL_law_1274 : decode cL_law 1274 = .ok (.invokevirtual 166, 3) := by decide +kernel
theorem dL_law_1277 : decode cL_law 1277 = .ok (.aload_n 2, 1) := by decide +kernel
theorem dL_law_1278 : decode cL_law 1278 = .ok (.aload_n 0, 1) := by decide +kernel
theorem dL_law_1279 : decode cL_law 1279 = .ok (.iload_n 3, 1) := by decide +kernel
theorem dL_law_1280 : decode cL_law 1280 = .ok (.iconst 1, 1) := by decide +kernel
theorem dL_law_1281 : decode cL_law 1281 = .ok (.iadd, 1) := by decide +kernel
theorem dL_law_1282 : decode cL_law 1282 = .ok (.iaload, 1) := by decide +kernel
theorem dL_law_1283 : decode cL_law 1283 = .ok (.aload_n 0, 1) := by decide +kernel
theorem dL_law_1284 : decode cL_law 1284 = .ok (.iload_n 3, 1) := by decide +kernel
theorem dL_law_1285 : decode cL_law 1285 = .ok (.iconst 2, 1) := by decide +kernel
theorem dL_law_1286 : decode cL_law 1286 = .ok (.iadd, 1) := by decide +kernel
theorem dL_law_1287 : decode cL_law 1287 = .ok (.iaload, 1) := by decide +kernel
theorem dL_law_1288 : decode cL_law 1288 = .ok (.aload_n 0, 1) := by decide +kernel
theorem dL_law_1289 : decode cL_law 1289 = .ok (.iload_n 3, 1) := by decide +kernel
theorem dL_law_1290 : decode cL_law 1290 = .ok (.iconst 3, 1) := by decide +kernel
theorem dL_law_1291 : decode cL_law 1291 = .ok (.iadd, 1) := by decide +kernel
theorem dL_law_1292 : decode cL_law 1292 = .ok (.iaload, 1) := by decide +kernel
theorem dL_law_1293 : decode cL_law 1293 = .ok (.invokevirtual 169, 3) := by decide +kernel
theorem dL_law_1296 : decode cL_law 1296 = .ok (.if_icmp .eq 239, 3) := by decide +kernel
theorem dL_law_1299 : decode cL_law 1299 = .ok (.iconst 0, 1) := by decide +kernel
theorem dL_law_1300 : decode cL_law 1300 = .ok (.ireturn, 1) := by decide +kernel
theorem dL_law_1301 : decode cL_law 1301 = .ok (.aload_n 1, 1) := by decide +kernel
theorem dL_law_1302 : decode cL_law 1302 = .ok (.aload_n 0, 1) := by decide +kernel
theorem dL_law_1303 : decode cL_law 1303 = .ok (.iload_n 3, 1) := by decide +kernel
theorem dL_law_1304 : decode cL_law 1304 = .ok (.iconst 1, 1) := by decide +kernel
theorem dL_law_1305 : decode cL_law 1305 = .ok (.iadd, 1) := by decide +kernel
theorem dL_law_1306 : decode cL_law 1306 = .ok (.iaload, 1) := by decide +kernel
theorem dL_law_1307 : decode cL_law 1307 = .ok (.aload_n 0, 1) := by decide +kernel
theorem dL_law_1308 : decode cL_law 1308 = .ok (.iload_n 3, 1) := by decide +kernel
theorem dL_law_1309 : decode cL_law 1309 = .ok (.iconst 2, 1) := by decide +kernel
theorem dL_law_1310 : decode cL_law 1310 = .ok (.iadd, 1) := by decide +kernel
theorem dL_law_1311 : decode cL_law 1311 = .ok (.iaload, 1) := by decide +kernel
theorem dL_law_1312 : decode cL_law 1312 = .ok (.aload_n 0, 1) := by decide +kernel
theorem dL_law_1313 : decode cL_law 1313 = .ok (.iload_n 3, 1) := by decide +kernel
theorem dL_law_1314 : decode cL_law 1314 = .ok (.iconst 3, 1) := by decide +kernel
theorem dL_law_1315 : decode cL_law 1315 = .ok (.iadd, 1) := by decide +kernel
theorem dL_law_1316 : decode cL_law 1316 = .ok (.iaload, 1) := by decide +kernel
theorem dL_law_1317 : decode cL_law 1317 = .ok (.invokevirtual 170, 3) := by decide +kernel
theorem dL_law_1320 : decode cL_law 1320 = .ok (.aload_n 2, 1) := by decide +kernel
theorem dL_law_1321 : decode cL_law 1321 = .ok (.aload_n 0, 1) := by decide +kernel
theorem dL_law_1322 : decode cL_law 1322 = .ok (.iload_n 3, 1) := by decide +kernel
theorem dL_law_1323 : decode cL_law 1323 = .ok (.iconst 1, 1) := by decide +kernel
theorem dL_law_1324 : decode cL_law 1324 = .ok (.iadd, 1) := by decide +kernel
theorem dL_law_1325 : decode cL_law 1325 = .ok (.iaload, 1) := by decide +kernel
theorem dL_law_1326 : decode cL_law 1326 = .ok (.aload_n 0, 1) := by decide +kernel
theorem dL_law_1327 : decode cL_law 1327 = .ok (.iload_n 3, 1) := by decide +kernel
theorem dL_law_1328 : decode cL_law 1328 = .ok (.iconst 2, 1) := by decide +kernel
theorem dL_law_1329 : decode cL_law 1329 = .ok (.iadd, 1) := by decide +kernel
theorem dL_law_1330 : decode cL_law 1330 = .ok (.iaload, 1) := by decide +kernel
theorem dL_law_1331 : decode cL_law 1331 = .ok (.aload_n 0, 1) := by decide +kernel
theorem dL_law_1332 : decode cL_law 1332 = .ok (.iload_n 3, 1) := by decide +kernel
theorem dL_law_1333 : decode cL_law 1333 = .ok (.iconst 3, 1) := by decide +kernel
theorem dL_law_1334 : decode cL_law 1334 = .ok (.iadd, 1) := by decide +kernel
theorem dL_law_1335 : decode cL_law 1335 = .ok (.iaload, 1) := by decide +kernel
theorem dL_law_1336 : decode cL_law 1336 = .ok (.invokevirtual 173, 3) := by decide +kernel
theorem dL_law_1339 : decode cL_law 1339 = .ok (.if_icmp .eq 196, 3) := by decide +kernel
theorem dL_law_1342 : decode cL_law 1342 = .ok (.iconst 0, 1) := by decide +kernel
theorem dL_law_1343 : decode cL_law 1343 = .ok (.ireturn, 1) := by decide +kernel
theorem dL_law_1344 : decode cL_law 1344 = .ok (.aload_n 1, 1) := by decide +kernel
theorem dL_law_1345 : decode cL_law 1345 = .ok (.aload_n 0, 1) := by decide +kernel
theorem dL_law_1346 : decode cL_law 1346 = .ok (.iload_n 3, 1) := by decide +kernel
theorem dL_law_1347 : decode cL_law 1347 = .ok (.iconst 1, 1) := by decide +kernel
theorem dL_law_1348 : decode cL_law 1348 = .ok (.iadd, 1) := by decide +kernel
theorem dL_law_1349 : decode cL_law 1349 = .ok (.iaload, 1) := by decide +kernel
theorem dL_law_1350 : decode cL_law 1350 = .ok (.aload_n 0, 1) := by decide +kernel
theorem dL_law_1351 : decode cL_law 1351 = .ok (.iload_n 3, 1) := by decide +kernel
theorem dL_law_1352 : decode cL_law 1352 = .ok (.iconst 2, 1) := by decide +kernel
theorem dL_law_1353 : decode cL_law 1353 = .ok (.iadd, 1) := by decide +kernel
theorem dL_law_1354 : decode cL_law 1354 = .ok (.iaload, 1) := by decide +kernel
theorem dL_law_1355 : decode cL_law 1355 = .ok (.aload_n 0, 1) := by decide +kernel
theorem dL_law_1356 : decode cL_law 1356 = .ok (.iload_n 3, 1) := by decide +kernel
theorem dL_law_1357 : decode cL_law 1357 = .ok (.iconst 3, 1) := by decide +kernel
theorem dL_law_1358 : decode cL_law 1358 = .ok (.iadd, 1) := by decide +kernel
theorem dL_law_1359 : decode cL_law 1359 = .ok (.iaload, 1) := by decide +kernel
theorem dL_law_1360 : decode cL_law 1360 = .ok (.invokevirtual 174, 3) := by decide +kernel
theorem dL_law_1363 : decode cL_law 1363 = .ok (.aload_n 2, 1) := by decide +kernel
theorem dL_law_1364 : decode cL_law 1364 = .ok (.aload_n 0, 1) := by decide +kernel
theorem dL_law_1365 : decode cL_law 1365 = .ok (.iload_n 3, 1) := by decide +kernel
theorem dL_law_1366 : decode cL_law 1366 = .ok (.iconst 1, 1) := by decide +kernel
theorem dL_law_1367 : decode cL_law 1367 = .ok (.iadd, 1) := by decide +kernel
theorem dL_law_1368 : decode cL_law 1368 = .ok (.iaload, 1) := by decide +kernel
theorem dL_law_1369 : decode cL_law 1369 = .ok (.aload_n 0, 1) := by decide +kernel
theorem dL_law_1370 : decode cL_law 1370 = .ok (.iload_n 3, 1) := by decide +kernel
theorem dL_law_1371 : decode cL_law 1371 = .ok (.iconst 2, 1) := by decide +kernel
theorem dL_law_1372 : decode cL_law 1372 = .ok (.iadd, 1) := by decide +kernel
theorem dL_law_1373 : decode cL_law 1373 = .ok (.iaload, 1) := by decide +kernel
theorem dL_law_1374 : decode cL_law 1374 = .ok (.aload_n 0, 1) := by decide +kernel
theorem dL_law_1375 : decode cL_law 1375 = .ok (.iload_n 3, 1) := by decide +kernel
theorem dL_law_1376 : decode cL_law 1376 = .ok (.iconst 3, 1) := by decide +kernel
theorem dL_law_1377 : decode cL_law 1377 = .ok (.iadd, 1) := by decide +kernel
theorem dL_law_1378 : decode cL_law 1378 = .ok (.iaload, 1) := by decide +kernel
theorem dL_law_1379 : decode cL_law 1379 = .ok (.invokevirtual 177, 3) := by decide +kernel
theorem dL_law_1382 : decode cL_law 1382 = .ok (.if_icmp .eq 153, 3) := by decide +kernel
theorem dL_law_1385 : decode cL_law 1385 = .ok (.iconst 0, 1) := by decide +kernel
theorem dL_law_1386 : decode cL_law 1386 = .ok (.ireturn, 1) := by decide +kernel
theorem dL_law_1387 : decode cL_law 1387 = .ok (.aload_n 1, 1) := by decide +kernel
theorem dL_law_1388 : decode cL_law 1388 = .ok (.aload_n 0, 1) := by decide +kernel
theorem dL_law_1389 : decode cL_law 1389 = .ok (.iload_n 3, 1) := by decide +kernel
theorem dL_law_1390 : decode cL_law 1390 = .ok (.iconst 1, 1) := by decide +kernel
theorem dL_law_1391 : decode cL_law 1391 = .ok (.iadd, 1) := by decide +kernel
theorem dL_law_1392 : decode cL_law 1392 = .ok (.iaload, 1) := by decide +kernel
theorem dL_law_1393 : decode cL_law 1393 = .ok (.aload_n 0, 1) := by decide +kernel
theorem dL_law_1394 : decode cL_law 1394 = .ok (.iload_n 3, 1) := by decide +kernel
theorem dL_law_1395 : decode cL_law 1395 = .ok (.iconst 2, 1) := by decide +kernel
theorem dL_law_1396 : decode cL_law 1396 = .ok (.iadd, 1) := by decide +kernel
theorem dL_law_1397 : decode cL_law 1397 = .ok (.iaload, 1) := by decide +kernel
theorem dL_law_1398 : decode cL_law 1398 = .ok (.invokevirtual 178, 3) := by decide +kernel
theorem dL_law_1401 : decode cL_law 1401 = .ok (.aload_n 2, 1) := by decide +kernel
theorem dL_law_1402 : decode cL_law 1402 = .ok (.aload_n 0, 1) := by decide +kernel
theorem dL_law_1403 : decode cL_law 1403 = .ok (.iload_n 3, 1) := by decide +kernel
theorem dL_law_1404 : decode cL_law 1404 = .ok (.iconst 1, 1) := by decide +kernel
theorem dL_law_1405 : decode cL_law 1405 = .ok (.iadd, 1) := by decide +kernel
theorem dL_law_1406 : decode cL_law 1406 = .ok (.iaload, 1) := by decide +kernel
theorem dL_law_1407 : decode cL_law 1407 = .ok (.aload_n 0, 1) := by decide +kernel
theorem dL_law_1408 : decode cL_law 1408 = .ok (.iload_n 3, 1) := by decide +kernel
theorem dL_law_1409 : decode cL_law 1409 = .ok (.iconst 2, 1) := by decide +kernel
theorem dL_law_1410 : decode cL_law 1410 = .ok (.iadd, 1) := by decide +kernel
theorem dL_law_1411 : decode cL_law 1411 = .ok (.iaload, 1) := by decide +kernel
theorem dL_law_1412 : decode cL_law 1412 = .ok (.invokevirtual 181, 3) := by decide +kernel
theorem dL_law_1415 : decode cL_law 1415 = .ok (.if_icmp .eq 120, 3) := by decide +kernel
theorem dL_law_1418 : decode cL_law 1418 = .ok (.iconst 0, 1) := by decide +kernel
theorem dL_law_1419 : decode cL_law 1419 = .ok (.ireturn, 1) := by decide +kernel
theorem dL_law_1420 : decode cL_law 1420 = .ok (.aload_n 1, 1) := by decide +kernel
theorem dL_law_1421 : decode cL_law 1421 = .ok (.aload_n 0, 1) := by decide +kernel
theorem dL_law_1422 : decode cL_law 1422 = .ok (.iload_n 3, 1) := by decide +kernel
theorem dL_law_1423 : decode cL_law 1423 = .ok (.iconst 1, 1) := by decide +kernel
theorem dL_law_1424 : decode cL_law 1424 = .ok (.iadd, 1) := by decide +kernel
theorem dL_law_1425 : decode cL_law 1425 = .ok (.iaload, 1) := by decide +kernel
theorem dL_law_1426 : decode cL_law 1426 = .ok (.aload_n 0, 1) := by decide +kernel
theorem dL_law_1427 : decode cL_law 1427 = .ok (.iload_n 3, 1) := by decide +kernel
theorem dL_law_1428 : decode cL_law 1428 = .ok (.iconst 2, 1) := by decide +kernel
theorem dL_law_1429 : decode cL_law 1429 = .ok (.iadd, 1) := by decide +kernel
theorem dL_law_1430 : decode cL_law 1430 = .ok (.iaload, 1) := by decide +kernel
theorem dL_law_1431 : decode cL_law 1431 = .ok (.aload_n 0, 1) := by decide +kernel
theorem dL_law_1432 : decode cL_law 1432 = .ok (.iload_n 3, 1) := by decide +kernel
theorem dL_law_1433 : decode cL_law 1433 = .ok (.iconst 3, 1) := by decide +kernel
theorem dL_law_1434 : decode cL_law 1434 = .ok (.iadd, 1) := by decide +kernel
theorem dL_law_1435 : decode cL_law 1435 = .ok (.iaload, 1) := by decide +kernel
theorem dL_law_1436 : decode cL_law 1436 = .ok (.invokevirtual 182, 3) := by decide +kernel
theorem dL_law_1439 : decode cL_law 1439 = .ok (.aload_n 2, 1) := by decide +kernel
theorem dL_law_1440 : decode cL_law 1440 = .ok (.aload_n 0, 1) := by decide +kernel
theorem dL_law_1441 : decode cL_law 1441 = .ok (.iload_n 3, 1) := by decide +kernel
theorem dL_law_1442 : decode cL_law 1442 = .ok (.iconst 1, 1) := by decide +kernel
theorem dL_law_1443 : decode cL_law 1443 = .ok (.iadd, 1) := by decide +kernel
theorem dL_law_1444 : decode cL_law 1444 = .ok (.iaload, 1) := by decide +kernel
theorem dL_law_1445 : decode cL_law 1445 = .ok (.aload_n 0, 1) := by decide +kernel
theorem dL_law_1446 : decode cL_law 1446 = .ok (.iload_n 3, 1) := by decide +kernel
theorem dL_law_1447 : decode cL_law 1447 = .ok (.iconst 2, 1) := by decide +kernel
theorem dL_law_1448 : decode cL_law 1448 = .ok (.iadd, 1) := by decide +kernel
theorem dL_law_1449 : decode cL_law 1449 = .ok (.iaload, 1) := by decide +kernel
theorem dL_law_1450 : decode cL_law 1450 = .ok (.aload_n 0, 1) := by decide +kernel
theorem dL_law_1451 : decode cL_law 1451 = .ok (.iload_n 3, 1) := by decide +kernel
theorem dL_law_1452 : decode cL_law 1452 = .ok (.iconst 3, 1) := by decide +kernel
theorem dL_law_1453 : decode cL_law 1453 = .ok (.iadd, 1) := by decide +kernel
theorem dL_law_1454 : decode cL_law 1454 = .ok (.iaload, 1) := by decide +kernel
theorem dL_law_1455 : decode cL_law 1455 = .ok (.invokevirtual 185, 3) := by decide +kernel
theorem dL_law_1458 : decode cL_law 1458 = .ok (.if_icmp .eq 77, 3) := by decide +kernel
theorem dL_law_1461 : decode cL_law 1461 = .ok (.iconst 0, 1) := by decide +kernel
theorem dL_law_1462 : decode cL_law 1462 = .ok (.ireturn, 1) := by decide +kernel
theorem dL_law_1463 : decode cL_law 1463 = .ok (.aload_n 1, 1) := by decide +kernel
theorem dL_law_1464 : decode cL_law 1464 = .ok (.aload_n 0, 1) := by decide +kernel
theorem dL_law_1465 : decode cL_law 1465 = .ok (.iload_n 3, 1) := by decide +kernel
theorem dL_law_1466 : decode cL_law 1466 = .ok (.iconst 1, 1) := by decide +kernel
theorem dL_law_1467 : decode cL_law 1467 = .ok (.iadd, 1) := by decide +kernel
theorem dL_law_1468 : decode cL_law 1468 = .ok (.iaload, 1) := by decide +kernel
theorem dL_law_1469 : decode cL_law 1469 = .ok (.invokevirtual 186, 3) := by decide +kernel
theorem dL_law_1472 : decode cL_law 1472 = .ok (.aload_n 2, 1) := by decide +kernel
theorem dL_law_1473 : decode cL_law 1473 = .ok (.aload_n 0, 1) := by decide +kernel
theorem dL_law_1474 : decode cL_law 1474 = .ok (.iload_n 3, 1) := by decide +kernel
theorem dL_law_1475 : decode cL_law 1475 = .ok (.iconst 1, 1) := by decide +kernel
theorem dL_law_1476 : decode cL_law 1476 = .ok (.iadd, 1) := by decide +kernel
theorem dL_law_1477 : decode cL_law 1477 = .ok (.iaload, 1) := by decide +kernel
theorem dL_law_1478 : decode cL_law 1478 = .ok (.invokevirtual 189, 3) := by decide +kernel
theorem dL_law_1481 : decode cL_law 1481 = .ok (.if_icmp .eq 54, 3) := by decide +kernel
theorem dL_law_1484 : decode cL_law 1484 = .ok (.iconst 0, 1) := by decide +kernel
theorem dL_law_1485 : decode cL_law 1485 = .ok (.ireturn, 1) := by decide +kernel
theorem dL_law_1486 : decode cL_law 1486 = .ok (.aload_n 1, 1) := by decide +kernel
theorem dL_law_1487 : decode cL_law 1487 = .ok (.aload_n 0, 1) := by decide +kernel
theorem dL_law_1488 : decode cL_law 1488 = .ok (.iload_n 3, 1) := by decide +kernel
theorem dL_law_1489 : decode cL_law 1489 = .ok (.iconst 1, 1) := by decide +kernel
theorem dL_law_1490 : decode cL_law 1490 = .ok (.iadd, 1) := by decide +kernel
theorem dL_law_1491 : decode cL_law 1491 = .ok (.iaload, 1) := by decide +kernel
theorem dL_law_1492 : decode cL_law 1492 = .ok (.invokevirtual 190, 3) := by decide +kernel
theorem dL_law_1495 : decode cL_law 1495 = .ok (.aload_n 2, 1) := by decide +kernel
theorem dL_law_1496 : decode cL_law 1496 = .ok (.aload_n 0, 1) := by decide +kernel
theorem dL_law_1497 : decode cL_law 1497 = .ok (.iload_n 3, 1) := by decide +kernel
theorem dL_law_1498 : decode cL_law 1498 = .ok (.iconst 1, 1) := by decide +kernel
theorem dL_law_1499 : decode cL_law 1499 = .ok (.iadd, 1) := by decide +kernel
theorem dL_law_1500 : decode cL_law 1500 = .ok (.iaload, 1) := by decide +kernel
theorem dL_law_1501 : decode cL_law 1501 = .ok (.invokevirtual 193, 3) := by decide +kernel
theorem dL_law_1504 : decode cL_law 1504 = .ok (.if_icmp .eq 31, 3) := by decide +kernel
theorem dL_law_1507 : decode cL_law 1507 = .ok (.iconst 0, 1) := by decide +kernel
theorem dL_law_1508 : decode cL_law 1508 = .ok (.ireturn, 1) := by decide +kernel
theorem dL_law_1509 : decode cL_law 1509 = .ok (.aload_n 1, 1) := by decide +kernel
theorem dL_law_1510 : decode cL_law 1510 = .ok (.invokevirtual 194, 3) := by decide +kernel
theorem dL_law_1513 : decode cL_law 1513 = .ok (.aload_n 2, 1) := by decide +kernel
theorem dL_law_1514 : decode cL_law 1514 = .ok (.invokevirtual 197, 3) := by decide +kernel
theorem dL_law_1517 : decode cL_law 1517 = .ok (.if_icmp .eq 18, 3) := by decide +kernel
theorem dL_law_1520 : decode cL_law 1520 = .ok (.iconst 0, 1) := by decide +kernel
theorem dL_law_1521 : decode cL_law 1521 = .ok (.ireturn, 1) := by decide +kernel
theorem dL_law_1522 : decode cL_law 1522 = .ok (.aload_n 1, 1) := by decide +kernel
theorem dL_law_1523 : decode cL_law 1523 = .ok (.invokevirtual 198, 3) := by decide +kernel
theorem dL_law_1526 : decode cL_law 1526 = .ok (.aload_n 2, 1) := by decide +kernel
theorem dL_law_1527 : decode cL_law 1527 = .ok (.invokevirtual 201, 3) := by decide +kernel
theorem dL_law_1530 : decode cL_law 1530 = .ok (.if_icmp .eq 5, 3) := by decide +kernel
theorem dL_law_1533 : decode cL_law 1533 = .ok (.iconst 0, 1) := by decide +kernel
theorem dL_law_1534 : decode cL_law 1534 = .ok (.ireturn, 1) := by decide +kernel
theorem dL_law_1535 : decode cL_law 1535 = .ok (.iinc 3 7, 3) := by decide +kernel
theorem dL_law_1538 : decode cL_law 1538 = .ok (.goto (-1520), 3) := by decide +kernel
theorem dL_law_1541 : decode cL_law 1541 = .ok (.iconst 1, 1) := by decide +kernel
theorem dL_law_1542 : decode cL_law 1542 = .ok (.ireturn, 1) := by decide +kernel
end
section
/-- the sorts of a class's fields: 0 an int, 1 a long, 2 a reference that stays, 3 one that is set (its cell's number as an int) -/
def kd : Nat → List Nat
  | 0 => [2]
  | 1 => [2, 2, 2, 2, 2, 0, 0, 0, 0]
  | 2 => [2, 2, 2, 2, 2, 2, 3, 0, 0, 0]
  | 3 => [2, 2, 0, 0, 0, 0, 0]
  | 4 => [0, 2, 2, 2, 2, 2]
  | 5 => [2, 2, 2, 3, 0, 0, 0]
  | 6 => [2, 2, 0]
  | 7 => [2, 2, 2, 2, 2, 2]
  | 8 => [2, 0, 2, 2, 0, 0, 0, 0]
  | 9 => [0, 0, 0, 0, 2, 0]
  | 10 => [0, 0, 2, 2, 2, 2, 2, 2]
  | 11 => [2, 2, 2, 2, 0, 2, 2, 2, 2, 2, 2, 2, 2, 2]
  | 12 => [0, 2, 2, 2, 2, 0, 0, 0, 0, 2, 2, 2, 0, 2, 0, 2, 0, 0, 0, 0, 1, 0, 0, 2, 2, 0, 2, 2, 2, 0, 0, 2, 0, 0, 2, 2, 2, 0, 2, 2, 2, 2, 2, 2, 0, 0, 0, 2, 0, 0, 0, 2, 0, 2]
  | _ => []
/-! THE FRAME: a pool of numbered cells (objects and rows), worlds as functions of ints and longs, the judgement E over configurations -/
def TBG : List Cond := lw_tbl.filter goodWord
theorem tbg_in {w : Cond} (h : w ∈ lw_tbl) (hg : goodWord w = true) : w ∈ TBG := List.mem_filter.mpr ⟨h, hg⟩
theorem tbg_ok {w : Cond} (h : w ∈ TBG) : (w.onTables && w.keeps) = true ∨ ∃ ty, w = .arrayClass ty := good_of_word (List.mem_filter.mp h).2
def wz (y : MethodName) (b : ByteArray) (k : Nat) (r : Option FieldType) : List Cond := .code y b k r :: TBG
theorem wz_in {y : MethodName} {b : ByteArray} {k : Nat} {r : Option FieldType} (h : Cond.code y b k r ∈ TBG) : GoodIn TBG (wz y b k r) := fun w hw => by
  rcases List.mem_cons.mp hw with rfl | hw
  · exact ⟨h, tbg_ok h⟩
  · exact ⟨hw, tbg_ok hw⟩
/-- a world: what ints and longs the cells hold, by cell and place -/
abbrev AW : Type := (Nat → Nat → Int32) × (Nat → Nat → Int64)
/-- the addresses of the cells, of the classes, of what lies outside -/
abbrev EV : Type := (Nat → Nat) × va_G × (ClassId × ClassId × ClassId) × ((Nat → Nat) × Value)
/-- the shapes of the cells, and the references that never change -/
abbrev PI : Type := List Nat × (Nat → Nat → Nat)
def rfv (ad : Nat → Nat) (r : Nat) : Value := if r = 0 then .null else .ref (ad r)
def fv (ad : Nat → Nat) (Rf : Nat → Nat → Nat) (w : AW) (o k t : Nat) : Value := if t = 0 then .int (w.1 o k) else if t = 1 then .long (w.2 o k) else if t = 2 then rfv ad (Rf o k) else rfv ad (w.1 o k).toNatClampNeg
def flds (ad : Nat → Nat) (Rf : Nat → Nat → Nat) (w : AW) (o c : Nat) : List Value := (kd c).mapIdx (fun k t => fv ad Rf w o k t)
def ent (V : EV) (Rf : Nat → Nat → Nat) (w : AW) (o c : Nat) : va_E :=
  if c < 100 then .inr (c, flds V.1 Rf w o c) else if c < 1000 then .inl (V.2.2.1.2.1, c - 100, .inl (w.1 o)) else if c < 2000 then .inl (V.2.2.1.1, c - 1000, .inl (w.1 o)) else .inl (V.2.2.1.2.2, c - 2000, .inr (.inl (w.2 o)))
def wl (P : PI) (V : EV) (w : AW) : va_W := P.1.mapIdx (fun o c => (V.1 o, ent V P.2 w o c))
theorem wl_at {P : PI} {V : EV} {w : AW} {o c : Nat} (h : P.1[o]? = some c) : (wl P V w)[o]? = some (V.1 o, ent V P.2 w o c) := by simp [wl, h]
def setI (w : AW) (o k : Nat) (v : Int32) : AW := (fun a j => if a = o ∧ j = k then v else w.1 a j, w.2)
def setL (w : AW) (o k : Nat) (v : Int64) : AW := (w.1, fun a j => if a = o ∧ j = k then v else w.2 a j)
/-- n places of cell a from sp on come to cell b from dp on -/
def cpyI (w : AW) (a sp b dp n : Nat) : AW := (fun o j => if o = b then va_cpy (w.1 a) (w.1 b) sp dp n j else w.1 o j, w.2)
theorem ent_obj {V : EV} {Rf : Nat → Nat → Nat} {w : AW} {o c : Nat} (h : c < 100) : ent V Rf w o c = .inr (c, flds V.1 Rf w o c) := by simp [ent, h]
theorem ent_I {V : EV} {Rf : Nat → Nat → Nat} {w : AW} {o n : Nat} (h : n < 900) : ent V Rf w o (100 + n) = .inl (V.2.2.1.2.1, n, .inl (w.1 o)) := by
  have h1 : ¬ 100 + n < 100 := by omega
  have h2 : 100 + n < 1000 := by omega
  simp [ent, h2]
theorem ent_B {V : EV} {Rf : Nat → Nat → Nat} {w : AW} {o n : Nat} (h : n < 1000) : ent V Rf w o (1000 + n) = .inl (V.2.2.1.1, n, .inl (w.1 o)) := by
  have h1 : ¬ 1000 + n < 100 := by omega
  have h2 : ¬ 1000 + n < 1000 := by omega
  have h3 : 1000 + n < 2000 := by omega
  simp only [ent, if_neg h1, if_neg h2, if_pos h3, Nat.add_sub_cancel_left]
theorem ent_J {V : EV} {Rf : Nat → Nat → Nat} {w : AW} {o n : Nat} : ent V Rf w o (2000 + n) = .inl (V.2.2.1.2.2, n, .inr (.inl (w.2 o))) := by
  have h1 : ¬ 2000 + n < 100 := by omega
  have h2 : ¬ 2000 + n < 1000 := by omega
  have h3 : ¬ 2000 + n < 2000 := by omega
  simp [ent, h1, h2]
theorem flds_at {ad : Nat → Nat} {Rf : Nat → Nat → Nat} {w : AW} {o c k t : Nat} (h : (kd c)[k]? = some t) : (flds ad Rf w o c)[k]? = some (fv ad Rf w o k t) := by simp [flds, h]
theorem ent_off {V : EV} {Rf : Nat → Nat → Nat} {w w' : AW} {o c : Nat} (h1 : w'.1 o = w.1 o) (h2 : w'.2 o = w.2 o) : ent V Rf w' o c = ent V Rf w o c := by
  have hf : flds V.1 Rf w' o c = flds V.1 Rf w o c := by simp only [flds, fv, h1, h2]
  simp only [ent, hf, h1, h2]
theorem wl_set {P : PI} {V : EV} {w w' : AW} {o c : Nat} {e : va_E} (h : P.1[o]? = some c) (he : e = ent V P.2 w' o c) (hoff : ∀ o', o' ≠ o → w'.1 o' = w.1 o' ∧ w'.2 o' = w.2 o') : (wl P V w).set o (V.1 o, e) = wl P V w' := by
  apply List.ext_getElem?
  intro i
  rw [List.getElem?_set]
  by_cases hi : o = i
  · subst hi
    rw [if_pos rfl, wl_at h, he]
    have hl : o < (wl P V w).length := by
      have := (List.getElem?_eq_some_iff.mp h).1
      simp [wl]; exact this
    rw [if_pos hl]
  · rw [if_neg hi]
    simp only [wl, List.getElem?_mapIdx]
    cases hc : P.1[i]? with
    | none => rfl
    | some c' =>
      have := hoff i (fun q => hi q.symm)
      simp only [Option.map_some, ent_off this.1 this.2]
theorem setI_off {w : AW} {o k : Nat} {v : Int32} {o' : Nat} (h : o' ≠ o) : (setI w o k v).1 o' = w.1 o' ∧ (setI w o k v).2 o' = w.2 o' := ⟨funext fun j => if_neg (fun q => h q.1), rfl⟩
theorem setL_off {w : AW} {o k : Nat} {v : Int64} {o' : Nat} (h : o' ≠ o) : (setL w o k v).1 o' = w.1 o' ∧ (setL w o k v).2 o' = w.2 o' := ⟨rfl, funext fun j => if_neg (fun q => h q.1)⟩
theorem cpyI_off {w : AW} {a sp b dp n o' : Nat} (h : o' ≠ b) : (cpyI w a sp b dp n).1 o' = w.1 o' ∧ (cpyI w a sp b dp n).2 o' = w.2 o' := ⟨funext fun j => if_neg h, rfl⟩
theorem setI_row {w : AW} {o k : Nat} {v : Int32} : (setI w o k v).1 o = upd (w.1 o) k v := by
  funext j
  by_cases h : j = k <;> simp [setI, upd, h]
theorem setL_row {w : AW} {o k : Nat} {v : Int64} : (setL w o k v).2 o = vp_updL (w.2 o) k v := by
  funext j
  by_cases h : j = k <;> simp [setL, vp_updL, h]
theorem cpyI_row {w : AW} {a sp b dp n : Nat} : (cpyI w a sp b dp n).1 b = va_cpy (w.1 a) (w.1 b) sp dp n := funext fun j => if_pos rfl
theorem fv_setI {ad : Nat → Nat} {Rf : Nat → Nat → Nat} {w : AW} {o k i t : Nat} {v : Int32} (h : ¬ k = i) : fv ad Rf (setI w o k v) o i t = fv ad Rf w o i t := by
  have e1 : (setI w o k v).1 o i = w.1 o i := if_neg (fun q => h q.2.symm)
  unfold fv
  rw [e1]
  rfl
theorem flds_len {ad : Nat → Nat} {Rf : Nat → Nat → Nat} {w : AW} {o c k t : Nat} (h : (kd c)[k]? = some t) : k < (flds ad Rf w o c).length := by
  have := (List.getElem?_eq_some_iff.mp h).1
  simpa [flds] using this
theorem flds_get {ad : Nat → Nat} {Rf : Nat → Nat → Nat} {w : AW} {o c i : Nat} : (flds ad Rf w o c)[i]? = ((kd c)[i]?).map (fun t => fv ad Rf w o i t) := by
  simp [flds]
theorem flds_off {ad : Nat → Nat} {Rf : Nat → Nat → Nat} {w : AW} {o c k i : Nat} {v : Int32} (h : ¬ k = i) : (flds ad Rf w o c)[i]? = (flds ad Rf (setI w o k v) o c)[i]? := by
  rw [flds_get, flds_get]
  have hf : (fun t => fv ad Rf w o i t) = (fun t => fv ad Rf (setI w o k v) o i t) := funext fun t => (fv_setI h).symm
  rw [hf]
theorem flds_setI {ad : Nat → Nat} {Rf : Nat → Nat → Nat} {w : AW} {o c k t : Nat} {v : Int32} {y : Value} (h : (kd c)[k]? = some t) (hy : y = fv ad Rf (setI w o k v) o k t) : (flds ad Rf w o c).set k y = flds ad Rf (setI w o k v) o c := by
  apply List.ext_getElem?
  intro i
  rw [List.getElem?_set]
  by_cases hi : k = i
  · subst hi
    rw [if_pos rfl, if_pos (flds_len h), hy]
    exact (flds_at h).symm
  · rw [if_neg hi]
    exact flds_off hi
theorem flds_setL {ad : Nat → Nat} {Rf : Nat → Nat → Nat} {w : AW} {o c k : Nat} {v : Int64} (h : (kd c)[k]? = some 1) : (flds ad Rf w o c).set k (.long v) = flds ad Rf (setL w o k v) o c := by
  apply List.ext_getElem?
  intro i
  rw [List.getElem?_set]
  have hlen : k < (flds ad Rf w o c).length := by
    have := (List.getElem?_eq_some_iff.mp h).1
    simpa [flds] using this
  by_cases hi : k = i
  · subst hi
    rw [if_pos rfl, if_pos hlen, flds_at h]
    simp [fv, setL]
  · rw [if_neg hi]
    simp only [flds, List.getElem?_mapIdx]
    cases hc : (kd c)[i]? with
    | none => rfl
    | some t' =>
      have e1 : (setL w o k v).2 o i = w.2 o i := if_neg (fun q => hi q.2.symm)
      have e2 : (setL w o k v).1 = w.1 := rfl
      simp only [Option.map_some, fv, e1, e2]
/-- the pool's addresses -/
def Pl (P : PI) (V : EV) (q : Nat) : Prop := ∃ k, k < P.1.length ∧ q = V.1 k
theorem wl_D {P : PI} {V : EV} (hi : ∀ i j, i < P.1.length → j < P.1.length → V.1 i = V.1 j → i = j) (w : AW) : va_D (Pl P V) (wl P V w) := by
  have hat : ∀ (k : Nat) (q : Nat × va_E), (wl P V w)[k]? = some q → k < P.1.length ∧ q.1 = V.1 k := by
    intro k q h
    have hk : k < P.1.length := by
      have := (List.getElem?_eq_some_iff.mp h).1
      simpa [wl] using this
    refine ⟨hk, ?_⟩
    rw [wl_at (List.getElem?_eq_getElem hk)] at h
    rw [← Option.some.inj h]
  refine ⟨fun i j p q h1 h2 h => ?_, fun k q h => ⟨k, hat k q h⟩⟩
  obtain ⟨a1, a2⟩ := hat i p h1
  obtain ⟨b1, b2⟩ := hat j q h2
  exact hi i j a1 b1 (by rw [← a2, ← b2, h])
/-- a value of a configuration as the machine has it -/
def cv (V : EV) : Value → Value
  | .ref k => .ref (V.1 k)
  | .retAddr 0 => V.2.2.2.2
  | .retAddr (k + 1) => .ref (V.2.2.2.1 (k + 1))
  | v => v
theorem cv_cat {V : EV} {v : Value} (h : ∀ k, v ≠ .retAddr k) : (cv V v).category = v.category := by
  cases v <;> first | rfl | exact absurd rfl (h _)
abbrev tysV (V : EV) : List (ClassId × FieldType) := [(V.2.2.1.1, .byte), (V.2.2.1.2.1, .int), (V.2.2.1.2.2, .long)]


def nestW : Cond → Bool
  | .methodLinkNest .. => true
  | .fieldLinkNest .. => true
  | _ => false
def NWL : List Cond := lw_tbl.filter nestW
theorem nwl_in {w : Cond} (h : w ∈ lw_tbl) (hg : nestW w = true) : w ∈ NWL := List.mem_filter.mpr ⟨h, hg⟩
theorem nestW_warm {w : Cond} {s U : State} (hw : nestW w = true) (hW : s.WarmedH U.vm) (h : va_Nw w s) : va_Nw w U := by
  cases w <;> first | exact va_Nw.warmM hW h | exact va_Nw.warmF hW h | (exact absurd hw (by simp [nestW]))
/-- the String constants of Text, by their places: entries, texts, bytes -/
def keyS : List Nat := [88, 93, 95, 97, 99, 101, 103, 105, 107, 74, 80, 82]
def txtS : List String := ["slots", "setting", "fine", "job", "wedding", "poster", "ticket", "urgent", "half", "black", "by", "for"]
def bytS : List (List Int32) := [[115, 108, 111, 116, 115], [115, 101, 116, 116, 105, 110, 103], [102, 105, 110, 101], [106, 111, 98], [119, 101, 100, 100, 105, 110, 103], [112, 111, 115, 116, 101, 114], [116, 105, 99, 107, 101, 116], [117, 114, 103, 101, 110, 116], [104, 97, 108, 102], [98, 108, 97, 99, 107], [98, 121], [102, 111, 114]]
def lenS : List Nat := [5, 7, 4, 3, 7, 6, 6, 6, 4, 5, 2, 3]
def exA (V : EV) (k : Nat) : Nat := V.2.2.2.1 k
def exN (V : EV) : Value := V.2.2.2.2
def leastS : Nat → Int32 := fun j => if j = 0 then 1 else 0
def mostS : Nat → Int32 := fun j => if j = 0 then 4 else if j = 1 then 3 else if j = 2 then 99 else 4
/-- what lies outside the pools, by kind -/
def StatOK (A : Nat → Prop) (V : EV) (U : State) (H : Heap) : Prop :=
  (va_Z "PressDays" "LAW_LEAST" "[I" (.ref (exA V 1)) A U H ∧ va_T .int (exA V 1) 4 (fun j => .int (leastS j)) A U H) ∧ (va_Z "PressDays" "LAW_MOST" "[I" (.ref (exA V 2)) A U H ∧ va_T .int (exA V 2) 4 (fun j => .int (mostS j)) A U H) ∧
  va_Z "java/lang/String" "COMPACT_STRINGS" "Z" (.int 1) A U H ∧ (va_Z "jdk/internal/util/Preconditions" "SIOOBE_FORMATTER" "Ljava/util/function/BiFunction;" (exN V) A U H ∧ (exN V = .null ∨ ∃ t, exN V = .ref t)) ∧
  vk_S 12 lenS bytS (fun i => exA V (10 + i)) (fun i => exA V (30 + i)) A U H ∧ ∀ i, i < 12 → vk_R "PressDays$Text" (keyS.getD i 0) (txtS.getD i "") (exA V (10 + i)) U
theorem StatOK.to {A : Nat → Prop} {V : EV} {s U : State} {H0 H : Heap} (h : StatOK A V s H0) (hW : s.WarmedH U.vm) (hq : ∀ a : Nat, a < H0.size → ¬ A a → H[a]? = H0[a]?) : StatOK A V U H := by
  obtain ⟨⟨a1, a2⟩, ⟨b1, b2⟩, c, ⟨d, d2⟩, e, f⟩ := h
  exact ⟨⟨(a1.moved hW.alike).kept hq, (a2.moved hW.alike).kept hq⟩, ⟨(b1.moved hW.alike).kept hq, (b2.moved hW.alike).kept hq⟩, (c.moved hW.alike).kept hq, ⟨(d.moved hW.alike).kept hq, d2⟩, (e.moved hW.alike).kept hq, fun i hi => (f i hi).warm hW⟩
theorem StatOK.narrow {A B : Nat → Prop} {V : EV} {U : State} {H : Heap} (h : StatOK A V U H) (hAB : ∀ q, B q → A q) : StatOK B V U H := by
  obtain ⟨⟨a1, a2⟩, ⟨b1, b2⟩, c, ⟨d, d2⟩, e, f⟩ := h
  exact ⟨⟨a1.narrow hAB, a2.narrow hAB⟩, ⟨b1.narrow hAB, b2.narrow hAB⟩, c.narrow hAB, ⟨d.narrow hAB, d2⟩, e.narrow hAB, f⟩
def EnvOK (P : PI) (V : EV) (U : State) (H : Heap) : Prop :=
  va_K V.2.1 vwCl (tysV V) U ∧ (∀ i j, i < P.1.length → j < P.1.length → V.1 i = V.1 j → i = j) ∧ (∀ w ∈ NWL, va_Nw w U) ∧ StatOK (Pl P V) V U H
theorem EnvOK.to {P : PI} {V : EV} {s U : State} {H0 H : Heap} (h : EnvOK P V s H0) (hW : s.WarmedH U.vm) (hq : ∀ a : Nat, a < H0.size → ¬ Pl P V a → H[a]? = H0[a]?) : EnvOK P V U H :=
  ⟨va_K.moved hW.alike h.1, h.2.1, fun w hw => nestW_warm (List.mem_filter.mp hw).2 hW (h.2.2.1 w hw), h.2.2.2.to hW hq⟩
theorem EnvOK.calling {P : PI} {V : EV} {U : State} {g : JFrame} {mk : MethodId} {a : Array Value} {H : Heap} (h : EnvOK P V U H) : EnvOK P V (U.calling g mk a) H := by
  have hv : (U.calling g mk a).vm = U.vm := rfl
  obtain ⟨h1, h2, h3, ⟨a1, a2⟩, ⟨b1, b2⟩, c, ⟨d, d2⟩, e, f⟩ := h
  have hal : U.vm.Alike (U.calling g mk a).vm := by rw [hv]; exact Vm.Alike.refl U.vm
  exact ⟨va_K.moved hal h1, h2, fun w hw => va_tabs (by
    have hw2 := (List.mem_filter.mp hw).2
    cases w <;> first | rfl | exact absurd hw2 (by simp [nestW])) hv.symm (h3 w hw), ⟨a1.moved hal, a2.moved hal⟩, ⟨b1.moved hal, b2.moved hal⟩, c.moved hal, ⟨d.moved hal, d2⟩, e.moved hal, fun i hi => (f i hi).same hv⟩


/-- a frame's room at depth d -/
def rmd (d : Nat) : Room := { frames := d, cells := 0, slots := 0, locals := 40 * d }
/-- the locals: what is known of them, by place -/
def hasL (V : EV) (a : Array Slot) (nL : Nat) (ls : List (Option Value)) : Prop := a.size = nL ∧ lv_wf a ∧ ∀ (i : Nat) (v : Value), ls[i]? = some (some v) → a[i]? = some (.val (cv V v))
def asc (V : EV) (ls : List (Option Value)) : List (Nat × Value) := (List.range ls.length).filterMap (fun i => match ls[i]? with | some (some v) => some (i, cv V v) | _ => none)
theorem asc_mem {V : EV} {ls : List (Option Value)} {q : Nat × Value} : q ∈ asc V ls ↔ ∃ v, ls[q.1]? = some (some v) ∧ q.2 = cv V v := by
  constructor
  · intro h
    obtain ⟨i, -, hi⟩ := List.mem_filterMap.mp h
    cases hc : ls[i]? with
    | none => rw [hc] at hi; cases hi
    | some x =>
      cases x with
      | none => rw [hc] at hi; cases hi
      | some v =>
        rw [hc] at hi
        obtain rfl := (Option.some.inj hi).symm
        exact ⟨v, hc, rfl⟩
  · rintro ⟨v, h1, h2⟩
    refine List.mem_filterMap.mpr ⟨q.1, List.mem_range.mpr (List.getElem?_eq_some_iff.mp h1).1, ?_⟩
    rw [h1]
    exact congrArg some (Prod.ext rfl h2.symm)
theorem asc_of {V : EV} {a : Array Slot} {nL : Nat} {ls : List (Option Value)} (h : hasL V a nL ls) : lv_has a nL (asc V ls) := ⟨h.1, h.2.1, fun q hq => by
  obtain ⟨v, h1, h2⟩ := asc_mem.mp hq
  rw [h2]
  exact h.2.2 _ _ h1⟩
theorem asc_to {V : EV} {a : Array Slot} {nL : Nat} {ls : List (Option Value)} (h : lv_has a nL (asc V ls)) : hasL V a nL ls := ⟨h.1, h.2.1, fun i v hi => h.2.2 (i, cv V v) (asc_mem.mpr ⟨v, hi, rfl⟩)⟩
/-- no long stands ahead of place i -/
def okst (ls : List (Option Value)) : Nat → Bool
  | 0 => true
  | j + 1 => match ls[j]? with
    | some (some (.long _)) => false
    | some (some (.double _)) => false
    | some (some (.retAddr 0)) => false
    | _ => true
theorem asc_st {V : EV} {a : Array Slot} {nL i : Nat} {ls : List (Option Value)} {v : Value} (h : lv_has a nL ((i, cv V v) :: (asc V ls).filter (fun q => !(q.1 == i) && !(q.1 + 1 == i && q.2.category == 2)))) (hk : okst ls i = true) : hasL V a nL (ls.set i (some v)) := by
  refine ⟨h.1, h.2.1, fun j u hj => ?_⟩
  rw [List.getElem?_set] at hj
  by_cases hij : i = j
  · subst hij
    rw [if_pos rfl] at hj
    split at hj
    · obtain rfl := Option.some.inj (Option.some.inj hj)
      exact h.2.2 (i, _) List.mem_cons_self
    · cases hj
  · rw [if_neg hij] at hj
    refine h.2.2 (j, cv V u) (List.mem_cons_of_mem _ (List.mem_filter.mpr ⟨asc_mem.mpr ⟨u, hj, rfl⟩, ?_⟩))
    have h1 : (j == i) = false := by simpa using fun q => hij (Eq.symm q)
    by_cases h2 : j + 1 = i
    · subst h2
      have : (cv V u).category = 1 := by
        simp only [okst, hj] at hk
        cases u with
        | long x => simp at hk
        | double x => simp at hk
        | retAddr k =>
          cases k with
          | zero => simp at hk
          | succ k => rfl
        | _ => rfl
      simp [this]
    · have h3 : (j + 1 == i) = false := by simpa using h2
      simp [h1, h3]
theorem hasL_at {V : EV} {a : Array Slot} {nL i : Nat} {ls : List (Option Value)} {v : Value} (h : hasL V a nL ls) (hi : ls[i]? = some (some v)) : a[i]? = some (.val (cv V v)) := h.2.2 i v hi
/-- fewer known locals -/
def lsle : List (Option Value) → List (Option Value) → Prop
  | _, [] => True
  | a :: l, b :: l' => (b = none ∨ a = b) ∧ lsle l l'
  | [], b :: l' => b = none ∧ lsle [] l'
theorem lsle_at : ∀ {l l' : List (Option Value)} {i : Nat} {v : Value}, lsle l l' → l'[i]? = some (some v) → l[i]? = some (some v)
  | l, [], i, v, _, h => by simp at h
  | a :: l, b :: l', 0, v, h, h2 => by
    have h3 : b = some v := by simpa using h2
    rcases h.1 with q | q
    · rw [q] at h3; cases h3
    · rw [q, h3]; rfl
  | a :: l, b :: l', i + 1, v, h, h2 => by
    have := lsle_at (l := l) (l' := l') (i := i) (v := v) h.2 (by simpa using h2)
    simpa using this
  | [], b :: l', 0, v, h, h2 => by
    have h3 : b = some v := by simpa using h2
    rw [h.1] at h3; cases h3
  | [], b :: l', i + 1, v, h, h2 => by
    have := lsle_at (l := []) (l' := l') (i := i) (v := v) h.2 (by simpa using h2)
    simp at this
/-- what stays through a frame -/
def Cx (P : PI) (V : EV) (own : String) (cc : ByteArray) (nL d : Nat) (p : Program) (R : Room) (s : State) (m : MethodId) (args : Array Value) (c : Code) (cells slots : Nat) : Prop :=
  p.tables.exec = Jvm.exec ∧ c.code = cc ∧ c.maxLocals = nL ∧ s.vm.findClass own = some m.cls ∧ (∀ w ∈ TBG, w.before args s = true) ∧ EnvOK P V s s.heap ∧ d ≤ R.frames ∧ 40 * d ≤ R.locals ∧ cells ≤ R.cells ∧ slots ≤ R.slots
/-- from a configuration the frame comes to one with Q -/
def E (P : PI) (own : String) (cc : ByteArray) (nL d : Nat) (pc : Nat) (ls : List (Option Value)) (st : List Value) (w : AW) (Q : Nat → List (Option Value) → List Value → AW → Prop) : Prop :=
  ∀ (p : Program) (l : Launch) (e : Env) (R : Room) (s : State) (m : MethodId) (args : Array Value) (below : List Frame) (meth : Method) (c : Code) (V : EV) (H : Heap) (locs : List Loc) (cells slots : Nat) (la : Array Slot) (Z : State → Prop),
    Cx P V own cc nL d p R s m args c cells slots → va_P V.2.1 vwCl (wl P V w) H → va_S (Pl P V) s.heap H locs → hasL V la nL ls →
    (∀ (pc' : Nat) (ls' : List (Option Value)) (st' : List Value) (w' : AW) (H' : Heap) (locs' : List Loc) (la' : Array Slot), Q pc' ls' st' w' → va_P V.2.1 vwCl (wl P V w') H' → va_S (Pl P V) s.heap H' locs' → hasL V la' nL ls' →
      W p l e R s m args below meth c H' locs' cells slots Z (F0 m pc' la' (st'.map (cv V)))) →
    W p l e R s m args below meth c H locs cells slots Z (F0 m pc la (st.map (cv V)))
section ER
variable {P : PI} {own : String} {cc : ByteArray} {nL d pc : Nat} {ls : List (Option Value)} {st : List Value} {w : AW} {Q : Nat → List (Option Value) → List Value → AW → Prop}
theorem E.done (h : Q pc ls st w) : E P own cc nL d pc ls st w Q := by
  intro p l e R s m args below meth c V H locs cells slots la Z C hP hS hl K
  exact K pc ls st w H locs la h hP hS hl
theorem E.then {Q' : Nat → List (Option Value) → List Value → AW → Prop} (h : E P own cc nL d pc ls st w Q') (k : ∀ pc' ls' st' w', Q' pc' ls' st' w' → E P own cc nL d pc' ls' st' w' Q) : E P own cc nL d pc ls st w Q := by
  intro p l e R s m args below meth c V H locs cells slots la Z C hP hS hl K
  exact h p l e R s m args below meth c V H locs cells slots la Z C hP hS hl (fun pc' ls' st' w' H' locs' la' hq hP' hS' hl' => k pc' ls' st' w' hq p l e R s m args below meth c V H' locs' cells slots la' Z C hP' hS' hl' K)
theorem E.fewer {ls' : List (Option Value)} (h : lsle ls ls') (k : E P own cc nL d pc ls' st w Q) : E P own cc nL d pc ls st w Q := by
  intro p l e R s m args below meth c V H locs cells slots la Z C hP hS hl K
  exact k p l e R s m args below meth c V H locs cells slots la Z C hP hS ⟨hl.1, hl.2.1, fun i v hi => hl.2.2 i v (lsle_at h hi)⟩ K

theorem E_iadd {x y : Int32} (hd : decode cc pc = .ok (.iadd, 1)) (k : E P own cc nL d (pc + 1) ls (.int (x + y) :: st) w Q) : E P own cc nL d pc ls (.int y :: .int x :: st) w Q := by
  intro p l e R s m args below meth c V H locs cells slots la Z C hP hS hl K
  exact lv_iadd C.1 C.2.1 hd (k p l e R s m args below meth c V H locs cells slots la Z C hP hS hl K)

theorem E_isub {x y : Int32} (hd : decode cc pc = .ok (.isub, 1)) (k : E P own cc nL d (pc + 1) ls (.int (x - y) :: st) w Q) : E P own cc nL d pc ls (.int y :: .int x :: st) w Q := by
  intro p l e R s m args below meth c V H locs cells slots la Z C hP hS hl K
  exact lv_isub C.1 C.2.1 hd (k p l e R s m args below meth c V H locs cells slots la Z C hP hS hl K)

theorem E_imul {x y : Int32} (hd : decode cc pc = .ok (.imul, 1)) (k : E P own cc nL d (pc + 1) ls (.int (x * y) :: st) w Q) : E P own cc nL d pc ls (.int y :: .int x :: st) w Q := by
  intro p l e R s m args below meth c V H locs cells slots la Z C hP hS hl K
  exact lv_imul C.1 C.2.1 hd (k p l e R s m args below meth c V H locs cells slots la Z C hP hS hl K)

theorem E_iand {x y : Int32} (hd : decode cc pc = .ok (.iand, 1)) (k : E P own cc nL d (pc + 1) ls (.int (x &&& y) :: st) w Q) : E P own cc nL d pc ls (.int y :: .int x :: st) w Q := by
  intro p l e R s m args below meth c V H locs cells slots la Z C hP hS hl K
  exact lv_iand C.1 C.2.1 hd (k p l e R s m args below meth c V H locs cells slots la Z C hP hS hl K)

theorem E_ior {x y : Int32} (hd : decode cc pc = .ok (.ior, 1)) (k : E P own cc nL d (pc + 1) ls (.int (x ||| y) :: st) w Q) : E P own cc nL d pc ls (.int y :: .int x :: st) w Q := by
  intro p l e R s m args below meth c V H locs cells slots la Z C hP hS hl K
  exact lv_ior C.1 C.2.1 hd (k p l e R s m args below meth c V H locs cells slots la Z C hP hS hl K)

theorem E_ixor {x y : Int32} (hd : decode cc pc = .ok (.ixor, 1)) (k : E P own cc nL d (pc + 1) ls (.int (x ^^^ y) :: st) w Q) : E P own cc nL d pc ls (.int y :: .int x :: st) w Q := by
  intro p l e R s m args below meth c V H locs cells slots la Z C hP hS hl K
  exact lv_ixor C.1 C.2.1 hd (k p l e R s m args below meth c V H locs cells slots la Z C hP hS hl K)

theorem E_ishl {x y : Int32} (hd : decode cc pc = .ok (.ishl, 1)) (k : E P own cc nL d (pc + 1) ls (.int (x <<< (y &&& 31)) :: st) w Q) : E P own cc nL d pc ls (.int y :: .int x :: st) w Q := by
  intro p l e R s m args below meth c V H locs cells slots la Z C hP hS hl K
  exact lv_ishl C.1 C.2.1 hd (k p l e R s m args below meth c V H locs cells slots la Z C hP hS hl K)

theorem E_ishr {x y : Int32} (hd : decode cc pc = .ok (.ishr, 1)) (k : E P own cc nL d (pc + 1) ls (.int (x >>> (y &&& 31)) :: st) w Q) : E P own cc nL d pc ls (.int y :: .int x :: st) w Q := by
  intro p l e R s m args below meth c V H locs cells slots la Z C hP hS hl K
  exact lv_ishr C.1 C.2.1 hd (k p l e R s m args below meth c V H locs cells slots la Z C hP hS hl K)

theorem E_idiv {x y : Int32} (hd : decode cc pc = .ok (.idiv, 1)) (h0 : ¬ y = 0) (k : E P own cc nL d (pc + 1) ls (.int (x / y) :: st) w Q) : E P own cc nL d pc ls (.int y :: .int x :: st) w Q := by
  intro p l e R s m args below meth c V H locs cells slots la Z C hP hS hl K
  exact lv_idiv C.1 C.2.1 hd h0 (k p l e R s m args below meth c V H locs cells slots la Z C hP hS hl K)

theorem E_irem {x y : Int32} (hd : decode cc pc = .ok (.irem, 1)) (h0 : ¬ y = 0) (k : E P own cc nL d (pc + 1) ls (.int (x - x / y * y) :: st) w Q) : E P own cc nL d pc ls (.int y :: .int x :: st) w Q := by
  intro p l e R s m args below meth c V H locs cells slots la Z C hP hS hl K
  exact lv_irem C.1 C.2.1 hd h0 (k p l e R s m args below meth c V H locs cells slots la Z C hP hS hl K)

theorem E_iushr {x y : Int32} (hd : decode cc pc = .ok (.iushr, 1)) (k : E P own cc nL d (pc + 1) ls (.int (x.toUInt32 >>> (y.toUInt32 &&& Int32.toUInt32 31)).toInt32 :: st) w Q) : E P own cc nL d pc ls (.int y :: .int x :: st) w Q := by
  intro p l e R s m args below meth c V H locs cells slots la Z C hP hS hl K
  exact lv_iushr C.1 C.2.1 hd rfl (k p l e R s m args below meth c V H locs cells slots la Z C hP hS hl K)

theorem E_ineg {x : Int32} (hd : decode cc pc = .ok (.ineg, 1)) (k : E P own cc nL d (pc + 1) ls (.int (-x) :: st) w Q) : E P own cc nL d pc ls (.int x :: st) w Q := by
  intro p l e R s m args below meth c V H locs cells slots la Z C hP hS hl K
  exact lv_ineg C.1 C.2.1 hd (k p l e R s m args below meth c V H locs cells slots la Z C hP hS hl K)

theorem E_i2b {x : Int32} (hd : decode cc pc = .ok (.i2b, 1)) (k : E P own cc nL d (pc + 1) ls (.int x.toInt8.toInt32 :: st) w Q) : E P own cc nL d pc ls (.int x :: st) w Q := by
  intro p l e R s m args below meth c V H locs cells slots la Z C hP hS hl K
  exact lv_i2b C.1 C.2.1 hd rfl (k p l e R s m args below meth c V H locs cells slots la Z C hP hS hl K)

theorem E_i2s {x : Int32} (hd : decode cc pc = .ok (.i2s, 1)) (k : E P own cc nL d (pc + 1) ls (.int x.toInt16.toInt32 :: st) w Q) : E P own cc nL d pc ls (.int x :: st) w Q := by
  intro p l e R s m args below meth c V H locs cells slots la Z C hP hS hl K
  exact lv_i2s C.1 C.2.1 hd rfl (k p l e R s m args below meth c V H locs cells slots la Z C hP hS hl K)

theorem E_i2c {x : Int32} (hd : decode cc pc = .ok (.i2c, 1)) (k : E P own cc nL d (pc + 1) ls (.int (x.toUInt32 % 65536).toInt32 :: st) w Q) : E P own cc nL d pc ls (.int x :: st) w Q := by
  intro p l e R s m args below meth c V H locs cells slots la Z C hP hS hl K
  exact lv_i2c C.1 C.2.1 hd rfl (k p l e R s m args below meth c V H locs cells slots la Z C hP hS hl K)

theorem E_i2l {x : Int32} (hd : decode cc pc = .ok (.i2l, 1)) (k : E P own cc nL d (pc + 1) ls (.long x.toInt64 :: st) w Q) : E P own cc nL d pc ls (.int x :: st) w Q := by
  intro p l e R s m args below meth c V H locs cells slots la Z C hP hS hl K
  exact lv_i2l C.1 C.2.1 hd rfl (k p l e R s m args below meth c V H locs cells slots la Z C hP hS hl K)

theorem E_l2i {x : Int64} (hd : decode cc pc = .ok (.l2i, 1)) (k : E P own cc nL d (pc + 1) ls (.int x.toInt32 :: st) w Q) : E P own cc nL d pc ls (.long x :: st) w Q := by
  intro p l e R s m args below meth c V H locs cells slots la Z C hP hS hl K
  exact lv_l2i C.1 C.2.1 hd rfl (k p l e R s m args below meth c V H locs cells slots la Z C hP hS hl K)

theorem E_ladd {x y : Int64} (hd : decode cc pc = .ok (.ladd, 1)) (k : E P own cc nL d (pc + 1) ls (.long (x + y) :: st) w Q) : E P own cc nL d pc ls (.long y :: .long x :: st) w Q := by
  intro p l e R s m args below meth c V H locs cells slots la Z C hP hS hl K
  exact lv_ladd C.1 C.2.1 hd (k p l e R s m args below meth c V H locs cells slots la Z C hP hS hl K)

theorem E_lsub {x y : Int64} (hd : decode cc pc = .ok (.lsub, 1)) (k : E P own cc nL d (pc + 1) ls (.long (x - y) :: st) w Q) : E P own cc nL d pc ls (.long y :: .long x :: st) w Q := by
  intro p l e R s m args below meth c V H locs cells slots la Z C hP hS hl K
  exact lv_lsub C.1 C.2.1 hd (k p l e R s m args below meth c V H locs cells slots la Z C hP hS hl K)

theorem E_lmul {x y : Int64} (hd : decode cc pc = .ok (.lmul, 1)) (k : E P own cc nL d (pc + 1) ls (.long (x * y) :: st) w Q) : E P own cc nL d pc ls (.long y :: .long x :: st) w Q := by
  intro p l e R s m args below meth c V H locs cells slots la Z C hP hS hl K
  exact lv_lmul C.1 C.2.1 hd (k p l e R s m args below meth c V H locs cells slots la Z C hP hS hl K)

theorem E_land {x y : Int64} (hd : decode cc pc = .ok (.land, 1)) (k : E P own cc nL d (pc + 1) ls (.long (x &&& y) :: st) w Q) : E P own cc nL d pc ls (.long y :: .long x :: st) w Q := by
  intro p l e R s m args below meth c V H locs cells slots la Z C hP hS hl K
  exact lv_land C.1 C.2.1 hd (k p l e R s m args below meth c V H locs cells slots la Z C hP hS hl K)

theorem E_lor {x y : Int64} (hd : decode cc pc = .ok (.lor, 1)) (k : E P own cc nL d (pc + 1) ls (.long (x ||| y) :: st) w Q) : E P own cc nL d pc ls (.long y :: .long x :: st) w Q := by
  intro p l e R s m args below meth c V H locs cells slots la Z C hP hS hl K
  exact lv_lor C.1 C.2.1 hd (k p l e R s m args below meth c V H locs cells slots la Z C hP hS hl K)

theorem E_lshl {x : Int64} {y : Int32} (hd : decode cc pc = .ok (.lshl, 1)) (k : E P own cc nL d (pc + 1) ls (.long (x <<< (y.toInt64 &&& 63)) :: st) w Q) : E P own cc nL d pc ls (.int y :: .long x :: st) w Q := by
  intro p l e R s m args below meth c V H locs cells slots la Z C hP hS hl K
  exact lv_lshl C.1 C.2.1 hd rfl (k p l e R s m args below meth c V H locs cells slots la Z C hP hS hl K)

theorem E_lshr {x : Int64} {y : Int32} (hd : decode cc pc = .ok (.lshr, 1)) (k : E P own cc nL d (pc + 1) ls (.long (x >>> (y.toInt64 &&& 63)) :: st) w Q) : E P own cc nL d pc ls (.int y :: .long x :: st) w Q := by
  intro p l e R s m args below meth c V H locs cells slots la Z C hP hS hl K
  exact lv_lshr C.1 C.2.1 hd rfl (k p l e R s m args below meth c V H locs cells slots la Z C hP hS hl K)

theorem E_lushr {x : Int64} {y : Int32} (hd : decode cc pc = .ok (.lushr, 1)) (k : E P own cc nL d (pc + 1) ls (.long (x.toUInt64 >>> (y.toInt64.toUInt64 &&& Int64.toUInt64 63)).toInt64 :: st) w Q) : E P own cc nL d pc ls (.int y :: .long x :: st) w Q := by
  intro p l e R s m args below meth c V H locs cells slots la Z C hP hS hl K
  exact lv_lushr C.1 C.2.1 hd rfl (k p l e R s m args below meth c V H locs cells slots la Z C hP hS hl K)

theorem E_lcmp {x y : Int64} (hd : decode cc pc = .ok (.lcmp, 1)) (k : E P own cc nL d (pc + 1) ls (.int (lg_cmp x y) :: st) w Q) : E P own cc nL d pc ls (.long y :: .long x :: st) w Q := by
  intro p l e R s m args below meth c V H locs cells slots la Z C hP hS hl K
  exact W.lcmp C.1 C.2.1 hd (k p l e R s m args below meth c V H locs cells slots la Z C hP hS hl K)

theorem E_iconst {n : Int} (v : Int32) (hd : decode cc pc = .ok (.iconst n, 1)) (hv : Int32.ofInt n = v) (k : E P own cc nL d (pc + 1) ls (.int v :: st) w Q) : E P own cc nL d pc ls (st) w Q := by
  intro p l e R s m args below meth c V H locs cells slots la Z C hP hS hl K
  exact lv_iconst C.1 C.2.1 hd hv (k p l e R s m args below meth c V H locs cells slots la Z C hP hS hl K)

theorem E_bipush {n : Int} (v : Int32) (hd : decode cc pc = .ok (.bipush n, 2)) (hv : (Int8.ofInt n).toInt32 = v) (k : E P own cc nL d (pc + 2) ls (.int v :: st) w Q) : E P own cc nL d pc ls (st) w Q := by
  intro p l e R s m args below meth c V H locs cells slots la Z C hP hS hl K
  exact lv_bipush C.1 C.2.1 hd hv (k p l e R s m args below meth c V H locs cells slots la Z C hP hS hl K)

theorem E_sipush {n : Int} (v : Int32) (hd : decode cc pc = .ok (.sipush n, 3)) (hv : (Int16.ofInt n).toInt32 = v) (k : E P own cc nL d (pc + 3) ls (.int v :: st) w Q) : E P own cc nL d pc ls (st) w Q := by
  intro p l e R s m args below meth c V H locs cells slots la Z C hP hS hl K
  exact lv_sipush C.1 C.2.1 hd hv (k p l e R s m args below meth c V H locs cells slots la Z C hP hS hl K)

theorem E_lconst {n : Fin 2} (v : Int64) (hd : decode cc pc = .ok (.lconst n, 1)) (hv : Int64.ofNat (n : Nat) = v) (k : E P own cc nL d (pc + 1) ls (.long v :: st) w Q) : E P own cc nL d pc ls (st) w Q := by
  intro p l e R s m args below meth c V H locs cells slots la Z C hP hS hl K
  exact lv_lconst C.1 C.2.1 hd hv (k p l e R s m args below meth c V H locs cells slots la Z C hP hS hl K)

theorem E_ldc {ix : Nat} (v : Int32) (hd : decode cc pc = .ok (.ldc ix, 2)) (hw : Cond.constant own ix v ∈ TBG) (k : E P own cc nL d (pc + 2) ls (.int v :: st) w Q) : E P own cc nL d pc ls (st) w Q := by
  intro p l e R s m args below meth c V H locs cells slots la Z C hP hS hl K
  exact lv_ldc C.1 C.2.1 C.2.2.2.1 (C.2.2.2.2.1 _ hw) hd (k p l e R s m args below meth c V H locs cells slots la Z C hP hS hl K)

theorem E_ldcw {ix : Nat} (v : Int32) (hd : decode cc pc = .ok (.ldc_w ix, 3)) (hw : Cond.constant own ix v ∈ TBG) (k : E P own cc nL d (pc + 3) ls (.int v :: st) w Q) : E P own cc nL d pc ls (st) w Q := by
  intro p l e R s m args below meth c V H locs cells slots la Z C hP hS hl K
  exact lv_ldcw C.1 C.2.1 C.2.2.2.1 (C.2.2.2.2.1 _ hw) hd (k p l e R s m args below meth c V H locs cells slots la Z C hP hS hl K)

theorem E_ldc2 {ix : Nat} (v : Int64) (hd : decode cc pc = .ok (.ldc2_w ix, 3)) (hw : Cond.constantLong own ix v ∈ TBG) (k : E P own cc nL d (pc + 3) ls (.long v :: st) w Q) : E P own cc nL d pc ls (st) w Q := by
  intro p l e R s m args below meth c V H locs cells slots la Z C hP hS hl K
  exact lv_ldc2 C.1 C.2.1 C.2.2.2.1 (C.2.2.2.2.1 _ hw) hd (k p l e R s m args below meth c V H locs cells slots la Z C hP hS hl K)

theorem E_iload_n {i : Fin 4} {v : Int32} (hd : decode cc pc = .ok (.iload_n i, 1)) (hi : ls[(i : Nat)]? = some (some (.int v))) (k : E P own cc nL d (pc + 1) ls (.int v :: st) w Q) : E P own cc nL d pc ls (st) w Q := by
  intro p l e R s m args below meth c V H locs cells slots la Z C hP hS hl K
  exact lv_iload_n C.1 C.2.1 hd rfl (hasL_at hl hi) (k p l e R s m args below meth c V H locs cells slots la Z C hP hS hl K)

theorem E_iload {i : Nat} {v : Int32} (hd : decode cc pc = .ok (.iload i, 2)) (hi : ls[i]? = some (some (.int v))) (k : E P own cc nL d (pc + 2) ls (.int v :: st) w Q) : E P own cc nL d pc ls (st) w Q := by
  intro p l e R s m args below meth c V H locs cells slots la Z C hP hS hl K
  exact lv_iload C.1 C.2.1 hd (hasL_at hl hi) (k p l e R s m args below meth c V H locs cells slots la Z C hP hS hl K)

theorem E_lload_n {i : Fin 4} {v : Int64} (hd : decode cc pc = .ok (.lload_n i, 1)) (hi : ls[(i : Nat)]? = some (some (.long v))) (k : E P own cc nL d (pc + 1) ls (.long v :: st) w Q) : E P own cc nL d pc ls (st) w Q := by
  intro p l e R s m args below meth c V H locs cells slots la Z C hP hS hl K
  exact lv_lload_n C.1 C.2.1 hd rfl (hasL_at hl hi) (k p l e R s m args below meth c V H locs cells slots la Z C hP hS hl K)

theorem E_aload_n {i : Fin 4} {v : Nat} (hd : decode cc pc = .ok (.aload_n i, 1)) (hi : ls[(i : Nat)]? = some (some (.ref v))) (k : E P own cc nL d (pc + 1) ls (.ref v :: st) w Q) : E P own cc nL d pc ls (st) w Q := by
  intro p l e R s m args below meth c V H locs cells slots la Z C hP hS hl K
  exact lv_aload_n C.1 C.2.1 hd rfl (hasL_at hl hi) (k p l e R s m args below meth c V H locs cells slots la Z C hP hS hl K)

theorem E_aload {i : Nat} {v : Nat} (hd : decode cc pc = .ok (.aload i, 2)) (hi : ls[i]? = some (some (.ref v))) (k : E P own cc nL d (pc + 2) ls (.ref v :: st) w Q) : E P own cc nL d pc ls (st) w Q := by
  intro p l e R s m args below meth c V H locs cells slots la Z C hP hS hl K
  exact lv_aload C.1 C.2.1 hd (hasL_at hl hi) (k p l e R s m args below meth c V H locs cells slots la Z C hP hS hl K)

theorem E_aloadx_n {i : Fin 4} {v : Nat} (hd : decode cc pc = .ok (.aload_n i, 1)) (hi : ls[(i : Nat)]? = some (some (.retAddr (v + 1)))) (k : E P own cc nL d (pc + 1) ls (.retAddr (v + 1) :: st) w Q) : E P own cc nL d pc ls (st) w Q := by
  intro p l e R s m args below meth c V H locs cells slots la Z C hP hS hl K
  exact lv_aload_n C.1 C.2.1 hd rfl (hasL_at hl hi) (k p l e R s m args below meth c V H locs cells slots la Z C hP hS hl K)

theorem E_aloadx {i : Nat} {v : Nat} (hd : decode cc pc = .ok (.aload i, 2)) (hi : ls[i]? = some (some (.retAddr (v + 1)))) (k : E P own cc nL d (pc + 2) ls (.retAddr (v + 1) :: st) w Q) : E P own cc nL d pc ls (st) w Q := by
  intro p l e R s m args below meth c V H locs cells slots la Z C hP hS hl K
  exact lv_aload C.1 C.2.1 hd (hasL_at hl hi) (k p l e R s m args below meth c V H locs cells slots la Z C hP hS hl K)

theorem E_null (hd : decode cc pc = .ok (.aconst_null, 1)) (k : E P own cc nL d (pc + 1) ls (.null :: st) w Q) : E P own cc nL d pc ls (st) w Q := by
  intro p l e R s m args below meth c V H locs cells slots la Z C hP hS hl K
  exact lv_null C.1 C.2.1 hd (k p l e R s m args below meth c V H locs cells slots la Z C hP hS hl K)

theorem E_dup_i {x : Int32} (hd : decode cc pc = .ok (.dup, 1)) (k : E P own cc nL d (pc + 1) ls (.int x :: .int x :: st) w Q) : E P own cc nL d pc ls (.int x :: st) w Q := by
  intro p l e R s m args below meth c V H locs cells slots la Z C hP hS hl K
  exact lv_dup C.1 C.2.1 hd rfl (k p l e R s m args below meth c V H locs cells slots la Z C hP hS hl K)

theorem E_dup_r {x : Nat} (hd : decode cc pc = .ok (.dup, 1)) (k : E P own cc nL d (pc + 1) ls (.ref x :: .ref x :: st) w Q) : E P own cc nL d pc ls (.ref x :: st) w Q := by
  intro p l e R s m args below meth c V H locs cells slots la Z C hP hS hl K
  exact lv_dup C.1 C.2.1 hd rfl (k p l e R s m args below meth c V H locs cells slots la Z C hP hS hl K)

theorem E_dup2_ir {x : Int32} {a : Nat} (hd : decode cc pc = .ok (.dup2, 1)) (k : E P own cc nL d (pc + 1) ls (.int x :: .ref a :: .int x :: .ref a :: st) w Q) : E P own cc nL d pc ls (.int x :: .ref a :: st) w Q := by
  intro p l e R s m args below meth c V H locs cells slots la Z C hP hS hl K
  exact lv_dup2_11 C.1 C.2.1 hd rfl rfl (k p l e R s m args below meth c V H locs cells slots la Z C hP hS hl K)

theorem E_pop_i {x : Int32} (hd : decode cc pc = .ok (.pop, 1)) (k : E P own cc nL d (pc + 1) ls (st) w Q) : E P own cc nL d pc ls (.int x :: st) w Q := by
  intro p l e R s m args below meth c V H locs cells slots la Z C hP hS hl K
  exact lv_pop C.1 C.2.1 hd rfl (k p l e R s m args below meth c V H locs cells slots la Z C hP hS hl K)

theorem E_goto {off : Int} (tgt : Nat) (hd : decode cc pc = .ok (.goto off, 3)) (ht : (pc : Int) + off = (tgt : Int)) (k : E P own cc nL d tgt ls st w Q) : E P own cc nL d pc ls st w Q := by
  intro p l e R s m args below meth c V H locs cells slots la Z C hP hS hl K
  exact lv_goto C.1 C.2.1 hd ht (k p l e R s m args below meth c V H locs cells slots la Z C hP hS hl K)

theorem E_if_eq {x : Int32} {off : Int} (tgt : Nat) (hd : decode cc pc = .ok (.ifCond .eq off, 3)) (ht : (pc : Int) + off = (tgt : Int)) (kt : x = 0 → E P own cc nL d tgt ls st w Q) (kf : ¬ x = 0 → E P own cc nL d (pc + 3) ls st w Q) : E P own cc nL d pc ls (.int x :: st) w Q := by
  intro p l e R s m args below meth c V H locs cells slots la Z C hP hS hl K
  exact lv_if_eq C.1 C.2.1 hd ht (fun h => kt h p l e R s m args below meth c V H locs cells slots la Z C hP hS hl K) (fun h => kf h p l e R s m args below meth c V H locs cells slots la Z C hP hS hl K)

theorem E_if_lt {x : Int32} {off : Int} (tgt : Nat) (hd : decode cc pc = .ok (.ifCond .lt off, 3)) (ht : (pc : Int) + off = (tgt : Int)) (kt : x < 0 → E P own cc nL d tgt ls st w Q) (kf : ¬ x < 0 → E P own cc nL d (pc + 3) ls st w Q) : E P own cc nL d pc ls (.int x :: st) w Q := by
  intro p l e R s m args below meth c V H locs cells slots la Z C hP hS hl K
  exact lv_if_lt C.1 C.2.1 hd ht (fun h => kt h p l e R s m args below meth c V H locs cells slots la Z C hP hS hl K) (fun h => kf h p l e R s m args below meth c V H locs cells slots la Z C hP hS hl K)

theorem E_if_ge {x : Int32} {off : Int} (tgt : Nat) (hd : decode cc pc = .ok (.ifCond .ge off, 3)) (ht : (pc : Int) + off = (tgt : Int)) (kt : 0 ≤ x → E P own cc nL d tgt ls st w Q) (kf : ¬ 0 ≤ x → E P own cc nL d (pc + 3) ls st w Q) : E P own cc nL d pc ls (.int x :: st) w Q := by
  intro p l e R s m args below meth c V H locs cells slots la Z C hP hS hl K
  exact lv_if_ge C.1 C.2.1 hd ht (fun h => kt h p l e R s m args below meth c V H locs cells slots la Z C hP hS hl K) (fun h => kf h p l e R s m args below meth c V H locs cells slots la Z C hP hS hl K)

theorem E_if_gt {x : Int32} {off : Int} (tgt : Nat) (hd : decode cc pc = .ok (.ifCond .gt off, 3)) (ht : (pc : Int) + off = (tgt : Int)) (kt : 0 < x → E P own cc nL d tgt ls st w Q) (kf : ¬ 0 < x → E P own cc nL d (pc + 3) ls st w Q) : E P own cc nL d pc ls (.int x :: st) w Q := by
  intro p l e R s m args below meth c V H locs cells slots la Z C hP hS hl K
  exact lv_if_gt C.1 C.2.1 hd ht (fun h => kt h p l e R s m args below meth c V H locs cells slots la Z C hP hS hl K) (fun h => kf h p l e R s m args below meth c V H locs cells slots la Z C hP hS hl K)

theorem E_if_le {x : Int32} {off : Int} (tgt : Nat) (hd : decode cc pc = .ok (.ifCond .le off, 3)) (ht : (pc : Int) + off = (tgt : Int)) (kt : x ≤ 0 → E P own cc nL d tgt ls st w Q) (kf : ¬ x ≤ 0 → E P own cc nL d (pc + 3) ls st w Q) : E P own cc nL d pc ls (.int x :: st) w Q := by
  intro p l e R s m args below meth c V H locs cells slots la Z C hP hS hl K
  exact lv_if_le C.1 C.2.1 hd ht (fun h => kt h p l e R s m args below meth c V H locs cells slots la Z C hP hS hl K) (fun h => kf h p l e R s m args below meth c V H locs cells slots la Z C hP hS hl K)

theorem E_icmp_eq {x y : Int32} {off : Int} (tgt : Nat) (hd : decode cc pc = .ok (.if_icmp .eq off, 3)) (ht : (pc : Int) + off = (tgt : Int)) (kt : x = y → E P own cc nL d tgt ls st w Q) (kf : ¬ x = y → E P own cc nL d (pc + 3) ls st w Q) : E P own cc nL d pc ls (.int y :: .int x :: st) w Q := by
  intro p l e R s m args below meth c V H locs cells slots la Z C hP hS hl K
  exact lv_icmp_eq C.1 C.2.1 hd ht (fun h => kt h p l e R s m args below meth c V H locs cells slots la Z C hP hS hl K) (fun h => kf h p l e R s m args below meth c V H locs cells slots la Z C hP hS hl K)

theorem E_icmp_lt {x y : Int32} {off : Int} (tgt : Nat) (hd : decode cc pc = .ok (.if_icmp .lt off, 3)) (ht : (pc : Int) + off = (tgt : Int)) (kt : x < y → E P own cc nL d tgt ls st w Q) (kf : ¬ x < y → E P own cc nL d (pc + 3) ls st w Q) : E P own cc nL d pc ls (.int y :: .int x :: st) w Q := by
  intro p l e R s m args below meth c V H locs cells slots la Z C hP hS hl K
  exact lv_icmp_lt C.1 C.2.1 hd ht (fun h => kt h p l e R s m args below meth c V H locs cells slots la Z C hP hS hl K) (fun h => kf h p l e R s m args below meth c V H locs cells slots la Z C hP hS hl K)

theorem E_icmp_ge {x y : Int32} {off : Int} (tgt : Nat) (hd : decode cc pc = .ok (.if_icmp .ge off, 3)) (ht : (pc : Int) + off = (tgt : Int)) (kt : y ≤ x → E P own cc nL d tgt ls st w Q) (kf : ¬ y ≤ x → E P own cc nL d (pc + 3) ls st w Q) : E P own cc nL d pc ls (.int y :: .int x :: st) w Q := by
  intro p l e R s m args below meth c V H locs cells slots la Z C hP hS hl K
  exact lv_icmp_ge C.1 C.2.1 hd ht (fun h => kt h p l e R s m args below meth c V H locs cells slots la Z C hP hS hl K) (fun h => kf h p l e R s m args below meth c V H locs cells slots la Z C hP hS hl K)

theorem E_icmp_gt {x y : Int32} {off : Int} (tgt : Nat) (hd : decode cc pc = .ok (.if_icmp .gt off, 3)) (ht : (pc : Int) + off = (tgt : Int)) (kt : y < x → E P own cc nL d tgt ls st w Q) (kf : ¬ y < x → E P own cc nL d (pc + 3) ls st w Q) : E P own cc nL d pc ls (.int y :: .int x :: st) w Q := by
  intro p l e R s m args below meth c V H locs cells slots la Z C hP hS hl K
  exact lv_icmp_gt C.1 C.2.1 hd ht (fun h => kt h p l e R s m args below meth c V H locs cells slots la Z C hP hS hl K) (fun h => kf h p l e R s m args below meth c V H locs cells slots la Z C hP hS hl K)

theorem E_icmp_le {x y : Int32} {off : Int} (tgt : Nat) (hd : decode cc pc = .ok (.if_icmp .le off, 3)) (ht : (pc : Int) + off = (tgt : Int)) (kt : x ≤ y → E P own cc nL d tgt ls st w Q) (kf : ¬ x ≤ y → E P own cc nL d (pc + 3) ls st w Q) : E P own cc nL d pc ls (.int y :: .int x :: st) w Q := by
  intro p l e R s m args below meth c V H locs cells slots la Z C hP hS hl K
  exact lv_icmp_le C.1 C.2.1 hd ht (fun h => kt h p l e R s m args below meth c V H locs cells slots la Z C hP hS hl K) (fun h => kf h p l e R s m args below meth c V H locs cells slots la Z C hP hS hl K)

theorem E_if_ne {x : Int32} {off : Int} (tgt : Nat) (hd : decode cc pc = .ok (.ifCond .ne off, 3)) (ht : (pc : Int) + off = (tgt : Int)) (kf : x = 0 → E P own cc nL d (pc + 3) ls st w Q) (kt : ¬ x = 0 → E P own cc nL d tgt ls st w Q) : E P own cc nL d pc ls (.int x :: st) w Q := by
  intro p l e R s m args below meth c V H locs cells slots la Z C hP hS hl K
  exact lv_if_ne C.1 C.2.1 hd ht (fun h => kt h p l e R s m args below meth c V H locs cells slots la Z C hP hS hl K) (fun h => kf h p l e R s m args below meth c V H locs cells slots la Z C hP hS hl K)

theorem E_icmp_ne {x y : Int32} {off : Int} (tgt : Nat) (hd : decode cc pc = .ok (.if_icmp .ne off, 3)) (ht : (pc : Int) + off = (tgt : Int)) (kf : x = y → E P own cc nL d (pc + 3) ls st w Q) (kt : ¬ x = y → E P own cc nL d tgt ls st w Q) : E P own cc nL d pc ls (.int y :: .int x :: st) w Q := by
  intro p l e R s m args below meth c V H locs cells slots la Z C hP hS hl K
  exact lv_icmp_ne C.1 C.2.1 hd ht (fun h => kt h p l e R s m args below meth c V H locs cells slots la Z C hP hS hl K) (fun h => kf h p l e R s m args below meth c V H locs cells slots la Z C hP hS hl K)

theorem E_istore_n {i : Fin 4} {x : Int32} {ls' : List (Option Value)} (hd : decode cc pc = .ok (.istore_n i, 1)) (hn : Nat.ble ((i : Nat) + 1) nL = true) (hk : okst ls (i : Nat) = true) (hl' : ls.set (i : Nat) (some (.int x)) = ls') (k : E P own cc nL d (pc + 1) ls' st w Q) : E P own cc nL d pc ls (.int x :: st) w Q := by
  intro p l e R s m args below meth c V H locs cells slots la Z C hP hS hl K
  subst hl'
  exact lv_istore_n C.1 C.2.1 hd rfl (asc_of hl) (Nat.le_of_ble_eq_true hn) rfl (fun la' h' => k p l e R s m args below meth c V H locs cells slots la' Z C hP hS (asc_st (v := .int x) h' hk) K)

theorem E_istore {i : Nat} {x : Int32} {ls' : List (Option Value)} (hd : decode cc pc = .ok (.istore i, 2)) (hn : Nat.ble (i + 1) nL = true) (hk : okst ls i = true) (hl' : ls.set i (some (.int x)) = ls') (k : E P own cc nL d (pc + 2) ls' st w Q) : E P own cc nL d pc ls (.int x :: st) w Q := by
  intro p l e R s m args below meth c V H locs cells slots la Z C hP hS hl K
  subst hl'
  exact lv_istore C.1 C.2.1 hd (asc_of hl) (Nat.le_of_ble_eq_true hn) rfl (fun la' h' => k p l e R s m args below meth c V H locs cells slots la' Z C hP hS (asc_st (v := .int x) h' hk) K)

theorem E_iinc {i : Nat} {n : Int} {x : Int32} {ls' : List (Option Value)} (v : Int32) (hd : decode cc pc = .ok (.iinc i n, 3)) (hi : ls[i]? = some (some (.int x))) (hv : Int32.ofInt n = v) (hn : Nat.ble (i + 1) nL = true) (hk : okst ls i = true) (hl' : ls.set i (some (.int (x + v))) = ls') (k : E P own cc nL d (pc + 3) ls' st w Q) : E P own cc nL d pc ls st w Q := by
  intro p l e R s m args below meth c V H locs cells slots la Z C hP hS hl K
  subst hl'; subst hv
  obtain ⟨k9, hk9⟩ := List.getElem?_of_mem (asc_mem (V := V).mpr ⟨_, hi, rfl⟩ : (i, cv V (.int x)) ∈ asc V ls)
  exact lv_iinc C.1 C.2.1 hd (asc_of hl) hk9 rfl (Nat.le_of_ble_eq_true hn) rfl (fun la' h' => k p l e R s m args below meth c V H locs cells slots la' Z C hP hS (asc_st (v := .int (x + Int32.ofInt n)) h' hk) K)

theorem E_tableIn {dflt lo hi off : Int} {offs : Array Int} {len : Nat} {x : Int32} (tgt : Nat) (hd : decode cc pc = .ok (.tableswitch dflt lo hi offs, len)) (h1 : ¬ x.toInt < lo) (h2 : ¬ hi < x.toInt) (ho : offs[(x.toInt - lo).toNat]? = some off) (ht : (pc : Int) + off = (tgt : Int)) (k : E P own cc nL d tgt ls st w Q) : E P own cc nL d pc ls (.int x :: st) w Q := by
  intro p l e R s m args below meth c V H locs cells slots la Z C hP hS hl K
  exact lv_tableIn C.1 C.2.1 hd h1 h2 ho ht (k p l e R s m args below meth c V H locs cells slots la Z C hP hS hl K)
theorem E_tableOut {dflt lo hi : Int} {offs : Array Int} {len : Nat} {x : Int32} (tgt : Nat) (hd : decode cc pc = .ok (.tableswitch dflt lo hi offs, len)) (h : x.toInt < lo ∨ hi < x.toInt) (ht : (pc : Int) + dflt = (tgt : Int)) (k : E P own cc nL d tgt ls st w Q) : E P own cc nL d pc ls (.int x :: st) w Q := by
  intro p l e R s m args below meth c V H locs cells slots la Z C hP hS hl K
  exact lv_tableOut C.1 C.2.1 hd h ht (k p l e R s m args below meth c V H locs cells slots la Z C hP hS hl K)
theorem E_lookup {dflt off : Int} {ps : Array (Int × Int)} {len : Nat} {x : Int32} (tgt : Nat) (hd : decode cc pc = .ok (.lookupswitch dflt ps, len)) (hp : (ps.toList.zip (ps.toList.drop 1)).all (fun (a, next) => a.1 < next.1) = true) (ho : Op.lookupswitch.offset ps.toList dflt x.toInt = off) (ht : (pc : Int) + off = (tgt : Int)) (k : E P own cc nL d tgt ls st w Q) : E P own cc nL d pc ls (.int x :: st) w Q := by
  intro p l e R s m args below meth c V H locs cells slots la Z C hP hS hl K
  exact lv_lookup C.1 C.2.1 hd hp ho ht (k p l e R s m args below meth c V H locs cells slots la Z C hP hS hl K)
end ER
end
