-- ===== PART A: goes FIRST, ahead of the names: the tables' words, and 'selects' of the private methods out of them =====
/-- a private method of a class that the tables say can be made, by its rows of tables_1 -/
def lw_okq (q : MethodName × Nat) : Prop := (q.1.cls ≠ "java/lang/invoke/MethodHandle" ∧ q.1.cls ≠ "java/lang/invoke/VarHandle") ∧ Cond.instantiable q.1.cls q.2 ∈ tables_1 ∧ Cond.privateMethod q.1 ∈ tables_1 ∧ Cond.instanceMethod q.1 ∈ tables_1
theorem lw_p0 : lw_okq (⟨"PressDays$Text", "next", "()V"⟩, 8) := ⟨⟨by decide +kernel, by decide +kernel⟩, List.mem_of_getElem? (i := 172) (by decide +kernel), List.mem_of_getElem? (i := 455) (by decide +kernel), List.mem_of_getElem? (i := 456) (by decide +kernel)⟩
theorem lw_p1 : lw_okq (⟨"PressDays$Text", "sortAt", "(I)I"⟩, 8) := ⟨⟨by decide +kernel, by decide +kernel⟩, List.mem_of_getElem? (i := 172) (by decide +kernel), List.mem_of_getElem? (i := 459) (by decide +kernel), List.mem_of_getElem? (i := 460) (by decide +kernel)⟩
theorem lw_p2 : lw_okq (⟨"PressDays$Text", "lawNamed", "()I"⟩, 8) := ⟨⟨by decide +kernel, by decide +kernel⟩, List.mem_of_getElem? (i := 172) (by decide +kernel), List.mem_of_getElem? (i := 463) (by decide +kernel), List.mem_of_getElem? (i := 464) (by decide +kernel)⟩
theorem lw_p3 : lw_okq (⟨"PressDays$Text", "isNamed", "(Ljava/lang/String;)Z"⟩, 8) := ⟨⟨by decide +kernel, by decide +kernel⟩, List.mem_of_getElem? (i := 172) (by decide +kernel), List.mem_of_getElem? (i := 468) (by decide +kernel), List.mem_of_getElem? (i := 469) (by decide +kernel)⟩
theorem lw_p4 : lw_okq (⟨"PressDays$Text", "readLaw", "(I)Z"⟩, 8) := ⟨⟨by decide +kernel, by decide +kernel⟩, List.mem_of_getElem? (i := 172) (by decide +kernel), List.mem_of_getElem? (i := 522) (by decide +kernel), List.mem_of_getElem? (i := 523) (by decide +kernel)⟩
theorem lw_p5 : lw_okq (⟨"PressDays$Text", "passNumber", "(II)Z"⟩, 8) := ⟨⟨by decide +kernel, by decide +kernel⟩, List.mem_of_getElem? (i := 172) (by decide +kernel), List.mem_of_getElem? (i := 530) (by decide +kernel), List.mem_of_getElem? (i := 531) (by decide +kernel)⟩
theorem lw_p6 : lw_okq (⟨"PressDays$Text", "passStop", "()Z"⟩, 8) := ⟨⟨by decide +kernel, by decide +kernel⟩, List.mem_of_getElem? (i := 172) (by decide +kernel), List.mem_of_getElem? (i := 535) (by decide +kernel), List.mem_of_getElem? (i := 536) (by decide +kernel)⟩
theorem lw_p7 : lw_okq (⟨"PressDays$Text", "readJob", "()Z"⟩, 8) := ⟨⟨by decide +kernel, by decide +kernel⟩, List.mem_of_getElem? (i := 172) (by decide +kernel), List.mem_of_getElem? (i := 539) (by decide +kernel), List.mem_of_getElem? (i := 540) (by decide +kernel)⟩
theorem lw_p8 : lw_okq (⟨"PressDays$Text", "kindNamed", "()I"⟩, 8) := ⟨⟨by decide +kernel, by decide +kernel⟩, List.mem_of_getElem? (i := 172) (by decide +kernel), List.mem_of_getElem? (i := 543) (by decide +kernel), List.mem_of_getElem? (i := 544) (by decide +kernel)⟩
theorem lw_p9 : lw_okq (⟨"PressDays$Text", "passName", "(Ljava/lang/String;)Z"⟩, 8) := ⟨⟨by decide +kernel, by decide +kernel⟩, List.mem_of_getElem? (i := 172) (by decide +kernel), List.mem_of_getElem? (i := 554) (by decide +kernel), List.mem_of_getElem? (i := 555) (by decide +kernel)⟩
theorem lw_p10 : lw_okq (⟨"PressDays", "followPlan", "()V"⟩, 14) := ⟨⟨by decide +kernel, by decide +kernel⟩, List.mem_of_getElem? (i := 21) (by decide +kernel), List.mem_of_getElem? (i := 654) (by decide +kernel), List.mem_of_getElem? (i := 655) (by decide +kernel)⟩
theorem lw_p11 : lw_okq (⟨"PressDays$Orders", "leastLost", "(ILPressDays$Jobs;I)I"⟩, 6) := ⟨⟨by decide +kernel, by decide +kernel⟩, List.mem_of_getElem? (i := 244) (by decide +kernel), List.mem_of_getElem? (i := 700) (by decide +kernel), List.mem_of_getElem? (i := 701) (by decide +kernel)⟩
theorem lw_p12 : lw_okq (⟨"PressDays$Orders", "walk", "(LPressDays$Jobs;IIIII)V"⟩, 6) := ⟨⟨by decide +kernel, by decide +kernel⟩, List.mem_of_getElem? (i := 244) (by decide +kernel), List.mem_of_getElem? (i := 705) (by decide +kernel), List.mem_of_getElem? (i := 706) (by decide +kernel)⟩
theorem lw_p13 : lw_okq (⟨"PressDays$Orders", "lossOf", "(LPressDays$Jobs;II)I"⟩, 6) := ⟨⟨by decide +kernel, by decide +kernel⟩, List.mem_of_getElem? (i := 244) (by decide +kernel), List.mem_of_getElem? (i := 714) (by decide +kernel), List.mem_of_getElem? (i := 715) (by decide +kernel)⟩
theorem lw_p14 : lw_okq (⟨"PressDays$Chance", "begin", "(Z)V"⟩, 9) := ⟨⟨by decide +kernel, by decide +kernel⟩, List.mem_of_getElem? (i := 271) (by decide +kernel), List.mem_of_getElem? (i := 760) (by decide +kernel), List.mem_of_getElem? (i := 761) (by decide +kernel)⟩
theorem lw_p15 : lw_okq (⟨"PressDays$Chance", "spread", "(LPressDays$Jobs;III)I"⟩, 9) := ⟨⟨by decide +kernel, by decide +kernel⟩, List.mem_of_getElem? (i := 271) (by decide +kernel), List.mem_of_getElem? (i := 764) (by decide +kernel), List.mem_of_getElem? (i := 765) (by decide +kernel)⟩
def lw_privs_1 : List (MethodName × Nat) := [(⟨"PressDays$Text", "next", "()V"⟩, 8), (⟨"PressDays$Text", "sortAt", "(I)I"⟩, 8), (⟨"PressDays$Text", "lawNamed", "()I"⟩, 8), (⟨"PressDays$Text", "isNamed", "(Ljava/lang/String;)Z"⟩, 8), (⟨"PressDays$Text", "readLaw", "(I)Z"⟩, 8), (⟨"PressDays$Text", "passNumber", "(II)Z"⟩, 8), (⟨"PressDays$Text", "passStop", "()Z"⟩, 8), (⟨"PressDays$Text", "readJob", "()Z"⟩, 8), (⟨"PressDays$Text", "kindNamed", "()I"⟩, 8), (⟨"PressDays$Text", "passName", "(Ljava/lang/String;)Z"⟩, 8), (⟨"PressDays", "followPlan", "()V"⟩, 14), (⟨"PressDays$Orders", "leastLost", "(ILPressDays$Jobs;I)I"⟩, 6), (⟨"PressDays$Orders", "walk", "(LPressDays$Jobs;IIIII)V"⟩, 6), (⟨"PressDays$Orders", "lossOf", "(LPressDays$Jobs;II)I"⟩, 6), (⟨"PressDays$Chance", "begin", "(Z)V"⟩, 9), (⟨"PressDays$Chance", "spread", "(LPressDays$Jobs;III)I"⟩, 9)]
theorem lw_r1 : ∀ q ∈ lw_privs_1, lw_okq q := List.forall_mem_cons.mpr ⟨lw_p0, List.forall_mem_cons.mpr ⟨lw_p1, List.forall_mem_cons.mpr ⟨lw_p2, List.forall_mem_cons.mpr ⟨lw_p3, List.forall_mem_cons.mpr ⟨lw_p4, List.forall_mem_cons.mpr ⟨lw_p5, List.forall_mem_cons.mpr ⟨lw_p6, List.forall_mem_cons.mpr ⟨lw_p7, List.forall_mem_cons.mpr ⟨lw_p8, List.forall_mem_cons.mpr ⟨lw_p9, List.forall_mem_cons.mpr ⟨lw_p10, List.forall_mem_cons.mpr ⟨lw_p11, List.forall_mem_cons.mpr ⟨lw_p12, List.forall_mem_cons.mpr ⟨lw_p13, List.forall_mem_cons.mpr ⟨lw_p14, List.forall_mem_cons.mpr ⟨lw_p15, fun _ h => absurd h List.not_mem_nil⟩⟩⟩⟩⟩⟩⟩⟩⟩⟩⟩⟩⟩⟩⟩⟩
theorem lw_p16 : lw_okq (⟨"PressDays$Chance", "walk", "(LPressDays$Jobs;IIII)V"⟩, 9) := ⟨⟨by decide +kernel, by decide +kernel⟩, List.mem_of_getElem? (i := 271) (by decide +kernel), List.mem_of_getElem? (i := 782) (by decide +kernel), List.mem_of_getElem? (i := 783) (by decide +kernel)⟩
theorem lw_p17 : lw_okq (⟨"PressDays$Board", "workSlot", "(I)Z"⟩, 9) := ⟨⟨by decide +kernel, by decide +kernel⟩, List.mem_of_getElem? (i := 29) (by decide +kernel), List.mem_of_getElem? (i := 847) (by decide +kernel), List.mem_of_getElem? (i := 848) (by decide +kernel)⟩
theorem lw_p18 : lw_okq (⟨"PressDays$Thing", "prints", "(I)I"⟩, 6) := ⟨⟨by decide +kernel, by decide +kernel⟩, List.mem_of_getElem? (i := 366) (by decide +kernel), List.mem_of_getElem? (i := 962) (by decide +kernel), List.mem_of_getElem? (i := 963) (by decide +kernel)⟩
theorem lw_p19 : lw_okq (⟨"PressDays$Thing", "is", "(I)Z"⟩, 6) := ⟨⟨by decide +kernel, by decide +kernel⟩, List.mem_of_getElem? (i := 366) (by decide +kernel), List.mem_of_getElem? (i := 966) (by decide +kernel), List.mem_of_getElem? (i := 967) (by decide +kernel)⟩
theorem lw_p20 : lw_okq (⟨"PressDays$Thing", "runs", "(I)V"⟩, 6) := ⟨⟨by decide +kernel, by decide +kernel⟩, List.mem_of_getElem? (i := 366) (by decide +kernel), List.mem_of_getElem? (i := 971) (by decide +kernel), List.mem_of_getElem? (i := 972) (by decide +kernel)⟩
theorem lw_p21 : lw_okq (⟨"PressDays$Thing", "sets", "(I)I"⟩, 6) := ⟨⟨by decide +kernel, by decide +kernel⟩, List.mem_of_getElem? (i := 366) (by decide +kernel), List.mem_of_getElem? (i := 975) (by decide +kernel), List.mem_of_getElem? (i := 976) (by decide +kernel)⟩
theorem lw_p22 : lw_okq (⟨"PressDays$Thing", "shares", "(I)I"⟩, 6) := ⟨⟨by decide +kernel, by decide +kernel⟩, List.mem_of_getElem? (i := 366) (by decide +kernel), List.mem_of_getElem? (i := 979) (by decide +kernel), List.mem_of_getElem? (i := 980) (by decide +kernel)⟩
theorem lw_p23 : lw_okq (⟨"PressDays$Thing", "tells", "(I)I"⟩, 6) := ⟨⟨by decide +kernel, by decide +kernel⟩, List.mem_of_getElem? (i := 366) (by decide +kernel), List.mem_of_getElem? (i := 983) (by decide +kernel), List.mem_of_getElem? (i := 984) (by decide +kernel)⟩
theorem lw_p24 : lw_okq (⟨"PressDaysModel", "advance", "()V"⟩, 54) := ⟨⟨by decide +kernel, by decide +kernel⟩, List.mem_of_getElem? (i := 1012) (by decide +kernel), List.mem_of_getElem? (i := 1194) (by decide +kernel), List.mem_of_getElem? (i := 1195) (by decide +kernel)⟩
theorem lw_p25 : lw_okq (⟨"PressDaysModel", "byteAt", "(I)I"⟩, 54) := ⟨⟨by decide +kernel, by decide +kernel⟩, List.mem_of_getElem? (i := 1012) (by decide +kernel), List.mem_of_getElem? (i := 1198) (by decide +kernel), List.mem_of_getElem? (i := 1199) (by decide +kernel)⟩
theorem lw_p26 : lw_okq (⟨"PressDaysModel", "kindHere", "()I"⟩, 54) := ⟨⟨by decide +kernel, by decide +kernel⟩, List.mem_of_getElem? (i := 1012) (by decide +kernel), List.mem_of_getElem? (i := 1211) (by decide +kernel), List.mem_of_getElem? (i := 1212) (by decide +kernel)⟩
theorem lw_p27 : lw_okq (⟨"PressDaysModel", "isWord", "(J)Z"⟩, 54) := ⟨⟨by decide +kernel, by decide +kernel⟩, List.mem_of_getElem? (i := 1012) (by decide +kernel), List.mem_of_getElem? (i := 1216) (by decide +kernel), List.mem_of_getElem? (i := 1217) (by decide +kernel)⟩
theorem lw_p28 : lw_okq (⟨"PressDaysModel", "wantJob", "(I)V"⟩, 54) := ⟨⟨by decide +kernel, by decide +kernel⟩, List.mem_of_getElem? (i := 1012) (by decide +kernel), List.mem_of_getElem? (i := 1225) (by decide +kernel), List.mem_of_getElem? (i := 1226) (by decide +kernel)⟩
theorem lw_p29 : lw_okq (⟨"PressDaysModel", "wantNumber", "(II)I"⟩, 54) := ⟨⟨by decide +kernel, by decide +kernel⟩, List.mem_of_getElem? (i := 1012) (by decide +kernel), List.mem_of_getElem? (i := 1229) (by decide +kernel), List.mem_of_getElem? (i := 1230) (by decide +kernel)⟩
theorem lw_p30 : lw_okq (⟨"PressDaysModel", "wantWord", "(J)V"⟩, 54) := ⟨⟨by decide +kernel, by decide +kernel⟩, List.mem_of_getElem? (i := 1012) (by decide +kernel), List.mem_of_getElem? (i := 1235) (by decide +kernel), List.mem_of_getElem? (i := 1236) (by decide +kernel)⟩
theorem lw_p31 : lw_okq (⟨"PressDaysModel", "wantEnd", "()V"⟩, 54) := ⟨⟨by decide +kernel, by decide +kernel⟩, List.mem_of_getElem? (i := 1012) (by decide +kernel), List.mem_of_getElem? (i := 1240) (by decide +kernel), List.mem_of_getElem? (i := 1241) (by decide +kernel)⟩
def lw_privs_2 : List (MethodName × Nat) := [(⟨"PressDays$Chance", "walk", "(LPressDays$Jobs;IIII)V"⟩, 9), (⟨"PressDays$Board", "workSlot", "(I)Z"⟩, 9), (⟨"PressDays$Thing", "prints", "(I)I"⟩, 6), (⟨"PressDays$Thing", "is", "(I)Z"⟩, 6), (⟨"PressDays$Thing", "runs", "(I)V"⟩, 6), (⟨"PressDays$Thing", "sets", "(I)I"⟩, 6), (⟨"PressDays$Thing", "shares", "(I)I"⟩, 6), (⟨"PressDays$Thing", "tells", "(I)I"⟩, 6), (⟨"PressDaysModel", "advance", "()V"⟩, 54), (⟨"PressDaysModel", "byteAt", "(I)I"⟩, 54), (⟨"PressDaysModel", "kindHere", "()I"⟩, 54), (⟨"PressDaysModel", "isWord", "(J)Z"⟩, 54), (⟨"PressDaysModel", "wantJob", "(I)V"⟩, 54), (⟨"PressDaysModel", "wantNumber", "(II)I"⟩, 54), (⟨"PressDaysModel", "wantWord", "(J)V"⟩, 54), (⟨"PressDaysModel", "wantEnd", "()V"⟩, 54)]
theorem lw_r2 : ∀ q ∈ lw_privs_2, lw_okq q := List.forall_mem_cons.mpr ⟨lw_p16, List.forall_mem_cons.mpr ⟨lw_p17, List.forall_mem_cons.mpr ⟨lw_p18, List.forall_mem_cons.mpr ⟨lw_p19, List.forall_mem_cons.mpr ⟨lw_p20, List.forall_mem_cons.mpr ⟨lw_p21, List.forall_mem_cons.mpr ⟨lw_p22, List.forall_mem_cons.mpr ⟨lw_p23, List.forall_mem_cons.mpr ⟨lw_p24, List.forall_mem_cons.mpr ⟨lw_p25, List.forall_mem_cons.mpr ⟨lw_p26, List.forall_mem_cons.mpr ⟨lw_p27, List.forall_mem_cons.mpr ⟨lw_p28, List.forall_mem_cons.mpr ⟨lw_p29, List.forall_mem_cons.mpr ⟨lw_p30, List.forall_mem_cons.mpr ⟨lw_p31, fun _ h => absurd h List.not_mem_nil⟩⟩⟩⟩⟩⟩⟩⟩⟩⟩⟩⟩⟩⟩⟩⟩
theorem lw_p32 : lw_okq (⟨"PressDaysModel", "isMark", "(I)Z"⟩, 54) := ⟨⟨by decide +kernel, by decide +kernel⟩, List.mem_of_getElem? (i := 1012) (by decide +kernel), List.mem_of_getElem? (i := 1244) (by decide +kernel), List.mem_of_getElem? (i := 1245) (by decide +kernel)⟩
theorem lw_p33 : lw_okq (⟨"PressDaysModel", "lawHere", "()I"⟩, 54) := ⟨⟨by decide +kernel, by decide +kernel⟩, List.mem_of_getElem? (i := 1012) (by decide +kernel), List.mem_of_getElem? (i := 1248) (by decide +kernel), List.mem_of_getElem? (i := 1249) (by decide +kernel)⟩
theorem lw_p34 : lw_okq (⟨"PressDaysModel", "wantLaw", "(I)V"⟩, 54) := ⟨⟨by decide +kernel, by decide +kernel⟩, List.mem_of_getElem? (i := 1012) (by decide +kernel), List.mem_of_getElem? (i := 1255) (by decide +kernel), List.mem_of_getElem? (i := 1256) (by decide +kernel)⟩
theorem lw_p35 : lw_okq (⟨"PressDaysModel", "lay", "(IIIIII)V"⟩, 54) := ⟨⟨by decide +kernel, by decide +kernel⟩, List.mem_of_getElem? (i := 1012) (by decide +kernel), List.mem_of_getElem? (i := 1259) (by decide +kernel), List.mem_of_getElem? (i := 1260) (by decide +kernel)⟩
theorem lw_p36 : lw_okq (⟨"PressDaysModel", "isJob", "(I)Z"⟩, 54) := ⟨⟨by decide +kernel, by decide +kernel⟩, List.mem_of_getElem? (i := 1012) (by decide +kernel), List.mem_of_getElem? (i := 1283) (by decide +kernel), List.mem_of_getElem? (i := 1284) (by decide +kernel)⟩
theorem lw_p37 : lw_okq (⟨"PressDaysModel", "its", "(II)I"⟩, 54) := ⟨⟨by decide +kernel, by decide +kernel⟩, List.mem_of_getElem? (i := 1012) (by decide +kernel), List.mem_of_getElem? (i := 1287) (by decide +kernel), List.mem_of_getElem? (i := 1288) (by decide +kernel)⟩
theorem lw_p38 : lw_okq (⟨"PressDaysModel", "goesAway", "(I)V"⟩, 54) := ⟨⟨by decide +kernel, by decide +kernel⟩, List.mem_of_getElem? (i := 1012) (by decide +kernel), List.mem_of_getElem? (i := 1295) (by decide +kernel), List.mem_of_getElem? (i := 1296) (by decide +kernel)⟩
theorem lw_p39 : lw_okq (⟨"PressDaysModel", "slotsOf", "(I)I"⟩, 54) := ⟨⟨by decide +kernel, by decide +kernel⟩, List.mem_of_getElem? (i := 1012) (by decide +kernel), List.mem_of_getElem? (i := 1315) (by decide +kernel), List.mem_of_getElem? (i := 1316) (by decide +kernel)⟩
theorem lw_p40 : lw_okq (⟨"PressDaysModel", "byPlan", "()V"⟩, 54) := ⟨⟨by decide +kernel, by decide +kernel⟩, List.mem_of_getElem? (i := 1012) (by decide +kernel), List.mem_of_getElem? (i := 1335) (by decide +kernel), List.mem_of_getElem? (i := 1336) (by decide +kernel)⟩
theorem lw_p41 : lw_okq (⟨"PressDaysModel", "worksAll", "(III)V"⟩, 54) := ⟨⟨by decide +kernel, by decide +kernel⟩, List.mem_of_getElem? (i := 1012) (by decide +kernel), List.mem_of_getElem? (i := 1339) (by decide +kernel), List.mem_of_getElem? (i := 1340) (by decide +kernel)⟩
theorem lw_p42 : lw_okq (⟨"PressDaysModel", "worksMany", "(IIII)V"⟩, 54) := ⟨⟨by decide +kernel, by decide +kernel⟩, List.mem_of_getElem? (i := 1012) (by decide +kernel), List.mem_of_getElem? (i := 1343) (by decide +kernel), List.mem_of_getElem? (i := 1344) (by decide +kernel)⟩
theorem lw_p43 : lw_okq (⟨"PressDaysModel", "lends", "(II)V"⟩, 54) := ⟨⟨by decide +kernel, by decide +kernel⟩, List.mem_of_getElem? (i := 1012) (by decide +kernel), List.mem_of_getElem? (i := 1347) (by decide +kernel), List.mem_of_getElem? (i := 1348) (by decide +kernel)⟩
theorem lw_p44 : lw_okq (⟨"PressDaysModel", "works", "(I)Z"⟩, 54) := ⟨⟨by decide +kernel, by decide +kernel⟩, List.mem_of_getElem? (i := 1012) (by decide +kernel), List.mem_of_getElem? (i := 1351) (by decide +kernel), List.mem_of_getElem? (i := 1352) (by decide +kernel)⟩
theorem lw_p45 : lw_okq (⟨"PressDaysModel", "isLate", "(I)Z"⟩, 54) := ⟨⟨by decide +kernel, by decide +kernel⟩, List.mem_of_getElem? (i := 1012) (by decide +kernel), List.mem_of_getElem? (i := 1359) (by decide +kernel), List.mem_of_getElem? (i := 1360) (by decide +kernel)⟩
theorem lw_p46 : lw_okq (⟨"PressDaysModel", "worthAll", "(I)I"⟩, 54) := ⟨⟨by decide +kernel, by decide +kernel⟩, List.mem_of_getElem? (i := 1012) (by decide +kernel), List.mem_of_getElem? (i := 1367) (by decide +kernel), List.mem_of_getElem? (i := 1368) (by decide +kernel)⟩
theorem lw_p47 : lw_okq (⟨"PressDaysModel", "worthOf", "(I)I"⟩, 54) := ⟨⟨by decide +kernel, by decide +kernel⟩, List.mem_of_getElem? (i := 1012) (by decide +kernel), List.mem_of_getElem? (i := 1371) (by decide +kernel), List.mem_of_getElem? (i := 1372) (by decide +kernel)⟩
def lw_privs_3 : List (MethodName × Nat) := [(⟨"PressDaysModel", "isMark", "(I)Z"⟩, 54), (⟨"PressDaysModel", "lawHere", "()I"⟩, 54), (⟨"PressDaysModel", "wantLaw", "(I)V"⟩, 54), (⟨"PressDaysModel", "lay", "(IIIIII)V"⟩, 54), (⟨"PressDaysModel", "isJob", "(I)Z"⟩, 54), (⟨"PressDaysModel", "its", "(II)I"⟩, 54), (⟨"PressDaysModel", "goesAway", "(I)V"⟩, 54), (⟨"PressDaysModel", "slotsOf", "(I)I"⟩, 54), (⟨"PressDaysModel", "byPlan", "()V"⟩, 54), (⟨"PressDaysModel", "worksAll", "(III)V"⟩, 54), (⟨"PressDaysModel", "worksMany", "(IIII)V"⟩, 54), (⟨"PressDaysModel", "lends", "(II)V"⟩, 54), (⟨"PressDaysModel", "works", "(I)Z"⟩, 54), (⟨"PressDaysModel", "isLate", "(I)Z"⟩, 54), (⟨"PressDaysModel", "worthAll", "(I)I"⟩, 54), (⟨"PressDaysModel", "worthOf", "(I)I"⟩, 54)]
theorem lw_r3 : ∀ q ∈ lw_privs_3, lw_okq q := List.forall_mem_cons.mpr ⟨lw_p32, List.forall_mem_cons.mpr ⟨lw_p33, List.forall_mem_cons.mpr ⟨lw_p34, List.forall_mem_cons.mpr ⟨lw_p35, List.forall_mem_cons.mpr ⟨lw_p36, List.forall_mem_cons.mpr ⟨lw_p37, List.forall_mem_cons.mpr ⟨lw_p38, List.forall_mem_cons.mpr ⟨lw_p39, List.forall_mem_cons.mpr ⟨lw_p40, List.forall_mem_cons.mpr ⟨lw_p41, List.forall_mem_cons.mpr ⟨lw_p42, List.forall_mem_cons.mpr ⟨lw_p43, List.forall_mem_cons.mpr ⟨lw_p44, List.forall_mem_cons.mpr ⟨lw_p45, List.forall_mem_cons.mpr ⟨lw_p46, List.forall_mem_cons.mpr ⟨lw_p47, fun _ h => absurd h List.not_mem_nil⟩⟩⟩⟩⟩⟩⟩⟩⟩⟩⟩⟩⟩⟩⟩⟩
theorem lw_p48 : lw_okq (⟨"PressDaysModel", "mostOfAll", "(II)I"⟩, 54) := ⟨⟨by decide +kernel, by decide +kernel⟩, List.mem_of_getElem? (i := 1012) (by decide +kernel), List.mem_of_getElem? (i := 1380) (by decide +kernel), List.mem_of_getElem? (i := 1381) (by decide +kernel)⟩
theorem lw_p49 : lw_okq (⟨"PressDaysModel", "firstOrder", "(II)I"⟩, 54) := ⟨⟨by decide +kernel, by decide +kernel⟩, List.mem_of_getElem? (i := 1012) (by decide +kernel), List.mem_of_getElem? (i := 1384) (by decide +kernel), List.mem_of_getElem? (i := 1385) (by decide +kernel)⟩
theorem lw_p50 : lw_okq (⟨"PressDaysModel", "keepsOrder", "(I)V"⟩, 54) := ⟨⟨by decide +kernel, by decide +kernel⟩, List.mem_of_getElem? (i := 1012) (by decide +kernel), List.mem_of_getElem? (i := 1388) (by decide +kernel), List.mem_of_getElem? (i := 1389) (by decide +kernel)⟩
theorem lw_p51 : lw_okq (⟨"PressDaysModel", "nextOrder", "(I)Z"⟩, 54) := ⟨⟨by decide +kernel, by decide +kernel⟩, List.mem_of_getElem? (i := 1012) (by decide +kernel), List.mem_of_getElem? (i := 1392) (by decide +kernel), List.mem_of_getElem? (i := 1393) (by decide +kernel)⟩
theorem lw_p52 : lw_okq (⟨"PressDaysModel", "swaps", "(II)V"⟩, 54) := ⟨⟨by decide +kernel, by decide +kernel⟩, List.mem_of_getElem? (i := 1012) (by decide +kernel), List.mem_of_getElem? (i := 1396) (by decide +kernel), List.mem_of_getElem? (i := 1397) (by decide +kernel)⟩
theorem lw_p53 : lw_okq (⟨"PressDaysModel", "digitsOf", "(I)I"⟩, 54) := ⟨⟨by decide +kernel, by decide +kernel⟩, List.mem_of_getElem? (i := 1012) (by decide +kernel), List.mem_of_getElem? (i := 1400) (by decide +kernel), List.mem_of_getElem? (i := 1401) (by decide +kernel)⟩
theorem lw_p54 : lw_okq (⟨"PressDaysModel", "lateMany", "(I)I"⟩, 54) := ⟨⟨by decide +kernel, by decide +kernel⟩, List.mem_of_getElem? (i := 1012) (by decide +kernel), List.mem_of_getElem? (i := 1408) (by decide +kernel), List.mem_of_getElem? (i := 1409) (by decide +kernel)⟩
theorem lw_p55 : lw_okq (⟨"PressDaysModel", "orderOfPlan", "()V"⟩, 54) := ⟨⟨by decide +kernel, by decide +kernel⟩, List.mem_of_getElem? (i := 1012) (by decide +kernel), List.mem_of_getElem? (i := 1432) (by decide +kernel), List.mem_of_getElem? (i := 1433) (by decide +kernel)⟩
theorem lw_p56 : lw_okq (⟨"PressDaysModel", "sureOf", "()I"⟩, 54) := ⟨⟨by decide +kernel, by decide +kernel⟩, List.mem_of_getElem? (i := 1012) (by decide +kernel), List.mem_of_getElem? (i := 1436) (by decide +kernel), List.mem_of_getElem? (i := 1437) (by decide +kernel)⟩
theorem lw_p57 : lw_okq (⟨"PressDaysModel", "oftenOf", "(I)I"⟩, 54) := ⟨⟨by decide +kernel, by decide +kernel⟩, List.mem_of_getElem? (i := 1012) (by decide +kernel), List.mem_of_getElem? (i := 1440) (by decide +kernel), List.mem_of_getElem? (i := 1441) (by decide +kernel)⟩
theorem lw_p58 : lw_okq (⟨"PressDaysModel", "lowest", "(II)V"⟩, 54) := ⟨⟨by decide +kernel, by decide +kernel⟩, List.mem_of_getElem? (i := 1012) (by decide +kernel), List.mem_of_getElem? (i := 1444) (by decide +kernel), List.mem_of_getElem? (i := 1445) (by decide +kernel)⟩
theorem lw_p59 : lw_okq (⟨"PressDaysModel", "oddsOfTypes", "()I"⟩, 54) := ⟨⟨by decide +kernel, by decide +kernel⟩, List.mem_of_getElem? (i := 1012) (by decide +kernel), List.mem_of_getElem? (i := 1460) (by decide +kernel), List.mem_of_getElem? (i := 1461) (by decide +kernel)⟩
theorem lw_p60 : lw_okq (⟨"PressDaysModel", "typeIts", "(II)I"⟩, 54) := ⟨⟨by decide +kernel, by decide +kernel⟩, List.mem_of_getElem? (i := 1012) (by decide +kernel), List.mem_of_getElem? (i := 1464) (by decide +kernel), List.mem_of_getElem? (i := 1465) (by decide +kernel)⟩
theorem lw_p61 : lw_okq (⟨"PressDaysModel", "isTaken", "(I)Z"⟩, 54) := ⟨⟨by decide +kernel, by decide +kernel⟩, List.mem_of_getElem? (i := 1012) (by decide +kernel), List.mem_of_getElem? (i := 1476) (by decide +kernel), List.mem_of_getElem? (i := 1477) (by decide +kernel)⟩
theorem lw_p62 : lw_okq (⟨"PressDaysModel", "worthWith", "(I)I"⟩, 54) := ⟨⟨by decide +kernel, by decide +kernel⟩, List.mem_of_getElem? (i := 1012) (by decide +kernel), List.mem_of_getElem? (i := 1480) (by decide +kernel), List.mem_of_getElem? (i := 1481) (by decide +kernel)⟩
theorem lw_p63 : lw_okq (⟨"PressDaysModel", "takenMany", "(I)I"⟩, 54) := ⟨⟨by decide +kernel, by decide +kernel⟩, List.mem_of_getElem? (i := 1012) (by decide +kernel), List.mem_of_getElem? (i := 1484) (by decide +kernel), List.mem_of_getElem? (i := 1485) (by decide +kernel)⟩
def lw_privs_4 : List (MethodName × Nat) := [(⟨"PressDaysModel", "mostOfAll", "(II)I"⟩, 54), (⟨"PressDaysModel", "firstOrder", "(II)I"⟩, 54), (⟨"PressDaysModel", "keepsOrder", "(I)V"⟩, 54), (⟨"PressDaysModel", "nextOrder", "(I)Z"⟩, 54), (⟨"PressDaysModel", "swaps", "(II)V"⟩, 54), (⟨"PressDaysModel", "digitsOf", "(I)I"⟩, 54), (⟨"PressDaysModel", "lateMany", "(I)I"⟩, 54), (⟨"PressDaysModel", "orderOfPlan", "()V"⟩, 54), (⟨"PressDaysModel", "sureOf", "()I"⟩, 54), (⟨"PressDaysModel", "oftenOf", "(I)I"⟩, 54), (⟨"PressDaysModel", "lowest", "(II)V"⟩, 54), (⟨"PressDaysModel", "oddsOfTypes", "()I"⟩, 54), (⟨"PressDaysModel", "typeIts", "(II)I"⟩, 54), (⟨"PressDaysModel", "isTaken", "(I)Z"⟩, 54), (⟨"PressDaysModel", "worthWith", "(I)I"⟩, 54), (⟨"PressDaysModel", "takenMany", "(I)I"⟩, 54)]
theorem lw_r4 : ∀ q ∈ lw_privs_4, lw_okq q := List.forall_mem_cons.mpr ⟨lw_p48, List.forall_mem_cons.mpr ⟨lw_p49, List.forall_mem_cons.mpr ⟨lw_p50, List.forall_mem_cons.mpr ⟨lw_p51, List.forall_mem_cons.mpr ⟨lw_p52, List.forall_mem_cons.mpr ⟨lw_p53, List.forall_mem_cons.mpr ⟨lw_p54, List.forall_mem_cons.mpr ⟨lw_p55, List.forall_mem_cons.mpr ⟨lw_p56, List.forall_mem_cons.mpr ⟨lw_p57, List.forall_mem_cons.mpr ⟨lw_p58, List.forall_mem_cons.mpr ⟨lw_p59, List.forall_mem_cons.mpr ⟨lw_p60, List.forall_mem_cons.mpr ⟨lw_p61, List.forall_mem_cons.mpr ⟨lw_p62, List.forall_mem_cons.mpr ⟨lw_p63, fun _ h => absurd h List.not_mem_nil⟩⟩⟩⟩⟩⟩⟩⟩⟩⟩⟩⟩⟩⟩⟩⟩
theorem lw_p64 : lw_okq (⟨"PressDaysModel", "isRow", "(II)Z"⟩, 54) := ⟨⟨by decide +kernel, by decide +kernel⟩, List.mem_of_getElem? (i := 1012) (by decide +kernel), List.mem_of_getElem? (i := 1513) (by decide +kernel), List.mem_of_getElem? (i := 1514) (by decide +kernel)⟩
theorem lw_p65 : lw_okq (⟨"PressDaysModel", "lacksSort", "(II)I"⟩, 54) := ⟨⟨by decide +kernel, by decide +kernel⟩, List.mem_of_getElem? (i := 1012) (by decide +kernel), List.mem_of_getElem? (i := 1540) (by decide +kernel), List.mem_of_getElem? (i := 1541) (by decide +kernel)⟩
theorem lw_p66 : lw_okq (⟨"PressDaysModel", "isHeld", "(II)Z"⟩, 54) := ⟨⟨by decide +kernel, by decide +kernel⟩, List.mem_of_getElem? (i := 1012) (by decide +kernel), List.mem_of_getElem? (i := 1548) (by decide +kernel), List.mem_of_getElem? (i := 1549) (by decide +kernel)⟩
theorem lw_p67 : lw_okq (⟨"PressDaysModel", "kindOn", "(I)I"⟩, 54) := ⟨⟨by decide +kernel, by decide +kernel⟩, List.mem_of_getElem? (i := 1012) (by decide +kernel), List.mem_of_getElem? (i := 1556) (by decide +kernel), List.mem_of_getElem? (i := 1557) (by decide +kernel)⟩
theorem lw_p68 : lw_okq (⟨"PressDaysModel", "printsIt", "(I)I"⟩, 54) := ⟨⟨by decide +kernel, by decide +kernel⟩, List.mem_of_getElem? (i := 1012) (by decide +kernel), List.mem_of_getElem? (i := 1567) (by decide +kernel), List.mem_of_getElem? (i := 1568) (by decide +kernel)⟩
theorem lw_p69 : lw_okq (⟨"PressDaysModel", "posterPrints", "(I)I"⟩, 54) := ⟨⟨by decide +kernel, by decide +kernel⟩, List.mem_of_getElem? (i := 1012) (by decide +kernel), List.mem_of_getElem? (i := 1571) (by decide +kernel), List.mem_of_getElem? (i := 1572) (by decide +kernel)⟩
theorem lw_p70 : lw_okq (⟨"PressDaysModel", "ran", "(I)V"⟩, 54) := ⟨⟨by decide +kernel, by decide +kernel⟩, List.mem_of_getElem? (i := 1012) (by decide +kernel), List.mem_of_getElem? (i := 1575) (by decide +kernel), List.mem_of_getElem? (i := 1576) (by decide +kernel)⟩
theorem lw_p71 : lw_okq (⟨"PressDaysModel", "plainPrints", "(I)I"⟩, 54) := ⟨⟨by decide +kernel, by decide +kernel⟩, List.mem_of_getElem? (i := 1012) (by decide +kernel), List.mem_of_getElem? (i := 1579) (by decide +kernel), List.mem_of_getElem? (i := 1580) (by decide +kernel)⟩
theorem lw_p72 : lw_okq (⟨"PressDaysModel", "setsIt", "(I)I"⟩, 54) := ⟨⟨by decide +kernel, by decide +kernel⟩, List.mem_of_getElem? (i := 1012) (by decide +kernel), List.mem_of_getElem? (i := 1583) (by decide +kernel), List.mem_of_getElem? (i := 1584) (by decide +kernel)⟩
theorem lw_p73 : lw_okq (⟨"PressDaysModel", "weddingSets", "(I)I"⟩, 54) := ⟨⟨by decide +kernel, by decide +kernel⟩, List.mem_of_getElem? (i := 1012) (by decide +kernel), List.mem_of_getElem? (i := 1587) (by decide +kernel), List.mem_of_getElem? (i := 1588) (by decide +kernel)⟩
theorem lw_p74 : lw_okq (⟨"PressDaysModel", "plainSets", "(I)I"⟩, 54) := ⟨⟨by decide +kernel, by decide +kernel⟩, List.mem_of_getElem? (i := 1012) (by decide +kernel), List.mem_of_getElem? (i := 1591) (by decide +kernel), List.mem_of_getElem? (i := 1592) (by decide +kernel)⟩
theorem lw_p75 : lw_okq (⟨"PressDaysModel", "sharesIt", "(I)I"⟩, 54) := ⟨⟨by decide +kernel, by decide +kernel⟩, List.mem_of_getElem? (i := 1012) (by decide +kernel), List.mem_of_getElem? (i := 1595) (by decide +kernel), List.mem_of_getElem? (i := 1596) (by decide +kernel)⟩
theorem lw_p76 : lw_okq (⟨"PressDaysModel", "plainShares", "(I)I"⟩, 54) := ⟨⟨by decide +kernel, by decide +kernel⟩, List.mem_of_getElem? (i := 1012) (by decide +kernel), List.mem_of_getElem? (i := 1599) (by decide +kernel), List.mem_of_getElem? (i := 1600) (by decide +kernel)⟩
theorem lw_p77 : lw_okq (⟨"PressDaysModel", "tellsIt", "(I)I"⟩, 54) := ⟨⟨by decide +kernel, by decide +kernel⟩, List.mem_of_getElem? (i := 1012) (by decide +kernel), List.mem_of_getElem? (i := 1603) (by decide +kernel), List.mem_of_getElem? (i := 1604) (by decide +kernel)⟩
theorem lw_p78 : lw_okq (⟨"PressDaysModel", "plainTells", "(I)I"⟩, 54) := ⟨⟨by decide +kernel, by decide +kernel⟩, List.mem_of_getElem? (i := 1012) (by decide +kernel), List.mem_of_getElem? (i := 1607) (by decide +kernel), List.mem_of_getElem? (i := 1608) (by decide +kernel)⟩
theorem lw_p79 : lw_okq (⟨"PressDaysModel", "moveAll", "(Z)V"⟩, 54) := ⟨⟨by decide +kernel, by decide +kernel⟩, List.mem_of_getElem? (i := 1012) (by decide +kernel), List.mem_of_getElem? (i := 1623) (by decide +kernel), List.mem_of_getElem? (i := 1624) (by decide +kernel)⟩
def lw_privs_5 : List (MethodName × Nat) := [(⟨"PressDaysModel", "isRow", "(II)Z"⟩, 54), (⟨"PressDaysModel", "lacksSort", "(II)I"⟩, 54), (⟨"PressDaysModel", "isHeld", "(II)Z"⟩, 54), (⟨"PressDaysModel", "kindOn", "(I)I"⟩, 54), (⟨"PressDaysModel", "printsIt", "(I)I"⟩, 54), (⟨"PressDaysModel", "posterPrints", "(I)I"⟩, 54), (⟨"PressDaysModel", "ran", "(I)V"⟩, 54), (⟨"PressDaysModel", "plainPrints", "(I)I"⟩, 54), (⟨"PressDaysModel", "setsIt", "(I)I"⟩, 54), (⟨"PressDaysModel", "weddingSets", "(I)I"⟩, 54), (⟨"PressDaysModel", "plainSets", "(I)I"⟩, 54), (⟨"PressDaysModel", "sharesIt", "(I)I"⟩, 54), (⟨"PressDaysModel", "plainShares", "(I)I"⟩, 54), (⟨"PressDaysModel", "tellsIt", "(I)I"⟩, 54), (⟨"PressDaysModel", "plainTells", "(I)I"⟩, 54), (⟨"PressDaysModel", "moveAll", "(Z)V"⟩, 54)]
theorem lw_r5 : ∀ q ∈ lw_privs_5, lw_okq q := List.forall_mem_cons.mpr ⟨lw_p64, List.forall_mem_cons.mpr ⟨lw_p65, List.forall_mem_cons.mpr ⟨lw_p66, List.forall_mem_cons.mpr ⟨lw_p67, List.forall_mem_cons.mpr ⟨lw_p68, List.forall_mem_cons.mpr ⟨lw_p69, List.forall_mem_cons.mpr ⟨lw_p70, List.forall_mem_cons.mpr ⟨lw_p71, List.forall_mem_cons.mpr ⟨lw_p72, List.forall_mem_cons.mpr ⟨lw_p73, List.forall_mem_cons.mpr ⟨lw_p74, List.forall_mem_cons.mpr ⟨lw_p75, List.forall_mem_cons.mpr ⟨lw_p76, List.forall_mem_cons.mpr ⟨lw_p77, List.forall_mem_cons.mpr ⟨lw_p78, List.forall_mem_cons.mpr ⟨lw_p79, fun _ h => absurd h List.not_mem_nil⟩⟩⟩⟩⟩⟩⟩⟩⟩⟩⟩⟩⟩⟩⟩⟩
theorem lw_p80 : lw_okq (⟨"PressDaysModel", "move", "([IIZ)V"⟩, 54) := ⟨⟨by decide +kernel, by decide +kernel⟩, List.mem_of_getElem? (i := 1012) (by decide +kernel), List.mem_of_getElem? (i := 1627) (by decide +kernel), List.mem_of_getElem? (i := 1628) (by decide +kernel)⟩
def lw_privs_6 : List (MethodName × Nat) := [(⟨"PressDaysModel", "move", "([IIZ)V"⟩, 54)]
theorem lw_r6 : ∀ q ∈ lw_privs_6, lw_okq q := List.forall_mem_cons.mpr ⟨lw_p80, fun _ h => absurd h List.not_mem_nil⟩
def lw_privs : List (MethodName × Nat) := lw_privs_1 ++ (lw_privs_2 ++ (lw_privs_3 ++ (lw_privs_4 ++ (lw_privs_5 ++ (lw_privs_6)))))
def lw_tbl : List Cond := k2_sels lw_privs ++ tables_1
theorem lw_privs_ok : ∀ q ∈ lw_privs, lw_okq q := by
  show ∀ q ∈ lw_privs_1 ++ (lw_privs_2 ++ (lw_privs_3 ++ (lw_privs_4 ++ (lw_privs_5 ++ (lw_privs_6))))), lw_okq q
  exact List.forall_mem_append.mpr ⟨lw_r1, List.forall_mem_append.mpr ⟨lw_r2, List.forall_mem_append.mpr ⟨lw_r3, List.forall_mem_append.mpr ⟨lw_r4, List.forall_mem_append.mpr ⟨lw_r5, lw_r6⟩⟩⟩⟩⟩

def RX0 : String := "PressDays$Ahead"
def TX0 : u_T := fun k => match k with
  | _ => ("PressDays$Ahead", "orders", "LPressDays$Orders;", true)
def tyX0 : Nat → FieldType := fun k => match k with
  | _ => .object "PressDays$Orders"
abbrev wsX00 : List Cond := u_ws RX0 TX0 1
theorem nmX0 : ∀ a, a < 1 → ∀ b, b < 1 → a ≠ b → (TX0 a).2.1 ≠ (TX0 b).2.1 := by decide +kernel
theorem tyX0_ok : ∀ k, k < 1 → parseFieldDescriptor (TX0 k).2.2.1 = some (tyX0 k) := by decide +kernel
abbrev cX0_init : ByteArray := prog_2_method_1_code
def yX0_init : MethodName := ⟨RX0, "<init>", "(LPressDays$Orders;)V"⟩
abbrev cX0_mostOf : ByteArray := prog_2_method_2_code
def yX0_mostOf : MethodName := ⟨RX0, "mostOf", "(LPressDays$Types;LPressDays$Jobs;II)I"⟩
def RX1 : String := "PressDays$Board"
def TX1 : u_T := fun k => match k with
  | 0 => ("PressDays$Board", "jobs", "LPressDays$Jobs;", true)
  | 1 => ("PressDays$Board", "law", "[I", true)
  | 2 => ("PressDays$Board", "lost", "[I", true)
  | 3 => ("PressDays$Board", "nightly", "[I", true)
  | 4 => ("PressDays$Board", "order", "[I", true)
  | 5 => ("PressDays$Board", "day", "I", false)
  | 6 => ("PressDays$Board", "colour", "I", false)
  | 7 => ("PressDays$Board", "left", "I", false)
  | _ => ("PressDays$Board", "till", "I", false)
def tyX1 : Nat → FieldType := fun k => match k with
  | 0 => .object "PressDays$Jobs"
  | 1 => .array .int
  | 2 => .array .int
  | 3 => .array .int
  | 4 => .array .int
  | 5 => .int
  | 6 => .int
  | 7 => .int
  | _ => .int
abbrev wsX10 : List Cond := u_ws RX1 TX1 9
theorem nmX1 : ∀ a, a < 9 → ∀ b, b < 9 → a ≠ b → (TX1 a).2.1 ≠ (TX1 b).2.1 := by decide +kernel
theorem tyX1_ok : ∀ k, k < 9 → parseFieldDescriptor (TX1 k).2.2.1 = some (tyX1 k) := by decide +kernel
abbrev cX1_init : ByteArray := prog_3_method_1_code
def yX1_init : MethodName := ⟨RX1, "<init>", "()V"⟩
abbrev cX1_slotsOn : ByteArray := prog_3_method_2_code
def yX1_slotsOn : MethodName := ⟨RX1, "slotsOn", "(I)I"⟩
abbrev cX1_begin : ByteArray := prog_3_method_3_code
def yX1_begin : MethodName := ⟨RX1, "begin", "(LPressDays$Jobs;[I)V"⟩
abbrev cX1_come : ByteArray := prog_3_method_4_code
def yX1_come : MethodName := ⟨RX1, "come", "(IIIII)I"⟩
abbrev cX1_leave : ByteArray := prog_3_method_5_code
def yX1_leave : MethodName := ⟨RX1, "leave", "(I)V"⟩
abbrev cX1_arrange : ByteArray := prog_3_method_6_code
def yX1_arrange : MethodName := ⟨RX1, "arrange", "(I)Z"⟩
abbrev cX1_workDay : ByteArray := prog_3_method_7_code
def yX1_workDay : MethodName := ⟨RX1, "workDay", "()I"⟩
abbrev cX1_workSlot : ByteArray := prog_3_method_8_code
def yX1_workSlot : MethodName := ⟨RX1, "workSlot", "(I)Z"⟩
abbrev cX1_copy : ByteArray := prog_3_method_9_code
def yX1_copy : MethodName := ⟨RX1, "copy", "(LPressDays$Board;)V"⟩
def RX2 : String := "PressDays$Chance"
def TX2 : u_T := fun k => match k with
  | 0 => ("PressDays$Chance", "course", "LPressDays$Course;", true)
  | 1 => ("PressDays$Chance", "used", "[I", true)
  | 2 => ("PressDays$Chance", "weight", "[I", true)
  | 3 => ("PressDays$Chance", "size", "[I", true)
  | 4 => ("PressDays$Chance", "order", "[I", true)
  | 5 => ("PressDays$Chance", "chosen", "[I", true)
  | 6 => ("PressDays$Chance", "lateToo", "Z", false)
  | 7 => ("PressDays$Chance", "earned", "I", false)
  | _ => ("PressDays$Chance", "most", "I", false)
def tyX2 : Nat → FieldType := fun k => match k with
  | 0 => .object "PressDays$Course"
  | 1 => .array .int
  | 2 => .array .int
  | 3 => .array .int
  | 4 => .array .int
  | 5 => .array .int
  | 6 => .boolean
  | 7 => .int
  | _ => .int
abbrev wsX20 : List Cond := u_ws RX2 TX2 9
theorem nmX2 : ∀ a, a < 9 → ∀ b, b < 9 → a ≠ b → (TX2 a).2.1 ≠ (TX2 b).2.1 := by decide +kernel
theorem tyX2_ok : ∀ k, k < 9 → parseFieldDescriptor (TX2 k).2.2.1 = some (tyX2 k) := by decide +kernel
abbrev cX2_init : ByteArray := prog_4_method_1_code
def yX2_init : MethodName := ⟨RX2, "<init>", "(LPressDays$Course;)V"⟩
abbrev cX2_sureOf : ByteArray := prog_4_method_2_code
def yX2_sureOf : MethodName := ⟨RX2, "sureOf", "(LPressDays$Jobs;[I)I"⟩
abbrev cX2_meanOf : ByteArray := prog_4_method_3_code
def yX2_meanOf : MethodName := ⟨RX2, "meanOf", "(LPressDays$Jobs;[I)I"⟩
abbrev cX2_surest : ByteArray := prog_4_method_4_code
def yX2_surest : MethodName := ⟨RX2, "surest", "(LPressDays$Jobs;)I"⟩
abbrev cX2_begin : ByteArray := prog_4_method_5_code
def yX2_begin : MethodName := ⟨RX2, "begin", "(Z)V"⟩
abbrev cX2_walk : ByteArray := prog_4_method_6_code
def yX2_walk : MethodName := ⟨RX2, "walk", "(LPressDays$Jobs;IIII)V"⟩
abbrev cX2_spread : ByteArray := prog_4_method_7_code
def yX2_spread : MethodName := ⟨RX2, "spread", "(LPressDays$Jobs;III)I"⟩
def RX3 : String := "PressDays$Course"
def TX3 : u_T := fun k => match k with
  | 0 => ("PressDays$Course", "dayOf", "[I", true)
  | 1 => ("PressDays$Course", "endOf", "[I", true)
  | 2 => ("PressDays$Course", "fine", "I", false)
  | 3 => ("PressDays$Course", "odds", "I", false)
  | 4 => ("PressDays$Course", "setting", "I", false)
  | 5 => ("PressDays$Course", "colour", "I", false)
  | _ => ("PressDays$Course", "left", "I", false)
def tyX3 : Nat → FieldType := fun k => match k with
  | 0 => .array .int
  | 1 => .array .int
  | 2 => .int
  | 3 => .int
  | 4 => .int
  | 5 => .int
  | _ => .int
abbrev wsX30 : List Cond := u_ws RX3 TX3 7
theorem nmX3 : ∀ a, a < 7 → ∀ b, b < 7 → a ≠ b → (TX3 a).2.1 ≠ (TX3 b).2.1 := by decide +kernel
theorem tyX3_ok : ∀ k, k < 7 → parseFieldDescriptor (TX3 k).2.2.1 = some (tyX3 k) := by decide +kernel
abbrev cX3_init : ByteArray := prog_5_method_1_code
def yX3_init : MethodName := ⟨RX3, "<init>", "()V"⟩
abbrev cX3_measure : ByteArray := prog_5_method_2_code
def yX3_measure : MethodName := ⟨RX3, "measure", "(LPressDays$Board;I)V"⟩
abbrev cX3_usedBehind : ByteArray := prog_5_method_3_code
def yX3_usedBehind : MethodName := ⟨RX3, "usedBehind", "(IILPressDays$Jobs;I)I"⟩
abbrev cX3_dayAt : ByteArray := prog_5_method_4_code
def yX3_dayAt : MethodName := ⟨RX3, "dayAt", "(I)I"⟩
abbrev cX3_follow : ByteArray := prog_5_method_5_code
def yX3_follow : MethodName := ⟨RX3, "follow", "(LPressDays$Jobs;[I)V"⟩
def RX4 : String := "PressDays$Jobs"
def TX4 : u_T := fun k => match k with
  | 0 => ("PressDays$Jobs", "count", "I", false)
  | 1 => ("PressDays$Jobs", "kind", "[I", true)
  | 2 => ("PressDays$Jobs", "rest", "[I", true)
  | 3 => ("PressDays$Jobs", "colour", "[I", true)
  | 4 => ("PressDays$Jobs", "by", "[I", true)
  | _ => ("PressDays$Jobs", "price", "[I", true)
def tyX4 : Nat → FieldType := fun k => match k with
  | 0 => .int
  | 1 => .array .int
  | 2 => .array .int
  | 3 => .array .int
  | 4 => .array .int
  | _ => .array .int
abbrev wsX40 : List Cond := u_ws RX4 TX4 6
theorem nmX4 : ∀ a, a < 6 → ∀ b, b < 6 → a ≠ b → (TX4 a).2.1 ≠ (TX4 b).2.1 := by decide +kernel
theorem tyX4_ok : ∀ k, k < 6 → parseFieldDescriptor (TX4 k).2.2.1 = some (tyX4 k) := by decide +kernel
abbrev cX4_init : ByteArray := prog_6_method_1_code
def yX4_init : MethodName := ⟨RX4, "<init>", "()V"⟩
abbrev cX4_has : ByteArray := prog_6_method_2_code
def yX4_has : MethodName := ⟨RX4, "has", "(I)Z"⟩
abbrev cX4_add : ByteArray := prog_6_method_3_code
def yX4_add : MethodName := ⟨RX4, "add", "(IIIII)V"⟩
abbrev cX4_remove : ByteArray := prog_6_method_4_code
def yX4_remove : MethodName := ⟨RX4, "remove", "(I)V"⟩
abbrev cX4_copy : ByteArray := prog_6_method_5_code
def yX4_copy : MethodName := ⟨RX4, "copy", "(LPressDays$Jobs;)V"⟩
abbrev cX4_valueOf : ByteArray := prog_6_method_6_code
def yX4_valueOf : MethodName := ⟨RX4, "valueOf", "(III)I"⟩
def RX5 : String := "PressDays$Orders"
def TX5 : u_T := fun k => match k with
  | 0 => ("PressDays$Orders", "course", "LPressDays$Course;", true)
  | 1 => ("PressDays$Orders", "order", "[I", true)
  | 2 => ("PressDays$Orders", "chosen", "[I", true)
  | 3 => ("PressDays$Orders", "aim", "I", false)
  | 4 => ("PressDays$Orders", "many", "I", false)
  | _ => ("PressDays$Orders", "least", "I", false)
def tyX5 : Nat → FieldType := fun k => match k with
  | 0 => .object "PressDays$Course"
  | 1 => .array .int
  | 2 => .array .int
  | 3 => .int
  | 4 => .int
  | _ => .int
abbrev wsX50 : List Cond := u_ws RX5 TX5 6
theorem nmX5 : ∀ a, a < 6 → ∀ b, b < 6 → a ≠ b → (TX5 a).2.1 ≠ (TX5 b).2.1 := by decide +kernel
theorem tyX5_ok : ∀ k, k < 6 → parseFieldDescriptor (TX5 k).2.2.1 = some (tyX5 k) := by decide +kernel
abbrev cX5_init : ByteArray := prog_7_method_1_code
def yX5_init : MethodName := ⟨RX5, "<init>", "(LPressDays$Course;)V"⟩
abbrev cX5_mostWorth : ByteArray := prog_7_method_2_code
def yX5_mostWorth : MethodName := ⟨RX5, "mostWorth", "(LPressDays$Jobs;I)I"⟩
abbrev cX5_fewestLate : ByteArray := prog_7_method_3_code
def yX5_fewestLate : MethodName := ⟨RX5, "fewestLate", "(LPressDays$Jobs;)I"⟩
abbrev cX5_soonestEnd : ByteArray := prog_7_method_4_code
def yX5_soonestEnd : MethodName := ⟨RX5, "soonestEnd", "(LPressDays$Jobs;)I"⟩
abbrev cX5_leastLost : ByteArray := prog_7_method_5_code
def yX5_leastLost : MethodName := ⟨RX5, "leastLost", "(ILPressDays$Jobs;I)I"⟩
abbrev cX5_walk : ByteArray := prog_7_method_6_code
def yX5_walk : MethodName := ⟨RX5, "walk", "(LPressDays$Jobs;IIIII)V"⟩
abbrev cX5_lossOf : ByteArray := prog_7_method_7_code
def yX5_lossOf : MethodName := ⟨RX5, "lossOf", "(LPressDays$Jobs;II)I"⟩
def RX6 : String := "PressDays$Rows"
def TX6 : u_T := fun k => match k with
  | 0 => ("PressDays$Rows", "course", "LPressDays$Course;", true)
  | 1 => ("PressDays$Rows", "cell", "[I", true)
  | _ => ("PressDays$Rows", "count", "I", false)
def tyX6 : Nat → FieldType := fun k => match k with
  | 0 => .object "PressDays$Course"
  | 1 => .array .int
  | _ => .int
abbrev wsX60 : List Cond := u_ws RX6 TX6 3
theorem nmX6 : ∀ a, a < 3 → ∀ b, b < 3 → a ≠ b → (TX6 a).2.1 ≠ (TX6 b).2.1 := by decide +kernel
theorem tyX6_ok : ∀ k, k < 3 → parseFieldDescriptor (TX6 k).2.2.1 = some (tyX6 k) := by decide +kernel
abbrev cX6_init : ByteArray := prog_8_method_1_code
def yX6_init : MethodName := ⟨RX6, "<init>", "(LPressDays$Course;)V"⟩
abbrev cX6_has : ByteArray := prog_8_method_2_code
def yX6_has : MethodName := ⟨RX6, "has", "(II)Z"⟩
abbrev cX6_fill : ByteArray := prog_8_method_3_code
def yX6_fill : MethodName := ⟨RX6, "fill", "(LPressDays$Jobs;[I)V"⟩
abbrev cX6_firstWrong : ByteArray := prog_8_method_4_code
def yX6_firstWrong : MethodName := ⟨RX6, "firstWrong", "(LPressDays$Jobs;)I"⟩
def RX7 : String := "PressDays$Shelves"
def TX7 : u_T := fun k => match k with
  | 0 => ("PressDays$Shelves", "sheetSort", "[I", true)
  | 1 => ("PressDays$Shelves", "sheetSize", "[I", true)
  | 2 => ("PressDays$Shelves", "item", "[I", true)
  | 3 => ("PressDays$Shelves", "holds", "[I", true)
  | 4 => ("PressDays$Shelves", "shelfSort", "[I", true)
  | _ => ("PressDays$Shelves", "shelfNumber", "[I", true)
def tyX7 : Nat → FieldType := fun k => match k with
  | 0 => .array .int
  | 1 => .array .int
  | 2 => .array .int
  | 3 => .array .int
  | 4 => .array .int
  | _ => .array .int
abbrev wsX70 : List Cond := u_ws RX7 TX7 6
theorem nmX7 : ∀ a, a < 6 → ∀ b, b < 6 → a ≠ b → (TX7 a).2.1 ≠ (TX7 b).2.1 := by decide +kernel
theorem tyX7_ok : ∀ k, k < 6 → parseFieldDescriptor (TX7 k).2.2.1 = some (tyX7 k) := by decide +kernel
abbrev cX7_init : ByteArray := prog_9_method_1_code
def yX7_init : MethodName := ⟨RX7, "<init>", "()V"⟩
abbrev cX7_isPlace : ByteArray := prog_9_method_2_code
def yX7_isPlace : MethodName := ⟨RX7, "isPlace", "(I)Z"⟩
abbrev cX7_narrowed : ByteArray := prog_9_method_3_code
def yX7_narrowed : MethodName := ⟨RX7, "narrowed", "(II)I"⟩
abbrev cX7_lay : ByteArray := prog_9_method_4_code
def yX7_lay : MethodName := ⟨RX7, "lay", "(III)V"⟩
abbrev cX7_holdNothing : ByteArray := prog_9_method_5_code
def yX7_holdNothing : MethodName := ⟨RX7, "holdNothing", "(I)V"⟩
abbrev cX7_holdJob : ByteArray := prog_9_method_6_code
def yX7_holdJob : MethodName := ⟨RX7, "holdJob", "(II)V"⟩
abbrev cX7_holdRow : ByteArray := prog_9_method_7_code
def yX7_holdRow : MethodName := ⟨RX7, "holdRow", "(II)V"⟩
abbrev cX7_holdsRow : ByteArray := prog_9_method_8_code
def yX7_holdsRow : MethodName := ⟨RX7, "holdsRow", "(I)Z"⟩
abbrev cX7_jobOn : ByteArray := prog_9_method_9_code
def yX7_jobOn : MethodName := ⟨RX7, "jobOn", "(I)I"⟩
def RX8 : String := "PressDays$Text"
def TX8 : u_T := fun k => match k with
  | 0 => ("PressDays$Text", "tape", "[B", true)
  | 1 => ("PressDays$Text", "count", "I", false)
  | 2 => ("PressDays$Text", "jobs", "LPressDays$Jobs;", true)
  | 3 => ("PressDays$Text", "law", "[I", true)
  | 4 => ("PressDays$Text", "sort", "I", false)
  | 5 => ("PressDays$Text", "start", "I", false)
  | 6 => ("PressDays$Text", "behind", "I", false)
  | _ => ("PressDays$Text", "value", "I", false)
def tyX8 : Nat → FieldType := fun k => match k with
  | 0 => .array .byte
  | 1 => .int
  | 2 => .object "PressDays$Jobs"
  | 3 => .array .int
  | 4 => .int
  | 5 => .int
  | 6 => .int
  | _ => .int
abbrev wsX80 : List Cond := u_ws RX8 TX8 8
theorem nmX8 : ∀ a, a < 8 → ∀ b, b < 8 → a ≠ b → (TX8 a).2.1 ≠ (TX8 b).2.1 := by decide +kernel
theorem tyX8_ok : ∀ k, k < 8 → parseFieldDescriptor (TX8 k).2.2.1 = some (tyX8 k) := by decide +kernel
abbrev cX8_init : ByteArray := prog_10_method_1_code
def yX8_init : MethodName := ⟨RX8, "<init>", "()V"⟩
abbrev cX8_take : ByteArray := prog_10_method_2_code
def yX8_take : MethodName := ⟨RX8, "take", "(JI)I"⟩
abbrev cX8_useUp : ByteArray := prog_10_method_3_code
def yX8_useUp : MethodName := ⟨RX8, "useUp", "()V"⟩
abbrev cX8_read : ByteArray := prog_10_method_4_code
def yX8_read : MethodName := ⟨RX8, "read", "()I"⟩
abbrev cX8_readLaw : ByteArray := prog_10_method_5_code
def yX8_readLaw : MethodName := ⟨RX8, "readLaw", "(I)Z"⟩
abbrev cX8_readJob : ByteArray := prog_10_method_6_code
def yX8_readJob : MethodName := ⟨RX8, "readJob", "()Z"⟩
abbrev cX8_lawNamed : ByteArray := prog_10_method_7_code
def yX8_lawNamed : MethodName := ⟨RX8, "lawNamed", "()I"⟩
abbrev cX8_kindNamed : ByteArray := prog_10_method_8_code
def yX8_kindNamed : MethodName := ⟨RX8, "kindNamed", "()I"⟩
abbrev cX8_isNamed : ByteArray := prog_10_method_9_code
def yX8_isNamed : MethodName := ⟨RX8, "isNamed", "(Ljava/lang/String;)Z"⟩
abbrev cX8_passName : ByteArray := prog_10_method_10_code
def yX8_passName : MethodName := ⟨RX8, "passName", "(Ljava/lang/String;)Z"⟩
abbrev cX8_passNumber : ByteArray := prog_10_method_11_code
def yX8_passNumber : MethodName := ⟨RX8, "passNumber", "(II)Z"⟩
abbrev cX8_passStop : ByteArray := prog_10_method_12_code
def yX8_passStop : MethodName := ⟨RX8, "passStop", "()Z"⟩
abbrev cX8_next : ByteArray := prog_10_method_13_code
def yX8_next : MethodName := ⟨RX8, "next", "()V"⟩
abbrev cX8_sortAt : ByteArray := prog_10_method_14_code
def yX8_sortAt : MethodName := ⟨RX8, "sortAt", "(I)I"⟩
def RX9 : String := "PressDays$Thing"
def TX9 : u_T := fun k => match k with
  | 0 => ("PressDays$Thing", "kind", "I", false)
  | 1 => ("PressDays$Thing", "n", "I", false)
  | 2 => ("PressDays$Thing", "a", "I", false)
  | 3 => ("PressDays$Thing", "isParted", "Z", false)
  | 4 => ("PressDays$Thing", "body", "[I", true)
  | _ => ("PressDays$Thing", "ran", "I", false)
def tyX9 : Nat → FieldType := fun k => match k with
  | 0 => .int
  | 1 => .int
  | 2 => .int
  | 3 => .boolean
  | 4 => .array .int
  | _ => .int
abbrev wsX90 : List Cond := u_ws RX9 TX9 6
theorem nmX9 : ∀ a, a < 6 → ∀ b, b < 6 → a ≠ b → (TX9 a).2.1 ≠ (TX9 b).2.1 := by decide +kernel
theorem tyX9_ok : ∀ k, k < 6 → parseFieldDescriptor (TX9 k).2.2.1 = some (tyX9 k) := by decide +kernel
abbrev cX9_init : ByteArray := prog_11_method_1_code
def yX9_init : MethodName := ⟨RX9, "<init>", "()V"⟩
abbrev cX9_forget : ByteArray := prog_11_method_2_code
def yX9_forget : MethodName := ⟨RX9, "forget", "()V"⟩
abbrev cX9_become : ByteArray := prog_11_method_3_code
def yX9_become : MethodName := ⟨RX9, "become", "(III)V"⟩
abbrev cX9_perform : ByteArray := prog_11_method_4_code
def yX9_perform : MethodName := ⟨RX9, "perform", "(II)I"⟩
abbrev cX9_runs : ByteArray := prog_11_method_5_code
def yX9_runs : MethodName := ⟨RX9, "runs", "(I)V"⟩
abbrev cX9_is : ByteArray := prog_11_method_6_code
def yX9_is : MethodName := ⟨RX9, "is", "(I)Z"⟩
abbrev cX9_prints : ByteArray := prog_11_method_7_code
def yX9_prints : MethodName := ⟨RX9, "prints", "(I)I"⟩
abbrev cX9_sets : ByteArray := prog_11_method_8_code
def yX9_sets : MethodName := ⟨RX9, "sets", "(I)I"⟩
abbrev cX9_shares : ByteArray := prog_11_method_9_code
def yX9_shares : MethodName := ⟨RX9, "shares", "(I)I"⟩
abbrev cX9_tells : ByteArray := prog_11_method_10_code
def yX9_tells : MethodName := ⟨RX9, "tells", "(I)I"⟩
def RX10 : String := "PressDays$Types"
def TX10 : u_T := fun k => match k with
  | 0 => ("PressDays$Types", "count", "I", false)
  | 1 => ("PressDays$Types", "z", "I", false)
  | 2 => ("PressDays$Types", "kind", "[I", true)
  | 3 => ("PressDays$Types", "slots", "[I", true)
  | 4 => ("PressDays$Types", "colour", "[I", true)
  | 5 => ("PressDays$Types", "patience", "[I", true)
  | 6 => ("PressDays$Types", "price", "[I", true)
  | _ => ("PressDays$Types", "odds", "[I", true)
def tyX10 : Nat → FieldType := fun k => match k with
  | 0 => .int
  | 1 => .int
  | 2 => .array .int
  | 3 => .array .int
  | 4 => .array .int
  | 5 => .array .int
  | 6 => .array .int
  | _ => .array .int
abbrev wsX100 : List Cond := u_ws RX10 TX10 8
theorem nmX10 : ∀ a, a < 8 → ∀ b, b < 8 → a ≠ b → (TX10 a).2.1 ≠ (TX10 b).2.1 := by decide +kernel
theorem tyX10_ok : ∀ k, k < 8 → parseFieldDescriptor (TX10 k).2.2.1 = some (tyX10 k) := by decide +kernel
abbrev cX10_init : ByteArray := prog_12_method_1_code
def yX10_init : MethodName := ⟨RX10, "<init>", "()V"⟩
abbrev cX10_oddsOfAll : ByteArray := prog_12_method_2_code
def yX10_oddsOfAll : MethodName := ⟨RX10, "oddsOfAll", "()I"⟩
abbrev cX10_add : ByteArray := prog_12_method_3_code
def yX10_add : MethodName := ⟨RX10, "add", "(IIIIII)I"⟩
abbrev cX10_next : ByteArray := prog_12_method_4_code
def yX10_next : MethodName := ⟨RX10, "next", "()I"⟩
abbrev cX10_copy : ByteArray := prog_12_method_5_code
def yX10_copy : MethodName := ⟨RX10, "copy", "(LPressDays$Types;)V"⟩
def RX11 : String := "PressDays"
def TX11 : u_T := fun k => match k with
  | 0 => ("PressDays", "now", "LPressDays$Board;", true)
  | 1 => ("PressDays", "keptBoard", "LPressDays$Board;", true)
  | 2 => ("PressDays", "types", "LPressDays$Types;", true)
  | 3 => ("PressDays", "keptTypes", "LPressDays$Types;", true)
  | 4 => ("PressDays", "isKept", "Z", false)
  | 5 => ("PressDays", "text", "LPressDays$Text;", true)
  | 6 => ("PressDays", "course", "LPressDays$Course;", true)
  | 7 => ("PressDays", "orders", "LPressDays$Orders;", true)
  | 8 => ("PressDays", "chance", "LPressDays$Chance;", true)
  | 9 => ("PressDays", "calls", "LPressDays$Ahead;", true)
  | 10 => ("PressDays", "rows", "LPressDays$Rows;", true)
  | 11 => ("PressDays", "trial", "LPressDays$Jobs;", true)
  | 12 => ("PressDays", "shelves", "LPressDays$Shelves;", true)
  | _ => ("PressDays", "thing", "LPressDays$Thing;", true)
def tyX11 : Nat → FieldType := fun k => match k with
  | 0 => .object "PressDays$Board"
  | 1 => .object "PressDays$Board"
  | 2 => .object "PressDays$Types"
  | 3 => .object "PressDays$Types"
  | 4 => .boolean
  | 5 => .object "PressDays$Text"
  | 6 => .object "PressDays$Course"
  | 7 => .object "PressDays$Orders"
  | 8 => .object "PressDays$Chance"
  | 9 => .object "PressDays$Ahead"
  | 10 => .object "PressDays$Rows"
  | 11 => .object "PressDays$Jobs"
  | 12 => .object "PressDays$Shelves"
  | _ => .object "PressDays$Thing"
abbrev wsX110 : List Cond := u_ws RX11 TX11 14
theorem nmX11 : ∀ a, a < 14 → ∀ b, b < 14 → a ≠ b → (TX11 a).2.1 ≠ (TX11 b).2.1 := by decide +kernel
theorem tyX11_ok : ∀ k, k < 14 → parseFieldDescriptor (TX11 k).2.2.1 = some (tyX11 k) := by decide +kernel
abbrev cX11_init : ByteArray := prog_1_method_1_code
def yX11_init : MethodName := ⟨RX11, "<init>", "()V"⟩
abbrev cX11_feed : ByteArray := prog_1_method_2_code
def yX11_feed : MethodName := ⟨RX11, "feed", "(JI)I"⟩
abbrev cX11_board : ByteArray := prog_1_method_3_code
def yX11_board : MethodName := ⟨RX11, "board", "()I"⟩
abbrev cX11_job : ByteArray := prog_1_method_4_code
def yX11_job : MethodName := ⟨RX11, "job", "(IIIII)I"⟩
abbrev cX11_jobOf : ByteArray := prog_1_method_5_code
def yX11_jobOf : MethodName := ⟨RX11, "jobOf", "(II)I"⟩
abbrev cX11_drop : ByteArray := prog_1_method_6_code
def yX11_drop : MethodName := ⟨RX11, "drop", "(I)I"⟩
abbrev cX11_set : ByteArray := prog_1_method_7_code
def yX11_set : MethodName := ⟨RX11, "set", "(II)I"⟩
abbrev cX11_lose : ByteArray := prog_1_method_8_code
def yX11_lose : MethodName := ⟨RX11, "lose", "(II)I"⟩
abbrev cX11_night : ByteArray := prog_1_method_9_code
def yX11_night : MethodName := ⟨RX11, "night", "(II)I"⟩
abbrev cX11_slots : ByteArray := prog_1_method_10_code
def yX11_slots : MethodName := ⟨RX11, "slots", "(I)I"⟩
abbrev cX11_plan : ByteArray := prog_1_method_11_code
def yX11_plan : MethodName := ⟨RX11, "plan", "(I)I"⟩
abbrev cX11_planOf : ByteArray := prog_1_method_12_code
def yX11_planOf : MethodName := ⟨RX11, "planOf", "(I)I"⟩
abbrev cX11_press : ByteArray := prog_1_method_13_code
def yX11_press : MethodName := ⟨RX11, "press", "(I)I"⟩
abbrev cX11_ends : ByteArray := prog_1_method_14_code
def yX11_ends : MethodName := ⟨RX11, "ends", "(I)I"⟩
abbrev cX11_late : ByteArray := prog_1_method_15_code
def yX11_late : MethodName := ⟨RX11, "late", "()I"⟩
abbrev cX11_worth : ByteArray := prog_1_method_16_code
def yX11_worth : MethodName := ⟨RX11, "worth", "()I"⟩
abbrev cX11_best : ByteArray := prog_1_method_17_code
def yX11_best : MethodName := ⟨RX11, "best", "(I)I"⟩
abbrev cX11_fewest : ByteArray := prog_1_method_18_code
def yX11_fewest : MethodName := ⟨RX11, "fewest", "()I"⟩
abbrev cX11_soonest : ByteArray := prog_1_method_19_code
def yX11_soonest : MethodName := ⟨RX11, "soonest", "(III)I"⟩
abbrev cX11_gain : ByteArray := prog_1_method_20_code
def yX11_gain : MethodName := ⟨RX11, "gain", "(IIIII)I"⟩
abbrev cX11_across : ByteArray := prog_1_method_21_code
def yX11_across : MethodName := ⟨RX11, "across", "(I)I"⟩
abbrev cX11_nights : ByteArray := prog_1_method_22_code
def yX11_nights : MethodName := ⟨RX11, "nights", "()I"⟩
abbrev cX11_sure : ByteArray := prog_1_method_23_code
def yX11_sure : MethodName := ⟨RX11, "sure", "(I)I"⟩
abbrev cX11_safest : ByteArray := prog_1_method_24_code
def yX11_safest : MethodName := ⟨RX11, "safest", "(I)I"⟩
abbrev cX11_mean : ByteArray := prog_1_method_25_code
def yX11_mean : MethodName := ⟨RX11, "mean", "(I)I"⟩
abbrev cX11_type : ByteArray := prog_1_method_26_code
def yX11_type : MethodName := ⟨RX11, "type", "(IIIIII)I"⟩
abbrev cX11_typeOf : ByteArray := prog_1_method_27_code
def yX11_typeOf : MethodName := ⟨RX11, "typeOf", "(II)I"⟩
abbrev cX11_ahead : ByteArray := prog_1_method_28_code
def yX11_ahead : MethodName := ⟨RX11, "ahead", "(II)I"⟩
abbrev cX11_comes : ByteArray := prog_1_method_29_code
def yX11_comes : MethodName := ⟨RX11, "comes", "()I"⟩
abbrev cX11_seed : ByteArray := prog_1_method_30_code
def yX11_seed : MethodName := ⟨RX11, "seed", "(I)I"⟩
abbrev cX11_goes : ByteArray := prog_1_method_31_code
def yX11_goes : MethodName := ⟨RX11, "goes", "()I"⟩
abbrev cX11_till : ByteArray := prog_1_method_32_code
def yX11_till : MethodName := ⟨RX11, "till", "()I"⟩
abbrev cX11_prove : ByteArray := prog_1_method_33_code
def yX11_prove : MethodName := ⟨RX11, "prove", "()I"⟩
abbrev cX11_row : ByteArray := prog_1_method_34_code
def yX11_row : MethodName := ⟨RX11, "row", "(II)I"⟩
abbrev cX11_alterRow : ByteArray := prog_1_method_35_code
def yX11_alterRow : MethodName := ⟨RX11, "alterRow", "(III)I"⟩
abbrev cX11_judge : ByteArray := prog_1_method_36_code
def yX11_judge : MethodName := ⟨RX11, "judge", "()I"⟩
abbrev cX11_sheet : ByteArray := prog_1_method_37_code
def yX11_sheet : MethodName := ⟨RX11, "sheet", "(III)I"⟩
abbrev cX11_put : ByteArray := prog_1_method_38_code
def yX11_put : MethodName := ⟨RX11, "put", "(III)I"⟩
abbrev cX11_item : ByteArray := prog_1_method_39_code
def yX11_item : MethodName := ⟨RX11, "item", "(III)I"⟩
abbrev cX11_shelf : ByteArray := prog_1_method_40_code
def yX11_shelf : MethodName := ⟨RX11, "shelf", "(III)I"⟩
abbrev cX11_taken : ByteArray := prog_1_method_41_code
def yX11_taken : MethodName := ⟨RX11, "taken", "(II)I"⟩
abbrev cX11_act : ByteArray := prog_1_method_42_code
def yX11_act : MethodName := ⟨RX11, "act", "(III)I"⟩
abbrev cX11_trace : ByteArray := prog_1_method_43_code
def yX11_trace : MethodName := ⟨RX11, "trace", "(I)I"⟩
abbrev cX11_many : ByteArray := prog_1_method_44_code
def yX11_many : MethodName := ⟨RX11, "many", "(I)I"⟩
abbrev cX11_keep : ByteArray := prog_1_method_45_code
def yX11_keep : MethodName := ⟨RX11, "keep", "()I"⟩
abbrev cX11_again : ByteArray := prog_1_method_46_code
def yX11_again : MethodName := ⟨RX11, "again", "()I"⟩
abbrev cX11_followPlan : ByteArray := prog_1_method_47_code
def yX11_followPlan : MethodName := ⟨RX11, "followPlan", "()V"⟩
abbrev cX11_within : ByteArray := prog_1_method_48_code
def yX11_within : MethodName := ⟨RX11, "within", "(III)Z"⟩
abbrev cX11_isJob : ByteArray := prog_1_method_49_code
def yX11_isJob : MethodName := ⟨RX11, "isJob", "(IIIII)Z"⟩
abbrev cX11_isUnder : ByteArray := prog_1_method_50_code
def yX11_isUnder : MethodName := ⟨RX11, "isUnder", "(II)Z"⟩
abbrev cX11_digitsOf : ByteArray := prog_1_method_51_code
def yX11_digitsOf : MethodName := ⟨RX11, "digitsOf", "([II)I"⟩
abbrev cX11_partOf : ByteArray := prog_1_method_52_code
def yX11_partOf : MethodName := ⟨RX11, "partOf", "(III)I"⟩
def RX12 : String := "PressDaysModel"
def TX12 : u_T := fun k => match k with
  | 0 => ("PressDaysModel", "jobs", "I", false)
  | 1 => ("PressDaysModel", "job", "[I", true)
  | 2 => ("PressDaysModel", "laws", "[I", true)
  | 3 => ("PressDaysModel", "leastOf", "[I", true)
  | 4 => ("PressDaysModel", "mostOf", "[I", true)
  | 5 => ("PressDaysModel", "day", "I", false)
  | 6 => ("PressDaysModel", "colour", "I", false)
  | 7 => ("PressDaysModel", "setting", "I", false)
  | 8 => ("PressDaysModel", "till", "I", false)
  | 9 => ("PressDaysModel", "lost", "[I", true)
  | 10 => ("PressDaysModel", "nightsOf", "[I", true)
  | 11 => ("PressDaysModel", "plan", "[I", true)
  | 12 => ("PressDaysModel", "types", "I", false)
  | 13 => ("PressDaysModel", "type", "[I", true)
  | 14 => ("PressDaysModel", "z", "I", false)
  | 15 => ("PressDaysModel", "tape", "[I", true)
  | 16 => ("PressDaysModel", "tapeMany", "I", false)
  | 17 => ("PressDaysModel", "sort", "I", false)
  | 18 => ("PressDaysModel", "begins", "I", false)
  | 19 => ("PressDaysModel", "tokenEnds", "I", false)
  | 20 => ("PressDaysModel", "word", "J", false)
  | 21 => ("PressDaysModel", "value", "I", false)
  | 22 => ("PressDaysModel", "good", "Z", false)
  | 23 => ("PressDaysModel", "fresh", "[I", true)
  | 24 => ("PressDaysModel", "freshLaws", "[I", true)
  | 25 => ("PressDaysModel", "freshMany", "I", false)
  | 26 => ("PressDaysModel", "order", "[I", true)
  | 27 => ("PressDaysModel", "rest", "[I", true)
  | 28 => ("PressDaysModel", "endsOn", "[I", true)
  | 29 => ("PressDaysModel", "pressColour", "I", false)
  | 30 => ("PressDaysModel", "pressSetting", "I", false)
  | 31 => ("PressDaysModel", "bestOrder", "[I", true)
  | 32 => ("PressDaysModel", "above", "I", false)
  | 33 => ("PressDaysModel", "below", "I", false)
  | 34 => ("PressDaysModel", "worths", "[I", true)
  | 35 => ("PressDaysModel", "next", "[I", true)
  | 36 => ("PressDaysModel", "rows", "[I", true)
  | 37 => ("PressDaysModel", "rowMany", "I", false)
  | 38 => ("PressDaysModel", "sorts", "[I", true)
  | 39 => ("PressDaysModel", "sizes", "[I", true)
  | 40 => ("PressDaysModel", "sheets", "[J", true)
  | 41 => ("PressDaysModel", "held", "[I", true)
  | 42 => ("PressDaysModel", "heldNumber", "[I", true)
  | 43 => ("PressDaysModel", "heldSize", "[I", true)
  | 44 => ("PressDaysModel", "kind", "I", false)
  | 45 => ("PressDaysModel", "number", "I", false)
  | 46 => ("PressDaysModel", "own", "I", false)
  | 47 => ("PressDaysModel", "traced", "[I", true)
  | 48 => ("PressDaysModel", "bodies", "I", false)
  | 49 => ("PressDaysModel", "isParted", "Z", false)
  | 50 => ("PressDaysModel", "isKept", "Z", false)
  | 51 => ("PressDaysModel", "kept", "[I", true)
  | 52 => ("PressDaysModel", "movedTo", "I", false)
  | _ => ("PressDaysModel", "single", "[I", true)
def tyX12 : Nat → FieldType := fun k => match k with
  | 0 => .int
  | 1 => .array .int
  | 2 => .array .int
  | 3 => .array .int
  | 4 => .array .int
  | 5 => .int
  | 6 => .int
  | 7 => .int
  | 8 => .int
  | 9 => .array .int
  | 10 => .array .int
  | 11 => .array .int
  | 12 => .int
  | 13 => .array .int
  | 14 => .int
  | 15 => .array .int
  | 16 => .int
  | 17 => .int
  | 18 => .int
  | 19 => .int
  | 20 => .long
  | 21 => .int
  | 22 => .boolean
  | 23 => .array .int
  | 24 => .array .int
  | 25 => .int
  | 26 => .array .int
  | 27 => .array .int
  | 28 => .array .int
  | 29 => .int
  | 30 => .int
  | 31 => .array .int
  | 32 => .int
  | 33 => .int
  | 34 => .array .int
  | 35 => .array .int
  | 36 => .array .int
  | 37 => .int
  | 38 => .array .int
  | 39 => .array .int
  | 40 => .array .long
  | 41 => .array .int
  | 42 => .array .int
  | 43 => .array .int
  | 44 => .int
  | 45 => .int
  | 46 => .int
  | 47 => .array .int
  | 48 => .int
  | 49 => .boolean
  | 50 => .boolean
  | 51 => .array .int
  | 52 => .int
  | _ => .array .int
abbrev wsX120 : List Cond := u_ws RX12 TX12 54
theorem nmX12 : ∀ a, a < 54 → ∀ b, b < 54 → a ≠ b → (TX12 a).2.1 ≠ (TX12 b).2.1 := by decide +kernel
theorem tyX12_ok : ∀ k, k < 54 → parseFieldDescriptor (TX12 k).2.2.1 = some (tyX12 k) := by decide +kernel
abbrev cX12_init : ByteArray := prog_14_method_1_code
def yX12_init : MethodName := ⟨RX12, "<init>", "()V"⟩
abbrev cX12_in : ByteArray := prog_14_method_2_code
def yX12_in : MethodName := ⟨RX12, "in", "(III)Z"⟩
abbrev cX12_isJob : ByteArray := prog_14_method_3_code
def yX12_isJob : MethodName := ⟨RX12, "isJob", "(I)Z"⟩
abbrev cX12_isSide : ByteArray := prog_14_method_4_code
def yX12_isSide : MethodName := ⟨RX12, "isSide", "(I)Z"⟩
abbrev cX12_its : ByteArray := prog_14_method_5_code
def yX12_its : MethodName := ⟨RX12, "its", "(II)I"⟩
abbrev cX12_restOf : ByteArray := prog_14_method_6_code
def yX12_restOf : MethodName := ⟨RX12, "restOf", "(II)I"⟩
abbrev cX12_isLike : ByteArray := prog_14_method_7_code
def yX12_isLike : MethodName := ⟨RX12, "isLike", "(III)Z"⟩
abbrev cX12_isPromised : ByteArray := prog_14_method_8_code
def yX12_isPromised : MethodName := ⟨RX12, "isPromised", "(II)Z"⟩
abbrev cX12_lay : ByteArray := prog_14_method_9_code
def yX12_lay : MethodName := ⟨RX12, "lay", "(IIIIII)V"⟩
abbrev cX12_feed : ByteArray := prog_14_method_10_code
def yX12_feed : MethodName := ⟨RX12, "feed", "(JI)I"⟩
abbrev cX12_byteAt : ByteArray := prog_14_method_11_code
def yX12_byteAt : MethodName := ⟨RX12, "byteAt", "(I)I"⟩
abbrev cX12_isLetter : ByteArray := prog_14_method_12_code
def yX12_isLetter : MethodName := ⟨RX12, "isLetter", "(I)Z"⟩
abbrev cX12_isDigit : ByteArray := prog_14_method_13_code
def yX12_isDigit : MethodName := ⟨RX12, "isDigit", "(I)Z"⟩
abbrev cX12_advance : ByteArray := prog_14_method_14_code
def yX12_advance : MethodName := ⟨RX12, "advance", "()V"⟩
abbrev cX12_isWord : ByteArray := prog_14_method_15_code
def yX12_isWord : MethodName := ⟨RX12, "isWord", "(J)Z"⟩
abbrev cX12_isMark : ByteArray := prog_14_method_16_code
def yX12_isMark : MethodName := ⟨RX12, "isMark", "(I)Z"⟩
abbrev cX12_kindHere : ByteArray := prog_14_method_17_code
def yX12_kindHere : MethodName := ⟨RX12, "kindHere", "()I"⟩
abbrev cX12_lawHere : ByteArray := prog_14_method_18_code
def yX12_lawHere : MethodName := ⟨RX12, "lawHere", "()I"⟩
abbrev cX12_wantNumber : ByteArray := prog_14_method_19_code
def yX12_wantNumber : MethodName := ⟨RX12, "wantNumber", "(II)I"⟩
abbrev cX12_wantWord : ByteArray := prog_14_method_20_code
def yX12_wantWord : MethodName := ⟨RX12, "wantWord", "(J)V"⟩
abbrev cX12_wantEnd : ByteArray := prog_14_method_21_code
def yX12_wantEnd : MethodName := ⟨RX12, "wantEnd", "()V"⟩
abbrev cX12_wantJob : ByteArray := prog_14_method_22_code
def yX12_wantJob : MethodName := ⟨RX12, "wantJob", "(I)V"⟩
abbrev cX12_wantLaw : ByteArray := prog_14_method_23_code
def yX12_wantLaw : MethodName := ⟨RX12, "wantLaw", "(I)V"⟩
abbrev cX12_board : ByteArray := prog_14_method_24_code
def yX12_board : MethodName := ⟨RX12, "board", "()I"⟩
abbrev cX12_job : ByteArray := prog_14_method_25_code
def yX12_job : MethodName := ⟨RX12, "job", "(IIIII)I"⟩
abbrev cX12_jobOf : ByteArray := prog_14_method_26_code
def yX12_jobOf : MethodName := ⟨RX12, "jobOf", "(II)I"⟩
abbrev cX12_goesAway : ByteArray := prog_14_method_27_code
def yX12_goesAway : MethodName := ⟨RX12, "goesAway", "(I)V"⟩
abbrev cX12_drop : ByteArray := prog_14_method_28_code
def yX12_drop : MethodName := ⟨RX12, "drop", "(I)I"⟩
abbrev cX12_set : ByteArray := prog_14_method_29_code
def yX12_set : MethodName := ⟨RX12, "set", "(II)I"⟩
abbrev cX12_lose : ByteArray := prog_14_method_30_code
def yX12_lose : MethodName := ⟨RX12, "lose", "(II)I"⟩
abbrev cX12_night : ByteArray := prog_14_method_31_code
def yX12_night : MethodName := ⟨RX12, "night", "(II)I"⟩
abbrev cX12_slotsOf : ByteArray := prog_14_method_32_code
def yX12_slotsOf : MethodName := ⟨RX12, "slotsOf", "(I)I"⟩
abbrev cX12_slots : ByteArray := prog_14_method_33_code
def yX12_slots : MethodName := ⟨RX12, "slots", "(I)I"⟩
abbrev cX12_plan : ByteArray := prog_14_method_34_code
def yX12_plan : MethodName := ⟨RX12, "plan", "(I)I"⟩
abbrev cX12_planOf : ByteArray := prog_14_method_35_code
def yX12_planOf : MethodName := ⟨RX12, "planOf", "(I)I"⟩
abbrev cX12_press : ByteArray := prog_14_method_36_code
def yX12_press : MethodName := ⟨RX12, "press", "(I)I"⟩
abbrev cX12_lends : ByteArray := prog_14_method_37_code
def yX12_lends : MethodName := ⟨RX12, "lends", "(II)V"⟩
abbrev cX12_works : ByteArray := prog_14_method_38_code
def yX12_works : MethodName := ⟨RX12, "works", "(I)Z"⟩
abbrev cX12_worksAll : ByteArray := prog_14_method_39_code
def yX12_worksAll : MethodName := ⟨RX12, "worksAll", "(III)V"⟩
abbrev cX12_isLate : ByteArray := prog_14_method_40_code
def yX12_isLate : MethodName := ⟨RX12, "isLate", "(I)Z"⟩
abbrev cX12_worthOf : ByteArray := prog_14_method_41_code
def yX12_worthOf : MethodName := ⟨RX12, "worthOf", "(I)I"⟩
abbrev cX12_worthAll : ByteArray := prog_14_method_42_code
def yX12_worthAll : MethodName := ⟨RX12, "worthAll", "(I)I"⟩
abbrev cX12_lateMany : ByteArray := prog_14_method_43_code
def yX12_lateMany : MethodName := ⟨RX12, "lateMany", "(I)I"⟩
abbrev cX12_byPlan : ByteArray := prog_14_method_44_code
def yX12_byPlan : MethodName := ⟨RX12, "byPlan", "()V"⟩
abbrev cX12_ends : ByteArray := prog_14_method_45_code
def yX12_ends : MethodName := ⟨RX12, "ends", "(I)I"⟩
abbrev cX12_late : ByteArray := prog_14_method_46_code
def yX12_late : MethodName := ⟨RX12, "late", "()I"⟩
abbrev cX12_worth : ByteArray := prog_14_method_47_code
def yX12_worth : MethodName := ⟨RX12, "worth", "()I"⟩
abbrev cX12_firstOrder : ByteArray := prog_14_method_48_code
def yX12_firstOrder : MethodName := ⟨RX12, "firstOrder", "(II)I"⟩
abbrev cX12_nextOrder : ByteArray := prog_14_method_49_code
def yX12_nextOrder : MethodName := ⟨RX12, "nextOrder", "(I)Z"⟩
abbrev cX12_swaps : ByteArray := prog_14_method_50_code
def yX12_swaps : MethodName := ⟨RX12, "swaps", "(II)V"⟩
abbrev cX12_keepsOrder : ByteArray := prog_14_method_51_code
def yX12_keepsOrder : MethodName := ⟨RX12, "keepsOrder", "(I)V"⟩
abbrev cX12_digitsOf : ByteArray := prog_14_method_52_code
def yX12_digitsOf : MethodName := ⟨RX12, "digitsOf", "(I)I"⟩
abbrev cX12_mostOfAll : ByteArray := prog_14_method_53_code
def yX12_mostOfAll : MethodName := ⟨RX12, "mostOfAll", "(II)I"⟩
abbrev cX12_worksMany : ByteArray := prog_14_method_54_code
def yX12_worksMany : MethodName := ⟨RX12, "worksMany", "(IIII)V"⟩
abbrev cX12_best : ByteArray := prog_14_method_55_code
def yX12_best : MethodName := ⟨RX12, "best", "(I)I"⟩
abbrev cX12_fewest : ByteArray := prog_14_method_56_code
def yX12_fewest : MethodName := ⟨RX12, "fewest", "()I"⟩
abbrev cX12_soonest : ByteArray := prog_14_method_57_code
def yX12_soonest : MethodName := ⟨RX12, "soonest", "(III)I"⟩
abbrev cX12_gain : ByteArray := prog_14_method_58_code
def yX12_gain : MethodName := ⟨RX12, "gain", "(IIIII)I"⟩
abbrev cX12_across : ByteArray := prog_14_method_59_code
def yX12_across : MethodName := ⟨RX12, "across", "(I)I"⟩
abbrev cX12_nights : ByteArray := prog_14_method_60_code
def yX12_nights : MethodName := ⟨RX12, "nights", "()I"⟩
abbrev cX12_lowest : ByteArray := prog_14_method_61_code
def yX12_lowest : MethodName := ⟨RX12, "lowest", "(II)V"⟩
abbrev cX12_oftenOf : ByteArray := prog_14_method_62_code
def yX12_oftenOf : MethodName := ⟨RX12, "oftenOf", "(I)I"⟩
abbrev cX12_sureOf : ByteArray := prog_14_method_63_code
def yX12_sureOf : MethodName := ⟨RX12, "sureOf", "()I"⟩
abbrev cX12_orderOfPlan : ByteArray := prog_14_method_64_code
def yX12_orderOfPlan : MethodName := ⟨RX12, "orderOfPlan", "()V"⟩
abbrev cX12_sure : ByteArray := prog_14_method_65_code
def yX12_sure : MethodName := ⟨RX12, "sure", "(I)I"⟩
abbrev cX12_safest : ByteArray := prog_14_method_66_code
def yX12_safest : MethodName := ⟨RX12, "safest", "(I)I"⟩
abbrev cX12_mean : ByteArray := prog_14_method_67_code
def yX12_mean : MethodName := ⟨RX12, "mean", "(I)I"⟩
abbrev cX12_typeIts : ByteArray := prog_14_method_68_code
def yX12_typeIts : MethodName := ⟨RX12, "typeIts", "(II)I"⟩
abbrev cX12_oddsOfTypes : ByteArray := prog_14_method_69_code
def yX12_oddsOfTypes : MethodName := ⟨RX12, "oddsOfTypes", "()I"⟩
abbrev cX12_type : ByteArray := prog_14_method_70_code
def yX12_type : MethodName := ⟨RX12, "type", "(IIIIII)I"⟩
abbrev cX12_typeOf : ByteArray := prog_14_method_71_code
def yX12_typeOf : MethodName := ⟨RX12, "typeOf", "(II)I"⟩
abbrev cX12_takenMany : ByteArray := prog_14_method_72_code
def yX12_takenMany : MethodName := ⟨RX12, "takenMany", "(I)I"⟩
abbrev cX12_isTaken : ByteArray := prog_14_method_73_code
def yX12_isTaken : MethodName := ⟨RX12, "isTaken", "(I)Z"⟩
abbrev cX12_worthWith : ByteArray := prog_14_method_74_code
def yX12_worthWith : MethodName := ⟨RX12, "worthWith", "(I)I"⟩
abbrev cX12_ahead : ByteArray := prog_14_method_75_code
def yX12_ahead : MethodName := ⟨RX12, "ahead", "(II)I"⟩
abbrev cX12_comes : ByteArray := prog_14_method_76_code
def yX12_comes : MethodName := ⟨RX12, "comes", "()I"⟩
abbrev cX12_seed : ByteArray := prog_14_method_77_code
def yX12_seed : MethodName := ⟨RX12, "seed", "(I)I"⟩
abbrev cX12_goes : ByteArray := prog_14_method_78_code
def yX12_goes : MethodName := ⟨RX12, "goes", "()I"⟩
abbrev cX12_till : ByteArray := prog_14_method_79_code
def yX12_till : MethodName := ⟨RX12, "till", "()I"⟩
abbrev cX12_prove : ByteArray := prog_14_method_80_code
def yX12_prove : MethodName := ⟨RX12, "prove", "()I"⟩
abbrev cX12_isRow : ByteArray := prog_14_method_81_code
def yX12_isRow : MethodName := ⟨RX12, "isRow", "(II)Z"⟩
abbrev cX12_row : ByteArray := prog_14_method_82_code
def yX12_row : MethodName := ⟨RX12, "row", "(II)I"⟩
abbrev cX12_alterRow : ByteArray := prog_14_method_83_code
def yX12_alterRow : MethodName := ⟨RX12, "alterRow", "(III)I"⟩
abbrev cX12_judge : ByteArray := prog_14_method_84_code
def yX12_judge : MethodName := ⟨RX12, "judge", "()I"⟩
abbrev cX12_isShelf : ByteArray := prog_14_method_85_code
def yX12_isShelf : MethodName := ⟨RX12, "isShelf", "(I)Z"⟩
abbrev cX12_sheet : ByteArray := prog_14_method_86_code
def yX12_sheet : MethodName := ⟨RX12, "sheet", "(III)I"⟩
abbrev cX12_put : ByteArray := prog_14_method_87_code
def yX12_put : MethodName := ⟨RX12, "put", "(III)I"⟩
abbrev cX12_lacksSort : ByteArray := prog_14_method_88_code
def yX12_lacksSort : MethodName := ⟨RX12, "lacksSort", "(II)I"⟩
abbrev cX12_item : ByteArray := prog_14_method_89_code
def yX12_item : MethodName := ⟨RX12, "item", "(III)I"⟩
abbrev cX12_isHeld : ByteArray := prog_14_method_90_code
def yX12_isHeld : MethodName := ⟨RX12, "isHeld", "(II)Z"⟩
abbrev cX12_shelf : ByteArray := prog_14_method_91_code
def yX12_shelf : MethodName := ⟨RX12, "shelf", "(III)I"⟩
abbrev cX12_kindOn : ByteArray := prog_14_method_92_code
def yX12_kindOn : MethodName := ⟨RX12, "kindOn", "(I)I"⟩
abbrev cX12_isUnder : ByteArray := prog_14_method_93_code
def yX12_isUnder : MethodName := ⟨RX12, "isUnder", "(II)Z"⟩
abbrev cX12_taken : ByteArray := prog_14_method_94_code
def yX12_taken : MethodName := ⟨RX12, "taken", "(II)I"⟩
abbrev cX12_ran : ByteArray := prog_14_method_95_code
def yX12_ran : MethodName := ⟨RX12, "ran", "(I)V"⟩
abbrev cX12_plainPrints : ByteArray := prog_14_method_96_code
def yX12_plainPrints : MethodName := ⟨RX12, "plainPrints", "(I)I"⟩
abbrev cX12_posterPrints : ByteArray := prog_14_method_97_code
def yX12_posterPrints : MethodName := ⟨RX12, "posterPrints", "(I)I"⟩
abbrev cX12_printsIt : ByteArray := prog_14_method_98_code
def yX12_printsIt : MethodName := ⟨RX12, "printsIt", "(I)I"⟩
abbrev cX12_plainSets : ByteArray := prog_14_method_99_code
def yX12_plainSets : MethodName := ⟨RX12, "plainSets", "(I)I"⟩
abbrev cX12_weddingSets : ByteArray := prog_14_method_100_code
def yX12_weddingSets : MethodName := ⟨RX12, "weddingSets", "(I)I"⟩
abbrev cX12_setsIt : ByteArray := prog_14_method_101_code
def yX12_setsIt : MethodName := ⟨RX12, "setsIt", "(I)I"⟩
abbrev cX12_plainShares : ByteArray := prog_14_method_102_code
def yX12_plainShares : MethodName := ⟨RX12, "plainShares", "(I)I"⟩
abbrev cX12_sharesIt : ByteArray := prog_14_method_103_code
def yX12_sharesIt : MethodName := ⟨RX12, "sharesIt", "(I)I"⟩
abbrev cX12_plainTells : ByteArray := prog_14_method_104_code
def yX12_plainTells : MethodName := ⟨RX12, "plainTells", "(I)I"⟩
abbrev cX12_tellsIt : ByteArray := prog_14_method_105_code
def yX12_tellsIt : MethodName := ⟨RX12, "tellsIt", "(I)I"⟩
abbrev cX12_act : ByteArray := prog_14_method_106_code
def yX12_act : MethodName := ⟨RX12, "act", "(III)I"⟩
abbrev cX12_trace : ByteArray := prog_14_method_107_code
def yX12_trace : MethodName := ⟨RX12, "trace", "(I)I"⟩
abbrev cX12_many : ByteArray := prog_14_method_108_code
def yX12_many : MethodName := ⟨RX12, "many", "(I)I"⟩
abbrev cX12_move : ByteArray := prog_14_method_109_code
def yX12_move : MethodName := ⟨RX12, "move", "([IIZ)V"⟩
abbrev cX12_moveAll : ByteArray := prog_14_method_110_code
def yX12_moveAll : MethodName := ⟨RX12, "moveAll", "(Z)V"⟩
abbrev cX12_keep : ByteArray := prog_14_method_111_code
def yX12_keep : MethodName := ⟨RX12, "keep", "()I"⟩
abbrev cX12_again : ByteArray := prog_14_method_112_code
def yX12_again : MethodName := ⟨RX12, "again", "()I"⟩
def RJ9 : String := "java/lang/Math"
def TJ9 : u_T := fun k => match k with
  | _ => ("", "", "", false)
def tyJ9 : Nat → FieldType := fun k => match k with
  | _ => .int
abbrev wsJ90 : List Cond := u_ws RJ9 TJ9 0
theorem nmJ9 : ∀ a, a < 0 → ∀ b, b < 0 → a ≠ b → (TJ9 a).2.1 ≠ (TJ9 b).2.1 := by decide +kernel
theorem tyJ9_ok : ∀ k, k < 0 → parseFieldDescriptor (TJ9 k).2.2.1 = some (tyJ9 k) := by decide +kernel
abbrev cJ9_max_7cf53 : ByteArray := prog_15_method_65_code
def yJ9_max_7cf53 : MethodName := ⟨RJ9, "max", "(II)I"⟩
abbrev cJ9_min_7cf53 : ByteArray := prog_15_method_69_code
def yJ9_min_7cf53 : MethodName := ⟨RJ9, "min", "(II)I"⟩
def RJ0 : String := "java/lang/String"
def TJ0 : u_T := fun k => match k with
  | _ => ("", "", "", false)
def tyJ0 : Nat → FieldType := fun k => match k with
  | _ => .int
abbrev wsJ00 : List Cond := u_ws RJ0 TJ0 0
theorem nmJ0 : ∀ a, a < 0 → ∀ b, b < 0 → a ≠ b → (TJ0 a).2.1 ≠ (TJ0 b).2.1 := by decide +kernel
theorem tyJ0_ok : ∀ k, k < 0 → parseFieldDescriptor (TJ0 k).2.2.1 = some (tyJ0 k) := by decide +kernel
abbrev cJ0_length_8abf5 : ByteArray := prog_16_method_54_code
def yJ0_length_8abf5 : MethodName := ⟨RJ0, "length", "()I"⟩
abbrev cJ0_charAt_5068e : ByteArray := prog_16_method_56_code
def yJ0_charAt_5068e : MethodName := ⟨RJ0, "charAt", "(I)C"⟩
abbrev cJ0_coder_7d493 : ByteArray := prog_16_method_152_code
def yJ0_coder_7d493 : MethodName := ⟨RJ0, "coder", "()B"⟩
abbrev cJ0_isLatin1_aae02 : ByteArray := prog_16_method_154_code
def yJ0_isLatin1_aae02 : MethodName := ⟨RJ0, "isLatin1", "()Z"⟩
abbrev cJ0_checkIndex_df160 : ByteArray := prog_16_method_155_code
def yJ0_checkIndex_df160 : MethodName := ⟨RJ0, "checkIndex", "(II)V"⟩
def RJ1 : String := "java/lang/StringLatin1"
def TJ1 : u_T := fun k => match k with
  | _ => ("", "", "", false)
def tyJ1 : Nat → FieldType := fun k => match k with
  | _ => .int
abbrev wsJ10 : List Cond := u_ws RJ1 TJ1 0
theorem nmJ1 : ∀ a, a < 0 → ∀ b, b < 0 → a ≠ b → (TJ1 a).2.1 ≠ (TJ1 b).2.1 := by decide +kernel
theorem tyJ1_ok : ∀ k, k < 0 → parseFieldDescriptor (TJ1 k).2.2.1 = some (tyJ1 k) := by decide +kernel
abbrev cJ1_charAt_3b067 : ByteArray := prog_17_method_2_code
def yJ1_charAt_3b067 : MethodName := ⟨RJ1, "charAt", "([BI)C"⟩
def RJ2 : String := "java/lang/StringUTF16"
def TJ2 : u_T := fun k => match k with
  | _ => ("", "", "", false)
def tyJ2 : Nat → FieldType := fun k => match k with
  | _ => .int
abbrev wsJ20 : List Cond := u_ws RJ2 TJ2 0
theorem nmJ2 : ∀ a, a < 0 → ∀ b, b < 0 → a ≠ b → (TJ2 a).2.1 ≠ (TJ2 b).2.1 := by decide +kernel
theorem tyJ2_ok : ∀ k, k < 0 → parseFieldDescriptor (TJ2 k).2.2.1 = some (tyJ2 k) := by decide +kernel
abbrev cJ2_getChar_3b067 : ByteArray := prog_18_method_5_code
def yJ2_getChar_3b067 : MethodName := ⟨RJ2, "getChar", "([BI)C"⟩
abbrev cJ2_length_9d52b : ByteArray := prog_18_method_6_code
def yJ2_length_9d52b : MethodName := ⟨RJ2, "length", "([B)I"⟩
abbrev cJ2_charAt_3b067 : ByteArray := prog_18_method_83_code
def yJ2_charAt_3b067 : MethodName := ⟨RJ2, "charAt", "([BI)C"⟩
abbrev cJ2_checkIndex_2214a : ByteArray := prog_18_method_91_code
def yJ2_checkIndex_2214a : MethodName := ⟨RJ2, "checkIndex", "(I[B)V"⟩
def RJ10 : String := "java/lang/System"
def TJ10 : u_T := fun k => match k with
  | _ => ("", "", "", false)
def tyJ10 : Nat → FieldType := fun k => match k with
  | _ => .int
abbrev wsJ100 : List Cond := u_ws RJ10 TJ10 0
theorem nmJ10 : ∀ a, a < 0 → ∀ b, b < 0 → a ≠ b → (TJ10 a).2.1 ≠ (TJ10 b).2.1 := by decide +kernel
theorem tyJ10_ok : ∀ k, k < 0 → parseFieldDescriptor (TJ10 k).2.2.1 = some (tyJ10 k) := by decide +kernel
def RJ3 : String := "jdk/internal/util/Preconditions"
def TJ3 : u_T := fun k => match k with
  | _ => ("", "", "", false)
def tyJ3 : Nat → FieldType := fun k => match k with
  | _ => .int
abbrev wsJ30 : List Cond := u_ws RJ3 TJ3 0
theorem nmJ3 : ∀ a, a < 0 → ∀ b, b < 0 → a ≠ b → (TJ3 a).2.1 ≠ (TJ3 b).2.1 := by decide +kernel
theorem tyJ3_ok : ∀ k, k < 0 → parseFieldDescriptor (TJ3 k).2.2.1 = some (tyJ3 k) := by decide +kernel
abbrev cJ3_checkIndex_8e157 : ByteArray := prog_20_method_11_code
def yJ3_checkIndex_8e157 : MethodName := ⟨RJ3, "checkIndex", "(IILjava/util/function/BiFunction;)I"⟩
def RL : String := "PressDaysLaw"
abbrev cL_law : ByteArray := code
def yL_law : MethodName := ⟨RL, "law", "([I)Z"⟩
abbrev vwCl : List vw_C := [(RX0, TX0, 1), (RX1, TX1, 9), (RX2, TX2, 9), (RX3, TX3, 7), (RX4, TX4, 6), (RX5, TX5, 6), (RX6, TX6, 3), (RX7, TX7, 6), (RX8, TX8, 8), (RX9, TX9, 6), (RX10, TX10, 8), (RX11, TX11, 14), (RX12, TX12, 54)]
