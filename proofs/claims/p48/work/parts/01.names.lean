-- ===== PART A: goes FIRST, ahead of the names: the tables' words, and 'selects' of the private methods out of them =====
/-- a private method of a class that the tables say can be made, by its rows of tables_1 -/
def lw_okq (q : MethodName × Nat) : Prop := (q.1.cls ≠ "java/lang/invoke/MethodHandle" ∧ q.1.cls ≠ "java/lang/invoke/VarHandle") ∧ Cond.instantiable q.1.cls q.2 ∈ tables_1 ∧ Cond.privateMethod q.1 ∈ tables_1 ∧ Cond.instanceMethod q.1 ∈ tables_1
theorem lw_p0 : lw_okq (⟨"PressDays", "followPlan", "()V"⟩, 14) := ⟨⟨by decide +kernel, by decide +kernel⟩, List.mem_of_getElem? (i := 16) (by decide +kernel), List.mem_of_getElem? (i := 459) (by decide +kernel), List.mem_of_getElem? (i := 460) (by decide +kernel)⟩
theorem lw_p1 : lw_okq (⟨"PressDays$Orders", "leastLost", "(ILPressDays$Jobs;I)I"⟩, 6) := ⟨⟨by decide +kernel, by decide +kernel⟩, List.mem_of_getElem? (i := 218) (by decide +kernel), List.mem_of_getElem? (i := 511) (by decide +kernel), List.mem_of_getElem? (i := 512) (by decide +kernel)⟩
theorem lw_p2 : lw_okq (⟨"PressDays$Orders", "walk", "(LPressDays$Jobs;IIIII)V"⟩, 6) := ⟨⟨by decide +kernel, by decide +kernel⟩, List.mem_of_getElem? (i := 218) (by decide +kernel), List.mem_of_getElem? (i := 516) (by decide +kernel), List.mem_of_getElem? (i := 517) (by decide +kernel)⟩
theorem lw_p3 : lw_okq (⟨"PressDays$Orders", "lossOf", "(LPressDays$Jobs;II)I"⟩, 6) := ⟨⟨by decide +kernel, by decide +kernel⟩, List.mem_of_getElem? (i := 218) (by decide +kernel), List.mem_of_getElem? (i := 525) (by decide +kernel), List.mem_of_getElem? (i := 526) (by decide +kernel)⟩
theorem lw_p4 : lw_okq (⟨"PressDays$Chance", "begin", "(Z)V"⟩, 9) := ⟨⟨by decide +kernel, by decide +kernel⟩, List.mem_of_getElem? (i := 245) (by decide +kernel), List.mem_of_getElem? (i := 574) (by decide +kernel), List.mem_of_getElem? (i := 575) (by decide +kernel)⟩
theorem lw_p5 : lw_okq (⟨"PressDays$Chance", "spread", "(LPressDays$Jobs;III)I"⟩, 9) := ⟨⟨by decide +kernel, by decide +kernel⟩, List.mem_of_getElem? (i := 245) (by decide +kernel), List.mem_of_getElem? (i := 578) (by decide +kernel), List.mem_of_getElem? (i := 579) (by decide +kernel)⟩
theorem lw_p6 : lw_okq (⟨"PressDays$Chance", "walk", "(LPressDays$Jobs;IIII)V"⟩, 9) := ⟨⟨by decide +kernel, by decide +kernel⟩, List.mem_of_getElem? (i := 245) (by decide +kernel), List.mem_of_getElem? (i := 596) (by decide +kernel), List.mem_of_getElem? (i := 597) (by decide +kernel)⟩
theorem lw_p7 : lw_okq (⟨"PressDays$Board", "workSlot", "(I)Z"⟩, 9) := ⟨⟨by decide +kernel, by decide +kernel⟩, List.mem_of_getElem? (i := 24) (by decide +kernel), List.mem_of_getElem? (i := 618) (by decide +kernel), List.mem_of_getElem? (i := 619) (by decide +kernel)⟩
def lw_privs_1 : List (MethodName × Nat) := [(⟨"PressDays", "followPlan", "()V"⟩, 14), (⟨"PressDays$Orders", "leastLost", "(ILPressDays$Jobs;I)I"⟩, 6), (⟨"PressDays$Orders", "walk", "(LPressDays$Jobs;IIIII)V"⟩, 6), (⟨"PressDays$Orders", "lossOf", "(LPressDays$Jobs;II)I"⟩, 6), (⟨"PressDays$Chance", "begin", "(Z)V"⟩, 9), (⟨"PressDays$Chance", "spread", "(LPressDays$Jobs;III)I"⟩, 9), (⟨"PressDays$Chance", "walk", "(LPressDays$Jobs;IIII)V"⟩, 9), (⟨"PressDays$Board", "workSlot", "(I)Z"⟩, 9)]
theorem lw_r1 : ∀ q ∈ lw_privs_1, lw_okq q := List.forall_mem_cons.mpr ⟨lw_p0, List.forall_mem_cons.mpr ⟨lw_p1, List.forall_mem_cons.mpr ⟨lw_p2, List.forall_mem_cons.mpr ⟨lw_p3, List.forall_mem_cons.mpr ⟨lw_p4, List.forall_mem_cons.mpr ⟨lw_p5, List.forall_mem_cons.mpr ⟨lw_p6, List.forall_mem_cons.mpr ⟨lw_p7, fun _ h => absurd h List.not_mem_nil⟩⟩⟩⟩⟩⟩⟩⟩
def lw_privs : List (MethodName × Nat) := lw_privs_1
def lw_tbl : List Cond := k2_sels lw_privs ++ tables_1
theorem lw_privs_ok : ∀ q ∈ lw_privs, lw_okq q := lw_r1

def RX0 : String := "PressDays$Ahead"
def TX0 : u_T := fun k => match k with
  | _ => ("PressDays$Ahead", "orders", "LPressDays$Orders;", true)
def tyX0 : Nat → FieldType := fun k => match k with
  | _ => .object "PressDays$Orders"
abbrev wsX00 : List Cond := u_ws RX0 TX0 1
theorem nmX0 : ∀ a, a < 1 → ∀ b, b < 1 → a ≠ b → (TX0 a).2.1 ≠ (TX0 b).2.1 := by decide +kernel
theorem tyX0_ok : ∀ k, k < 1 → parseFieldDescriptor (TX0 k).2.2.1 = some (tyX0 k) := by decide +kernel
abbrev cX0_init : ByteArray := prog_2_method_1_code
def yX0_init : MethodName := ⟨RX0, "<init>", "(LPressDays$Orders;)V"⟩
def RX1 : String := "PressDays$Board"
def TX1 : u_T := fun k => match k with
  | 0 => ("PressDays$Board", "jobs", "LPressDays$Jobs;", true)
  | 1 => ("PressDays$Board", "law", "[I", true)
  | 2 => ("PressDays$Board", "lost", "[I", true)
  | 3 => ("PressDays$Board", "nightly", "[I", true)
  | 4 => ("PressDays$Board", "order", "[I", true)
  | 5 => ("PressDays$Board", "day", "I", false)
  | 6 => ("PressDays$Board", "colour", "I", false)
  | 7 => ("PressDays$Board", "left", "I", false)
  | _ => ("PressDays$Board", "till", "I", false)
def tyX1 : Nat → FieldType := fun k => match k with
  | 0 => .object "PressDays$Jobs"
  | 1 => .array .int
  | 2 => .array .int
  | 3 => .array .int
  | 4 => .array .int
  | 5 => .int
  | 6 => .int
  | 7 => .int
  | _ => .int
abbrev wsX10 : List Cond := u_ws RX1 TX1 9
theorem nmX1 : ∀ a, a < 9 → ∀ b, b < 9 → a ≠ b → (TX1 a).2.1 ≠ (TX1 b).2.1 := by decide +kernel
theorem tyX1_ok : ∀ k, k < 9 → parseFieldDescriptor (TX1 k).2.2.1 = some (tyX1 k) := by decide +kernel
abbrev cX1_init : ByteArray := prog_3_method_1_code
def yX1_init : MethodName := ⟨RX1, "<init>", "()V"⟩
abbrev cX1_slotsOn : ByteArray := prog_3_method_2_code
def yX1_slotsOn : MethodName := ⟨RX1, "slotsOn", "(I)I"⟩
abbrev cX1_come : ByteArray := prog_3_method_4_code
def yX1_come : MethodName := ⟨RX1, "come", "(IIIII)I"⟩
abbrev cX1_leave : ByteArray := prog_3_method_5_code
def yX1_leave : MethodName := ⟨RX1, "leave", "(I)V"⟩
abbrev cX1_arrange : ByteArray := prog_3_method_6_code
def yX1_arrange : MethodName := ⟨RX1, "arrange", "(I)Z"⟩
abbrev cX1_workDay : ByteArray := prog_3_method_7_code
def yX1_workDay : MethodName := ⟨RX1, "workDay", "()I"⟩
abbrev cX1_workSlot : ByteArray := prog_3_method_8_code
def yX1_workSlot : MethodName := ⟨RX1, "workSlot", "(I)Z"⟩
abbrev cX1_copy : ByteArray := prog_3_method_9_code
def yX1_copy : MethodName := ⟨RX1, "copy", "(LPressDays$Board;)V"⟩
def RX2 : String := "PressDays$Chance"
def TX2 : u_T := fun k => match k with
  | 0 => ("PressDays$Chance", "course", "LPressDays$Course;", true)
  | 1 => ("PressDays$Chance", "used", "[I", true)
  | 2 => ("PressDays$Chance", "weight", "[I", true)
  | 3 => ("PressDays$Chance", "size", "[I", true)
  | 4 => ("PressDays$Chance", "order", "[I", true)
  | 5 => ("PressDays$Chance", "chosen", "[I", true)
  | 6 => ("PressDays$Chance", "lateToo", "Z", false)
  | 7 => ("PressDays$Chance", "earned", "I", false)
  | _ => ("PressDays$Chance", "most", "I", false)
def tyX2 : Nat → FieldType := fun k => match k with
  | 0 => .object "PressDays$Course"
  | 1 => .array .int
  | 2 => .array .int
  | 3 => .array .int
  | 4 => .array .int
  | 5 => .array .int
  | 6 => .boolean
  | 7 => .int
  | _ => .int
abbrev wsX20 : List Cond := u_ws RX2 TX2 9
theorem nmX2 : ∀ a, a < 9 → ∀ b, b < 9 → a ≠ b → (TX2 a).2.1 ≠ (TX2 b).2.1 := by decide +kernel
theorem tyX2_ok : ∀ k, k < 9 → parseFieldDescriptor (TX2 k).2.2.1 = some (tyX2 k) := by decide +kernel
abbrev cX2_init : ByteArray := prog_4_method_1_code
def yX2_init : MethodName := ⟨RX2, "<init>", "(LPressDays$Course;)V"⟩
abbrev cX2_sureOf : ByteArray := prog_4_method_2_code
def yX2_sureOf : MethodName := ⟨RX2, "sureOf", "(LPressDays$Jobs;[I)I"⟩
abbrev cX2_meanOf : ByteArray := prog_4_method_3_code
def yX2_meanOf : MethodName := ⟨RX2, "meanOf", "(LPressDays$Jobs;[I)I"⟩
abbrev cX2_surest : ByteArray := prog_4_method_4_code
def yX2_surest : MethodName := ⟨RX2, "surest", "(LPressDays$Jobs;)I"⟩
abbrev cX2_begin : ByteArray := prog_4_method_5_code
def yX2_begin : MethodName := ⟨RX2, "begin", "(Z)V"⟩
abbrev cX2_walk : ByteArray := prog_4_method_6_code
def yX2_walk : MethodName := ⟨RX2, "walk", "(LPressDays$Jobs;IIII)V"⟩
abbrev cX2_spread : ByteArray := prog_4_method_7_code
def yX2_spread : MethodName := ⟨RX2, "spread", "(LPressDays$Jobs;III)I"⟩
def RX3 : String := "PressDays$Course"
def TX3 : u_T := fun k => match k with
  | 0 => ("PressDays$Course", "dayOf", "[I", true)
  | 1 => ("PressDays$Course", "endOf", "[I", true)
  | 2 => ("PressDays$Course", "fine", "I", false)
  | 3 => ("PressDays$Course", "odds", "I", false)
  | 4 => ("PressDays$Course", "setting", "I", false)
  | 5 => ("PressDays$Course", "colour", "I", false)
  | _ => ("PressDays$Course", "left", "I", false)
def tyX3 : Nat → FieldType := fun k => match k with
  | 0 => .array .int
  | 1 => .array .int
  | 2 => .int
  | 3 => .int
  | 4 => .int
  | 5 => .int
  | _ => .int
abbrev wsX30 : List Cond := u_ws RX3 TX3 7
theorem nmX3 : ∀ a, a < 7 → ∀ b, b < 7 → a ≠ b → (TX3 a).2.1 ≠ (TX3 b).2.1 := by decide +kernel
theorem tyX3_ok : ∀ k, k < 7 → parseFieldDescriptor (TX3 k).2.2.1 = some (tyX3 k) := by decide +kernel
abbrev cX3_init : ByteArray := prog_5_method_1_code
def yX3_init : MethodName := ⟨RX3, "<init>", "()V"⟩
abbrev cX3_measure : ByteArray := prog_5_method_2_code
def yX3_measure : MethodName := ⟨RX3, "measure", "(LPressDays$Board;I)V"⟩
abbrev cX3_usedBehind : ByteArray := prog_5_method_3_code
def yX3_usedBehind : MethodName := ⟨RX3, "usedBehind", "(IILPressDays$Jobs;I)I"⟩
abbrev cX3_dayAt : ByteArray := prog_5_method_4_code
def yX3_dayAt : MethodName := ⟨RX3, "dayAt", "(I)I"⟩
abbrev cX3_follow : ByteArray := prog_5_method_5_code
def yX3_follow : MethodName := ⟨RX3, "follow", "(LPressDays$Jobs;[I)V"⟩
def RX4 : String := "PressDays$Jobs"
def TX4 : u_T := fun k => match k with
  | 0 => ("PressDays$Jobs", "count", "I", false)
  | 1 => ("PressDays$Jobs", "kind", "[I", true)
  | 2 => ("PressDays$Jobs", "rest", "[I", true)
  | 3 => ("PressDays$Jobs", "colour", "[I", true)
  | 4 => ("PressDays$Jobs", "by", "[I", true)
  | _ => ("PressDays$Jobs", "price", "[I", true)
def tyX4 : Nat → FieldType := fun k => match k with
  | 0 => .int
  | 1 => .array .int
  | 2 => .array .int
  | 3 => .array .int
  | 4 => .array .int
  | _ => .array .int
abbrev wsX40 : List Cond := u_ws RX4 TX4 6
theorem nmX4 : ∀ a, a < 6 → ∀ b, b < 6 → a ≠ b → (TX4 a).2.1 ≠ (TX4 b).2.1 := by decide +kernel
theorem tyX4_ok : ∀ k, k < 6 → parseFieldDescriptor (TX4 k).2.2.1 = some (tyX4 k) := by decide +kernel
abbrev cX4_init : ByteArray := prog_6_method_1_code
def yX4_init : MethodName := ⟨RX4, "<init>", "()V"⟩
abbrev cX4_has : ByteArray := prog_6_method_2_code
def yX4_has : MethodName := ⟨RX4, "has", "(I)Z"⟩
abbrev cX4_add : ByteArray := prog_6_method_3_code
def yX4_add : MethodName := ⟨RX4, "add", "(IIIII)V"⟩
abbrev cX4_remove : ByteArray := prog_6_method_4_code
def yX4_remove : MethodName := ⟨RX4, "remove", "(I)V"⟩
abbrev cX4_copy : ByteArray := prog_6_method_5_code
def yX4_copy : MethodName := ⟨RX4, "copy", "(LPressDays$Jobs;)V"⟩
abbrev cX4_valueOf : ByteArray := prog_6_method_6_code
def yX4_valueOf : MethodName := ⟨RX4, "valueOf", "(III)I"⟩
def RX5 : String := "PressDays$Orders"
def TX5 : u_T := fun k => match k with
  | 0 => ("PressDays$Orders", "course", "LPressDays$Course;", true)
  | 1 => ("PressDays$Orders", "order", "[I", true)
  | 2 => ("PressDays$Orders", "chosen", "[I", true)
  | 3 => ("PressDays$Orders", "aim", "I", false)
  | 4 => ("PressDays$Orders", "many", "I", false)
  | _ => ("PressDays$Orders", "least", "I", false)
def tyX5 : Nat → FieldType := fun k => match k with
  | 0 => .object "PressDays$Course"
  | 1 => .array .int
  | 2 => .array .int
  | 3 => .int
  | 4 => .int
  | _ => .int
abbrev wsX50 : List Cond := u_ws RX5 TX5 6
theorem nmX5 : ∀ a, a < 6 → ∀ b, b < 6 → a ≠ b → (TX5 a).2.1 ≠ (TX5 b).2.1 := by decide +kernel
theorem tyX5_ok : ∀ k, k < 6 → parseFieldDescriptor (TX5 k).2.2.1 = some (tyX5 k) := by decide +kernel
abbrev cX5_init : ByteArray := prog_7_method_1_code
def yX5_init : MethodName := ⟨RX5, "<init>", "(LPressDays$Course;)V"⟩
abbrev cX5_mostWorth : ByteArray := prog_7_method_2_code
def yX5_mostWorth : MethodName := ⟨RX5, "mostWorth", "(LPressDays$Jobs;I)I"⟩
abbrev cX5_fewestLate : ByteArray := prog_7_method_3_code
def yX5_fewestLate : MethodName := ⟨RX5, "fewestLate", "(LPressDays$Jobs;)I"⟩
abbrev cX5_soonestEnd : ByteArray := prog_7_method_4_code
def yX5_soonestEnd : MethodName := ⟨RX5, "soonestEnd", "(LPressDays$Jobs;)I"⟩
abbrev cX5_leastLost : ByteArray := prog_7_method_5_code
def yX5_leastLost : MethodName := ⟨RX5, "leastLost", "(ILPressDays$Jobs;I)I"⟩
abbrev cX5_walk : ByteArray := prog_7_method_6_code
def yX5_walk : MethodName := ⟨RX5, "walk", "(LPressDays$Jobs;IIIII)V"⟩
abbrev cX5_lossOf : ByteArray := prog_7_method_7_code
def yX5_lossOf : MethodName := ⟨RX5, "lossOf", "(LPressDays$Jobs;II)I"⟩
def RX6 : String := "PressDays$Rows"
def TX6 : u_T := fun k => match k with
  | 0 => ("PressDays$Rows", "course", "LPressDays$Course;", true)
  | 1 => ("PressDays$Rows", "cell", "[I", true)
  | _ => ("PressDays$Rows", "count", "I", false)
def tyX6 : Nat → FieldType := fun k => match k with
  | 0 => .object "PressDays$Course"
  | 1 => .array .int
  | _ => .int
abbrev wsX60 : List Cond := u_ws RX6 TX6 3
theorem nmX6 : ∀ a, a < 3 → ∀ b, b < 3 → a ≠ b → (TX6 a).2.1 ≠ (TX6 b).2.1 := by decide +kernel
theorem tyX6_ok : ∀ k, k < 3 → parseFieldDescriptor (TX6 k).2.2.1 = some (tyX6 k) := by decide +kernel
abbrev cX6_init : ByteArray := prog_8_method_1_code
def yX6_init : MethodName := ⟨RX6, "<init>", "(LPressDays$Course;)V"⟩
abbrev cX6_has : ByteArray := prog_8_method_2_code
def yX6_has : MethodName := ⟨RX6, "has", "(II)Z"⟩
abbrev cX6_fill : ByteArray := prog_8_method_3_code
def yX6_fill : MethodName := ⟨RX6, "fill", "(LPressDays$Jobs;[I)V"⟩
abbrev cX6_firstWrong : ByteArray := prog_8_method_4_code
def yX6_firstWrong : MethodName := ⟨RX6, "firstWrong", "(LPressDays$Jobs;)I"⟩
def RX7 : String := "PressDays$Shelves"
def TX7 : u_T := fun k => match k with
  | 0 => ("PressDays$Shelves", "sheetSort", "[I", true)
  | 1 => ("PressDays$Shelves", "sheetSize", "[I", true)
  | 2 => ("PressDays$Shelves", "item", "[I", true)
  | 3 => ("PressDays$Shelves", "holds", "[I", true)
  | 4 => ("PressDays$Shelves", "shelfSort", "[I", true)
  | _ => ("PressDays$Shelves", "shelfNumber", "[I", true)
def tyX7 : Nat → FieldType := fun k => match k with
  | 0 => .array .int
  | 1 => .array .int
  | 2 => .array .int
  | 3 => .array .int
  | 4 => .array .int
  | _ => .array .int
abbrev wsX70 : List Cond := u_ws RX7 TX7 6
theorem nmX7 : ∀ a, a < 6 → ∀ b, b < 6 → a ≠ b → (TX7 a).2.1 ≠ (TX7 b).2.1 := by decide +kernel
theorem tyX7_ok : ∀ k, k < 6 → parseFieldDescriptor (TX7 k).2.2.1 = some (tyX7 k) := by decide +kernel
abbrev cX7_init : ByteArray := prog_9_method_1_code
def yX7_init : MethodName := ⟨RX7, "<init>", "()V"⟩
def RX8 : String := "PressDays$Text"
def TX8 : u_T := fun k => match k with
  | 0 => ("PressDays$Text", "tape", "[B", true)
  | 1 => ("PressDays$Text", "count", "I", false)
  | 2 => ("PressDays$Text", "jobs", "LPressDays$Jobs;", true)
  | 3 => ("PressDays$Text", "law", "[I", true)
  | 4 => ("PressDays$Text", "sort", "I", false)
  | 5 => ("PressDays$Text", "start", "I", false)
  | 6 => ("PressDays$Text", "behind", "I", false)
  | _ => ("PressDays$Text", "value", "I", false)
def tyX8 : Nat → FieldType := fun k => match k with
  | 0 => .array .byte
  | 1 => .int
  | 2 => .object "PressDays$Jobs"
  | 3 => .array .int
  | 4 => .int
  | 5 => .int
  | 6 => .int
  | _ => .int
abbrev wsX80 : List Cond := u_ws RX8 TX8 8
theorem nmX8 : ∀ a, a < 8 → ∀ b, b < 8 → a ≠ b → (TX8 a).2.1 ≠ (TX8 b).2.1 := by decide +kernel
theorem tyX8_ok : ∀ k, k < 8 → parseFieldDescriptor (TX8 k).2.2.1 = some (tyX8 k) := by decide +kernel
abbrev cX8_init : ByteArray := prog_10_method_1_code
def yX8_init : MethodName := ⟨RX8, "<init>", "()V"⟩
def RX9 : String := "PressDays$Thing"
def TX9 : u_T := fun k => match k with
  | 0 => ("PressDays$Thing", "kind", "I", false)
  | 1 => ("PressDays$Thing", "n", "I", false)
  | 2 => ("PressDays$Thing", "a", "I", false)
  | 3 => ("PressDays$Thing", "isParted", "Z", false)
  | 4 => ("PressDays$Thing", "body", "[I", true)
  | _ => ("PressDays$Thing", "ran", "I", false)
def tyX9 : Nat → FieldType := fun k => match k with
  | 0 => .int
  | 1 => .int
  | 2 => .int
  | 3 => .boolean
  | 4 => .array .int
  | _ => .int
abbrev wsX90 : List Cond := u_ws RX9 TX9 6
theorem nmX9 : ∀ a, a < 6 → ∀ b, b < 6 → a ≠ b → (TX9 a).2.1 ≠ (TX9 b).2.1 := by decide +kernel
theorem tyX9_ok : ∀ k, k < 6 → parseFieldDescriptor (TX9 k).2.2.1 = some (tyX9 k) := by decide +kernel
abbrev cX9_init : ByteArray := prog_11_method_1_code
def yX9_init : MethodName := ⟨RX9, "<init>", "()V"⟩
def RX10 : String := "PressDays$Types"
def TX10 : u_T := fun k => match k with
  | 0 => ("PressDays$Types", "count", "I", false)
  | 1 => ("PressDays$Types", "z", "I", false)
  | 2 => ("PressDays$Types", "kind", "[I", true)
  | 3 => ("PressDays$Types", "slots", "[I", true)
  | 4 => ("PressDays$Types", "colour", "[I", true)
  | 5 => ("PressDays$Types", "patience", "[I", true)
  | 6 => ("PressDays$Types", "price", "[I", true)
  | _ => ("PressDays$Types", "odds", "[I", true)
def tyX10 : Nat → FieldType := fun k => match k with
  | 0 => .int
  | 1 => .int
  | 2 => .array .int
  | 3 => .array .int
  | 4 => .array .int
  | 5 => .array .int
  | 6 => .array .int
  | _ => .array .int
abbrev wsX100 : List Cond := u_ws RX10 TX10 8
theorem nmX10 : ∀ a, a < 8 → ∀ b, b < 8 → a ≠ b → (TX10 a).2.1 ≠ (TX10 b).2.1 := by decide +kernel
theorem tyX10_ok : ∀ k, k < 8 → parseFieldDescriptor (TX10 k).2.2.1 = some (tyX10 k) := by decide +kernel
abbrev cX10_init : ByteArray := prog_12_method_1_code
def yX10_init : MethodName := ⟨RX10, "<init>", "()V"⟩
abbrev cX10_copy : ByteArray := prog_12_method_5_code
def yX10_copy : MethodName := ⟨RX10, "copy", "(LPressDays$Types;)V"⟩
def RX11 : String := "PressDays"
def TX11 : u_T := fun k => match k with
  | 0 => ("PressDays", "now", "LPressDays$Board;", true)
  | 1 => ("PressDays", "keptBoard", "LPressDays$Board;", true)
  | 2 => ("PressDays", "types", "LPressDays$Types;", true)
  | 3 => ("PressDays", "keptTypes", "LPressDays$Types;", true)
  | 4 => ("PressDays", "isKept", "Z", false)
  | 5 => ("PressDays", "text", "LPressDays$Text;", true)
  | 6 => ("PressDays", "course", "LPressDays$Course;", true)
  | 7 => ("PressDays", "orders", "LPressDays$Orders;", true)
  | 8 => ("PressDays", "chance", "LPressDays$Chance;", true)
  | 9 => ("PressDays", "calls", "LPressDays$Ahead;", true)
  | 10 => ("PressDays", "rows", "LPressDays$Rows;", true)
  | 11 => ("PressDays", "trial", "LPressDays$Jobs;", true)
  | 12 => ("PressDays", "shelves", "LPressDays$Shelves;", true)
  | _ => ("PressDays", "thing", "LPressDays$Thing;", true)
def tyX11 : Nat → FieldType := fun k => match k with
  | 0 => .object "PressDays$Board"
  | 1 => .object "PressDays$Board"
  | 2 => .object "PressDays$Types"
  | 3 => .object "PressDays$Types"
  | 4 => .boolean
  | 5 => .object "PressDays$Text"
  | 6 => .object "PressDays$Course"
  | 7 => .object "PressDays$Orders"
  | 8 => .object "PressDays$Chance"
  | 9 => .object "PressDays$Ahead"
  | 10 => .object "PressDays$Rows"
  | 11 => .object "PressDays$Jobs"
  | 12 => .object "PressDays$Shelves"
  | _ => .object "PressDays$Thing"
abbrev wsX110 : List Cond := u_ws RX11 TX11 14
theorem nmX11 : ∀ a, a < 14 → ∀ b, b < 14 → a ≠ b → (TX11 a).2.1 ≠ (TX11 b).2.1 := by decide +kernel
theorem tyX11_ok : ∀ k, k < 14 → parseFieldDescriptor (TX11 k).2.2.1 = some (tyX11 k) := by decide +kernel
abbrev cX11_init : ByteArray := prog_1_method_1_code
def yX11_init : MethodName := ⟨RX11, "<init>", "()V"⟩
abbrev cX11_job : ByteArray := prog_1_method_4_code
def yX11_job : MethodName := ⟨RX11, "job", "(IIIII)I"⟩
abbrev cX11_drop : ByteArray := prog_1_method_6_code
def yX11_drop : MethodName := ⟨RX11, "drop", "(I)I"⟩
abbrev cX11_set : ByteArray := prog_1_method_7_code
def yX11_set : MethodName := ⟨RX11, "set", "(II)I"⟩
abbrev cX11_lose : ByteArray := prog_1_method_8_code
def yX11_lose : MethodName := ⟨RX11, "lose", "(II)I"⟩
abbrev cX11_night : ByteArray := prog_1_method_9_code
def yX11_night : MethodName := ⟨RX11, "night", "(II)I"⟩
abbrev cX11_plan : ByteArray := prog_1_method_11_code
def yX11_plan : MethodName := ⟨RX11, "plan", "(I)I"⟩
abbrev cX11_press : ByteArray := prog_1_method_13_code
def yX11_press : MethodName := ⟨RX11, "press", "(I)I"⟩
abbrev cX11_ends : ByteArray := prog_1_method_14_code
def yX11_ends : MethodName := ⟨RX11, "ends", "(I)I"⟩
abbrev cX11_late : ByteArray := prog_1_method_15_code
def yX11_late : MethodName := ⟨RX11, "late", "()I"⟩
abbrev cX11_worth : ByteArray := prog_1_method_16_code
def yX11_worth : MethodName := ⟨RX11, "worth", "()I"⟩
abbrev cX11_best : ByteArray := prog_1_method_17_code
def yX11_best : MethodName := ⟨RX11, "best", "(I)I"⟩
abbrev cX11_fewest : ByteArray := prog_1_method_18_code
def yX11_fewest : MethodName := ⟨RX11, "fewest", "()I"⟩
abbrev cX11_soonest : ByteArray := prog_1_method_19_code
def yX11_soonest : MethodName := ⟨RX11, "soonest", "(III)I"⟩
abbrev cX11_gain : ByteArray := prog_1_method_20_code
def yX11_gain : MethodName := ⟨RX11, "gain", "(IIIII)I"⟩
abbrev cX11_across : ByteArray := prog_1_method_21_code
def yX11_across : MethodName := ⟨RX11, "across", "(I)I"⟩
abbrev cX11_nights : ByteArray := prog_1_method_22_code
def yX11_nights : MethodName := ⟨RX11, "nights", "()I"⟩
abbrev cX11_sure : ByteArray := prog_1_method_23_code
def yX11_sure : MethodName := ⟨RX11, "sure", "(I)I"⟩
abbrev cX11_safest : ByteArray := prog_1_method_24_code
def yX11_safest : MethodName := ⟨RX11, "safest", "(I)I"⟩
abbrev cX11_mean : ByteArray := prog_1_method_25_code
def yX11_mean : MethodName := ⟨RX11, "mean", "(I)I"⟩
abbrev cX11_goes : ByteArray := prog_1_method_31_code
def yX11_goes : MethodName := ⟨RX11, "goes", "()I"⟩
abbrev cX11_till : ByteArray := prog_1_method_32_code
def yX11_till : MethodName := ⟨RX11, "till", "()I"⟩
abbrev cX11_prove : ByteArray := prog_1_method_33_code
def yX11_prove : MethodName := ⟨RX11, "prove", "()I"⟩
abbrev cX11_row : ByteArray := prog_1_method_34_code
def yX11_row : MethodName := ⟨RX11, "row", "(II)I"⟩
abbrev cX11_judge : ByteArray := prog_1_method_36_code
def yX11_judge : MethodName := ⟨RX11, "judge", "()I"⟩
abbrev cX11_many : ByteArray := prog_1_method_44_code
def yX11_many : MethodName := ⟨RX11, "many", "(I)I"⟩
abbrev cX11_keep : ByteArray := prog_1_method_45_code
def yX11_keep : MethodName := ⟨RX11, "keep", "()I"⟩
abbrev cX11_again : ByteArray := prog_1_method_46_code
def yX11_again : MethodName := ⟨RX11, "again", "()I"⟩
abbrev cX11_followPlan : ByteArray := prog_1_method_47_code
def yX11_followPlan : MethodName := ⟨RX11, "followPlan", "()V"⟩
abbrev cX11_within : ByteArray := prog_1_method_48_code
def yX11_within : MethodName := ⟨RX11, "within", "(III)Z"⟩
abbrev cX11_isJob : ByteArray := prog_1_method_49_code
def yX11_isJob : MethodName := ⟨RX11, "isJob", "(IIIII)Z"⟩
abbrev cX11_digitsOf : ByteArray := prog_1_method_51_code
def yX11_digitsOf : MethodName := ⟨RX11, "digitsOf", "([II)I"⟩
abbrev cX11_partOf : ByteArray := prog_1_method_52_code
def yX11_partOf : MethodName := ⟨RX11, "partOf", "(III)I"⟩
def RX12 : String := "PressDaysModel"
def TX12 : u_T := fun k => match k with
  | _ => ("", "", "", false)
def tyX12 : Nat → FieldType := fun k => match k with
  | _ => .int
abbrev wsX120 : List Cond := u_ws RX12 TX12 0
theorem nmX12 : ∀ a, a < 0 → ∀ b, b < 0 → a ≠ b → (TX12 a).2.1 ≠ (TX12 b).2.1 := by decide +kernel
theorem tyX12_ok : ∀ k, k < 0 → parseFieldDescriptor (TX12 k).2.2.1 = some (tyX12 k) := by decide +kernel
def RJ9 : String := "java/lang/Math"
def TJ9 : u_T := fun k => match k with
  | _ => ("", "", "", false)
def tyJ9 : Nat → FieldType := fun k => match k with
  | _ => .int
abbrev wsJ90 : List Cond := u_ws RJ9 TJ9 0
theorem nmJ9 : ∀ a, a < 0 → ∀ b, b < 0 → a ≠ b → (TJ9 a).2.1 ≠ (TJ9 b).2.1 := by decide +kernel
theorem tyJ9_ok : ∀ k, k < 0 → parseFieldDescriptor (TJ9 k).2.2.1 = some (tyJ9 k) := by decide +kernel
abbrev cJ9_max_7cf53 : ByteArray := prog_15_method_65_code
def yJ9_max_7cf53 : MethodName := ⟨RJ9, "max", "(II)I"⟩
abbrev cJ9_min_7cf53 : ByteArray := prog_15_method_69_code
def yJ9_min_7cf53 : MethodName := ⟨RJ9, "min", "(II)I"⟩
def RJ10 : String := "java/lang/System"
def TJ10 : u_T := fun k => match k with
  | _ => ("", "", "", false)
def tyJ10 : Nat → FieldType := fun k => match k with
  | _ => .int
abbrev wsJ100 : List Cond := u_ws RJ10 TJ10 0
theorem nmJ10 : ∀ a, a < 0 → ∀ b, b < 0 → a ≠ b → (TJ10 a).2.1 ≠ (TJ10 b).2.1 := by decide +kernel
theorem tyJ10_ok : ∀ k, k < 0 → parseFieldDescriptor (TJ10 k).2.2.1 = some (tyJ10 k) := by decide +kernel
def RL : String := "PressDaysLaw"
abbrev cL_mod : ByteArray := method_2_code
def yL_mod : MethodName := ⟨RL, "mod", "(II)I"⟩
abbrev cL_at : ByteArray := method_3_code
def yL_at : MethodName := ⟨RL, "at", "([II)I"⟩
abbrev cL_isOrder : ByteArray := method_9_code
def yL_isOrder : MethodName := ⟨RL, "isOrder", "(II)Z"⟩
abbrev cL_lay : ByteArray := method_11_code
def yL_lay : MethodName := ⟨RL, "lay", "(LPressDays;[II[I[I[I[I)I"⟩
abbrev cL_law : ByteArray := code
def yL_law : MethodName := ⟨RL, "law", "([I)Z"⟩
abbrev vwCl : List vw_C := [(RX0, TX0, 1), (RX1, TX1, 9), (RX2, TX2, 9), (RX3, TX3, 7), (RX4, TX4, 6), (RX5, TX5, 6), (RX6, TX6, 3), (RX7, TX7, 6), (RX8, TX8, 8), (RX9, TX9, 6), (RX10, TX10, 8), (RX11, TX11, 14)]
