section
-- ===== PART A: goes FIRST, ahead of the names: the tables' words, and 'selects' of the private methods out of them =====
/-- a private method of a class that the tables say can be made, by its rows of tables_1 -/
def lw_okq (q : MethodName × Nat) : Prop := (q.1.cls ≠ "java/lang/invoke/MethodHandle" ∧ q.1.cls ≠ "java/lang/invoke/VarHandle") ∧ Cond.instantiable q.1.cls q.2 ∈ tables_1 ∧ Cond.privateMethod q.1 ∈ tables_1 ∧ Cond.instanceMethod q.1 ∈ tables_1
theorem lw_p0 : lw_okq (⟨"HeatDown$Pad", "keepHour", "(III)V"⟩, 5) := ⟨⟨by decide +kernel, by decide +kernel⟩, List.mem_of_getElem? (i := 21) (by decide +kernel), List.mem_of_getElem? (i := 337) (by decide +kernel), List.mem_of_getElem? (i := 338) (by decide +kernel)⟩
theorem lw_p1 : lw_okq (⟨"HeatDown", "isNoHouse", "(I)Z"⟩, 10) := ⟨⟨by decide +kernel, by decide +kernel⟩, List.mem_of_getElem? (i := 13) (by decide +kernel), List.mem_of_getElem? (i := 363) (by decide +kernel), List.mem_of_getElem? (i := 364) (by decide +kernel)⟩
theorem lw_p2 : lw_okq (⟨"HeatDown", "areNoBrooks", "(I)Z"⟩, 10) := ⟨⟨by decide +kernel, by decide +kernel⟩, List.mem_of_getElem? (i := 13) (by decide +kernel), List.mem_of_getElem? (i := 387) (by decide +kernel), List.mem_of_getElem? (i := 388) (by decide +kernel)⟩
theorem lw_p3 : lw_okq (⟨"HeatDown", "areNoDraws", "(I)Z"⟩, 10) := ⟨⟨by decide +kernel, by decide +kernel⟩, List.mem_of_getElem? (i := 13) (by decide +kernel), List.mem_of_getElem? (i := 395) (by decide +kernel), List.mem_of_getElem? (i := 396) (by decide +kernel)⟩
theorem lw_p4 : lw_okq (⟨"HeatDown$Course", "meetHouse", "(IIIIZ)I"⟩, 8) := ⟨⟨by decide +kernel, by decide +kernel⟩, List.mem_of_getElem? (i := 133) (by decide +kernel), List.mem_of_getElem? (i := 425) (by decide +kernel), List.mem_of_getElem? (i := 426) (by decide +kernel)⟩
theorem lw_p5 : lw_okq (⟨"HeatDown", "planAsItIs", "(I)V"⟩, 10) := ⟨⟨by decide +kernel, by decide +kernel⟩, List.mem_of_getElem? (i := 13) (by decide +kernel), List.mem_of_getElem? (i := 477) (by decide +kernel), List.mem_of_getElem? (i := 478) (by decide +kernel)⟩
theorem lw_p6 : lw_okq (⟨"HeatDown$PlanSearch", "sumWorthBehind", "()V"⟩, 8) := ⟨⟨by decide +kernel, by decide +kernel⟩, List.mem_of_getElem? (i := 169) (by decide +kernel), List.mem_of_getElem? (i := 490) (by decide +kernel), List.mem_of_getElem? (i := 491) (by decide +kernel)⟩
theorem lw_p7 : lw_okq (⟨"HeatDown$PlanSearch", "offer", "(II)V"⟩, 8) := ⟨⟨by decide +kernel, by decide +kernel⟩, List.mem_of_getElem? (i := 169) (by decide +kernel), List.mem_of_getElem? (i := 505) (by decide +kernel), List.mem_of_getElem? (i := 506) (by decide +kernel)⟩
theorem lw_p8 : lw_okq (⟨"HeatDown$PlanSearch", "mayWin", "(I)Z"⟩, 8) := ⟨⟨by decide +kernel, by decide +kernel⟩, List.mem_of_getElem? (i := 169) (by decide +kernel), List.mem_of_getElem? (i := 510) (by decide +kernel), List.mem_of_getElem? (i := 511) (by decide +kernel)⟩
theorem lw_p9 : lw_okq (⟨"HeatDown", "searchMoss", "(II)I"⟩, 10) := ⟨⟨by decide +kernel, by decide +kernel⟩, List.mem_of_getElem? (i := 13) (by decide +kernel), List.mem_of_getElem? (i := 524) (by decide +kernel), List.mem_of_getElem? (i := 525) (by decide +kernel)⟩
theorem lw_p10 : lw_okq (⟨"HeatDown", "searchPlace", "(II)I"⟩, 10) := ⟨⟨by decide +kernel, by decide +kernel⟩, List.mem_of_getElem? (i := 13) (by decide +kernel), List.mem_of_getElem? (i := 564) (by decide +kernel), List.mem_of_getElem? (i := 565) (by decide +kernel)⟩
theorem lw_p11 : lw_okq (⟨"HeatDown$OrderSearch", "worthLeft", "(I)I"⟩, 5) := ⟨⟨by decide +kernel, by decide +kernel⟩, List.mem_of_getElem? (i := 206) (by decide +kernel), List.mem_of_getElem? (i := 580) (by decide +kernel), List.mem_of_getElem? (i := 581) (by decide +kernel)⟩
theorem lw_p12 : lw_okq (⟨"HeatDown", "gatherFitting", "(II)I"⟩, 10) := ⟨⟨by decide +kernel, by decide +kernel⟩, List.mem_of_getElem? (i := 13) (by decide +kernel), List.mem_of_getElem? (i := 611) (by decide +kernel), List.mem_of_getElem? (i := 612) (by decide +kernel)⟩
theorem lw_p13 : lw_okq (⟨"HeatDown", "mostAlike", "(II)I"⟩, 10) := ⟨⟨by decide +kernel, by decide +kernel⟩, List.mem_of_getElem? (i := 13) (by decide +kernel), List.mem_of_getElem? (i := 631) (by decide +kernel), List.mem_of_getElem? (i := 632) (by decide +kernel)⟩
theorem lw_p14 : lw_okq (⟨"HeatDown", "imageOf", "(I)LHeatDown$Valley;"⟩, 10) := ⟨⟨by decide +kernel, by decide +kernel⟩, List.mem_of_getElem? (i := 13) (by decide +kernel), List.mem_of_getElem? (i := 649) (by decide +kernel), List.mem_of_getElem? (i := 650) (by decide +kernel)⟩
theorem lw_p15 : lw_okq (⟨"HeatDownModel", "layKind", "(IIIII)V"⟩, 23) := ⟨⟨by decide +kernel, by decide +kernel⟩, List.mem_of_getElem? (i := 673) (by decide +kernel), List.mem_of_getElem? (i := 679) (by decide +kernel), List.mem_of_getElem? (i := 680) (by decide +kernel)⟩
def lw_privs_1 : List (MethodName × Nat) := [(⟨"HeatDown$Pad", "keepHour", "(III)V"⟩, 5), (⟨"HeatDown", "isNoHouse", "(I)Z"⟩, 10), (⟨"HeatDown", "areNoBrooks", "(I)Z"⟩, 10), (⟨"HeatDown", "areNoDraws", "(I)Z"⟩, 10), (⟨"HeatDown$Course", "meetHouse", "(IIIIZ)I"⟩, 8), (⟨"HeatDown", "planAsItIs", "(I)V"⟩, 10), (⟨"HeatDown$PlanSearch", "sumWorthBehind", "()V"⟩, 8), (⟨"HeatDown$PlanSearch", "offer", "(II)V"⟩, 8), (⟨"HeatDown$PlanSearch", "mayWin", "(I)Z"⟩, 8), (⟨"HeatDown", "searchMoss", "(II)I"⟩, 10), (⟨"HeatDown", "searchPlace", "(II)I"⟩, 10), (⟨"HeatDown$OrderSearch", "worthLeft", "(I)I"⟩, 5), (⟨"HeatDown", "gatherFitting", "(II)I"⟩, 10), (⟨"HeatDown", "mostAlike", "(II)I"⟩, 10), (⟨"HeatDown", "imageOf", "(I)LHeatDown$Valley;"⟩, 10), (⟨"HeatDownModel", "layKind", "(IIIII)V"⟩, 23)]
theorem lw_r1 : ∀ q ∈ lw_privs_1, lw_okq q := List.forall_mem_cons.mpr ⟨lw_p0, List.forall_mem_cons.mpr ⟨lw_p1, List.forall_mem_cons.mpr ⟨lw_p2, List.forall_mem_cons.mpr ⟨lw_p3, List.forall_mem_cons.mpr ⟨lw_p4, List.forall_mem_cons.mpr ⟨lw_p5, List.forall_mem_cons.mpr ⟨lw_p6, List.forall_mem_cons.mpr ⟨lw_p7, List.forall_mem_cons.mpr ⟨lw_p8, List.forall_mem_cons.mpr ⟨lw_p9, List.forall_mem_cons.mpr ⟨lw_p10, List.forall_mem_cons.mpr ⟨lw_p11, List.forall_mem_cons.mpr ⟨lw_p12, List.forall_mem_cons.mpr ⟨lw_p13, List.forall_mem_cons.mpr ⟨lw_p14, List.forall_mem_cons.mpr ⟨lw_p15, fun _ h => absurd h List.not_mem_nil⟩⟩⟩⟩⟩⟩⟩⟩⟩⟩⟩⟩⟩⟩⟩⟩
theorem lw_p16 : lw_okq (⟨"HeatDownModel", "laneFault", "()I"⟩, 23) := ⟨⟨by decide +kernel, by decide +kernel⟩, List.mem_of_getElem? (i := 673) (by decide +kernel), List.mem_of_getElem? (i := 780) (by decide +kernel), List.mem_of_getElem? (i := 781) (by decide +kernel)⟩
theorem lw_p17 : lw_okq (⟨"HeatDownModel", "dayFault", "()I"⟩, 23) := ⟨⟨by decide +kernel, by decide +kernel⟩, List.mem_of_getElem? (i := 673) (by decide +kernel), List.mem_of_getElem? (i := 787) (by decide +kernel), List.mem_of_getElem? (i := 788) (by decide +kernel)⟩
theorem lw_p18 : lw_okq (⟨"HeatDownModel", "areBits", "(III)Z"⟩, 23) := ⟨⟨by decide +kernel, by decide +kernel⟩, List.mem_of_getElem? (i := 673) (by decide +kernel), List.mem_of_getElem? (i := 806) (by decide +kernel), List.mem_of_getElem? (i := 807) (by decide +kernel)⟩
theorem lw_p19 : lw_okq (⟨"HeatDownModel", "asLane", "()V"⟩, 23) := ⟨⟨by decide +kernel, by decide +kernel⟩, List.mem_of_getElem? (i := 673) (by decide +kernel), List.mem_of_getElem? (i := 810) (by decide +kernel), List.mem_of_getElem? (i := 811) (by decide +kernel)⟩
theorem lw_p20 : lw_okq (⟨"HeatDownModel", "go", "(IIII)V"⟩, 23) := ⟨⟨by decide +kernel, by decide +kernel⟩, List.mem_of_getElem? (i := 673) (by decide +kernel), List.mem_of_getElem? (i := 814) (by decide +kernel), List.mem_of_getElem? (i := 815) (by decide +kernel)⟩
theorem lw_p21 : lw_okq (⟨"HeatDownModel", "layBest", "(I)I"⟩, 23) := ⟨⟨by decide +kernel, by decide +kernel⟩, List.mem_of_getElem? (i := 673) (by decide +kernel), List.mem_of_getElem? (i := 830) (by decide +kernel), List.mem_of_getElem? (i := 831) (by decide +kernel)⟩
theorem lw_p22 : lw_okq (⟨"HeatDownModel", "worthOf", "(I)I"⟩, 23) := ⟨⟨by decide +kernel, by decide +kernel⟩, List.mem_of_getElem? (i := 673) (by decide +kernel), List.mem_of_getElem? (i := 834) (by decide +kernel), List.mem_of_getElem? (i := 835) (by decide +kernel)⟩
theorem lw_p23 : lw_okq (⟨"HeatDownModel", "putAt", "(II)V"⟩, 23) := ⟨⟨by decide +kernel, by decide +kernel⟩, List.mem_of_getElem? (i := 673) (by decide +kernel), List.mem_of_getElem? (i := 853) (by decide +kernel), List.mem_of_getElem? (i := 854) (by decide +kernel)⟩
theorem lw_p24 : lw_okq (⟨"HeatDownModel", "nextOrder", "()Z"⟩, 23) := ⟨⟨by decide +kernel, by decide +kernel⟩, List.mem_of_getElem? (i := 673) (by decide +kernel), List.mem_of_getElem? (i := 865) (by decide +kernel), List.mem_of_getElem? (i := 866) (by decide +kernel)⟩
theorem lw_p25 : lw_okq (⟨"HeatDownModel", "change", "(II)V"⟩, 23) := ⟨⟨by decide +kernel, by decide +kernel⟩, List.mem_of_getElem? (i := 673) (by decide +kernel), List.mem_of_getElem? (i := 869) (by decide +kernel), List.mem_of_getElem? (i := 870) (by decide +kernel)⟩
theorem lw_p26 : lw_okq (⟨"HeatDownModel", "isFelt", "(III)Z"⟩, 23) := ⟨⟨by decide +kernel, by decide +kernel⟩, List.mem_of_getElem? (i := 673) (by decide +kernel), List.mem_of_getElem? (i := 885) (by decide +kernel), List.mem_of_getElem? (i := 886) (by decide +kernel)⟩
def lw_privs_2 : List (MethodName × Nat) := [(⟨"HeatDownModel", "laneFault", "()I"⟩, 23), (⟨"HeatDownModel", "dayFault", "()I"⟩, 23), (⟨"HeatDownModel", "areBits", "(III)Z"⟩, 23), (⟨"HeatDownModel", "asLane", "()V"⟩, 23), (⟨"HeatDownModel", "go", "(IIII)V"⟩, 23), (⟨"HeatDownModel", "layBest", "(I)I"⟩, 23), (⟨"HeatDownModel", "worthOf", "(I)I"⟩, 23), (⟨"HeatDownModel", "putAt", "(II)V"⟩, 23), (⟨"HeatDownModel", "nextOrder", "()Z"⟩, 23), (⟨"HeatDownModel", "change", "(II)V"⟩, 23), (⟨"HeatDownModel", "isFelt", "(III)Z"⟩, 23)]
theorem lw_r2 : ∀ q ∈ lw_privs_2, lw_okq q := List.forall_mem_cons.mpr ⟨lw_p16, List.forall_mem_cons.mpr ⟨lw_p17, List.forall_mem_cons.mpr ⟨lw_p18, List.forall_mem_cons.mpr ⟨lw_p19, List.forall_mem_cons.mpr ⟨lw_p20, List.forall_mem_cons.mpr ⟨lw_p21, List.forall_mem_cons.mpr ⟨lw_p22, List.forall_mem_cons.mpr ⟨lw_p23, List.forall_mem_cons.mpr ⟨lw_p24, List.forall_mem_cons.mpr ⟨lw_p25, List.forall_mem_cons.mpr ⟨lw_p26, fun _ h => absurd h List.not_mem_nil⟩⟩⟩⟩⟩⟩⟩⟩⟩⟩⟩
def lw_privs : List (MethodName × Nat) := lw_privs_1 ++ (lw_privs_2)
def lw_tbl : List Cond := k2_sels lw_privs ++ tables_1
theorem lw_privs_ok : ∀ q ∈ lw_privs, lw_okq q := by
  show ∀ q ∈ lw_privs_1 ++ (lw_privs_2), lw_okq q
  exact List.forall_mem_append.mpr ⟨lw_r1, lw_r2⟩
def RX0 : String := "HeatDown$Course"
def TX0 : u_T := fun k => match k with
  | 0 => ("HeatDown$Course", "served", "I", false)
  | 1 => ("HeatDown$Course", "harmed", "I", false)
  | 2 => ("HeatDown$Course", "wronged", "I", false)
  | 3 => ("HeatDown$Course", "lost", "I", false)
  | 4 => ("HeatDown$Course", "taken", "I", false)
  | 5 => ("HeatDown$Course", "valley", "LHeatDown$Valley;", true)
  | 6 => ("HeatDown$Course", "litresRow", "[I", true)
  | _ => ("HeatDown$Course", "heatRow", "[I", true)
def tyX0 : Nat → FieldType := fun k => match k with
  | 0 => .int
  | 1 => .int
  | 2 => .int
  | 3 => .int
  | 4 => .int
  | 5 => .object "HeatDown$Valley"
  | 6 => .array .int
  | _ => .array .int
theorem nmX0 : ∀ a, a < 8 → ∀ b, b < 8 → a ≠ b → (TX0 a).2.1 ≠ (TX0 b).2.1 := by decide +kernel
theorem tyX0_ok : ∀ k, k < 8 → parseFieldDescriptor (TX0 k).2.2.1 = some (tyX0 k) := by decide +kernel
abbrev cX0_init : ByteArray := prog_2_method_1_code
def yX0_init : MethodName := ⟨RX0, "<init>", "(LHeatDown$Valley;)V"⟩
abbrev cX0_litresAt : ByteArray := prog_2_method_2_code
def yX0_litresAt : MethodName := ⟨RX0, "litresAt", "(I)I"⟩
abbrev cX0_heatAt : ByteArray := prog_2_method_3_code
def yX0_heatAt : MethodName := ⟨RX0, "heatAt", "(I)I"⟩
abbrev cX0_tenthsAt : ByteArray := prog_2_method_4_code
def yX0_tenthsAt : MethodName := ⟨RX0, "tenthsAt", "(I)I"⟩
abbrev cX0_follow : ByteArray := prog_2_method_5_code
def yX0_follow : MethodName := ⟨RX0, "follow", "(IIII)V"⟩
abbrev cX0_meetHouse : ByteArray := prog_2_method_6_code
def yX0_meetHouse : MethodName := ⟨RX0, "meetHouse", "(IIIIZ)I"⟩
abbrev cX0_worthOfServed : ByteArray := prog_2_method_7_code
def yX0_worthOfServed : MethodName := ⟨RX0, "worthOfServed", "()I"⟩
def RX1 : String := "HeatDown$Felt"
def TX1 : u_T := fun k => match k with
  | 0 => ("HeatDown$Felt", "count", "I", false)
  | 1 => ("HeatDown$Felt", "houses", "[I", true)
  | 2 => ("HeatDown$Felt", "lows", "[I", true)
  | _ => ("HeatDown$Felt", "highs", "[I", true)
def tyX1 : Nat → FieldType := fun k => match k with
  | 0 => .int
  | 1 => .array .int
  | 2 => .array .int
  | _ => .array .int
theorem nmX1 : ∀ a, a < 4 → ∀ b, b < 4 → a ≠ b → (TX1 a).2.1 ≠ (TX1 b).2.1 := by decide +kernel
theorem tyX1_ok : ∀ k, k < 4 → parseFieldDescriptor (TX1 k).2.2.1 = some (tyX1 k) := by decide +kernel
abbrev cX1_init : ByteArray := prog_3_method_1_code
def yX1_init : MethodName := ⟨RX1, "<init>", "()V"⟩
abbrev cX1_add : ByteArray := prog_3_method_2_code
def yX1_add : MethodName := ⟨RX1, "add", "(III)Z"⟩
abbrev cX1_clear : ByteArray := prog_3_method_3_code
def yX1_clear : MethodName := ⟨RX1, "clear", "()I"⟩
abbrev cX1_fitsTo : ByteArray := prog_3_method_4_code
def yX1_fitsTo : MethodName := ⟨RX1, "fitsTo", "(LHeatDown$Course;)Z"⟩
abbrev cX1_copyOf : ByteArray := prog_3_method_5_code
def yX1_copyOf : MethodName := ⟨RX1, "copyOf", "(LHeatDown$Felt;)V"⟩
def RX2 : String := "HeatDown$Lane"
def TX2 : u_T := fun k => match k with
  | 0 => ("HeatDown$Lane", "houses", "I", false)
  | 1 => ("HeatDown$Lane", "brooks", "I", false)
  | 2 => ("HeatDown$Lane", "kinds", "[I", true)
  | 3 => ("HeatDown$Lane", "losses", "[I", true)
  | _ => ("HeatDown$Lane", "brookNumbers", "[I", true)
def tyX2 : Nat → FieldType := fun k => match k with
  | 0 => .int
  | 1 => .int
  | 2 => .array .int
  | 3 => .array .int
  | _ => .array .int
theorem nmX2 : ∀ a, a < 5 → ∀ b, b < 5 → a ≠ b → (TX2 a).2.1 ≠ (TX2 b).2.1 := by decide +kernel
theorem tyX2_ok : ∀ k, k < 5 → parseFieldDescriptor (TX2 k).2.2.1 = some (tyX2 k) := by decide +kernel
abbrev cX2_init : ByteArray := prog_4_method_1_code
def yX2_init : MethodName := ⟨RX2, "<init>", "()V"⟩
abbrev cX2_kindOf : ByteArray := prog_4_method_2_code
def yX2_kindOf : MethodName := ⟨RX2, "kindOf", "(I)I"⟩
abbrev cX2_lossAheadOf : ByteArray := prog_4_method_3_code
def yX2_lossAheadOf : MethodName := ⟨RX2, "lossAheadOf", "(I)I"⟩
abbrev cX2_brookAheadOf : ByteArray := prog_4_method_4_code
def yX2_brookAheadOf : MethodName := ⟨RX2, "brookAheadOf", "(I)I"⟩
abbrev cX2_isFull : ByteArray := prog_4_method_5_code
def yX2_isFull : MethodName := ⟨RX2, "isFull", "()Z"⟩
abbrev cX2_houseSets : ByteArray := prog_4_method_6_code
def yX2_houseSets : MethodName := ⟨RX2, "houseSets", "()I"⟩
abbrev cX2_brookSets : ByteArray := prog_4_method_7_code
def yX2_brookSets : MethodName := ⟨RX2, "brookSets", "()I"⟩
abbrev cX2_pipeBits : ByteArray := prog_4_method_8_code
def yX2_pipeBits : MethodName := ⟨RX2, "pipeBits", "()I"⟩
abbrev cX2_clear : ByteArray := prog_4_method_9_code
def yX2_clear : MethodName := ⟨RX2, "clear", "()V"⟩
abbrev cX2_addHouse : ByteArray := prog_4_method_10_code
def yX2_addHouse : MethodName := ⟨RX2, "addHouse", "(IIZ)V"⟩
abbrev cX2_insertHouse : ByteArray := prog_4_method_11_code
def yX2_insertHouse : MethodName := ⟨RX2, "insertHouse", "(II)V"⟩
abbrev cX2_coverPipes : ByteArray := prog_4_method_12_code
def yX2_coverPipes : MethodName := ⟨RX2, "coverPipes", "(I)V"⟩
abbrev cX2_copyOf : ByteArray := prog_4_method_13_code
def yX2_copyOf : MethodName := ⟨RX2, "copyOf", "(LHeatDown$Lane;)V"⟩
def RX3 : String := "HeatDown$OrderSearch"
def TX3 : u_T := fun k => match k with
  | 0 => ("HeatDown$OrderSearch", "worth", "I", false)
  | 1 => ("HeatDown$OrderSearch", "bestOrder", "[I", true)
  | 2 => ("HeatDown$OrderSearch", "valley", "LHeatDown$Valley;", true)
  | 3 => ("HeatDown$OrderSearch", "chosen", "[I", true)
  | _ => ("HeatDown$OrderSearch", "hour", "I", false)
def tyX3 : Nat → FieldType := fun k => match k with
  | 0 => .int
  | 1 => .array .int
  | 2 => .object "HeatDown$Valley"
  | 3 => .array .int
  | _ => .int
theorem nmX3 : ∀ a, a < 5 → ∀ b, b < 5 → a ≠ b → (TX3 a).2.1 ≠ (TX3 b).2.1 := by decide +kernel
theorem tyX3_ok : ∀ k, k < 5 → parseFieldDescriptor (TX3 k).2.2.1 = some (tyX3 k) := by decide +kernel
abbrev cX3_init : ByteArray := prog_5_method_1_code
def yX3_init : MethodName := ⟨RX3, "<init>", "(LHeatDown$Valley;)V"⟩
abbrev cX3_search : ByteArray := prog_5_method_2_code
def yX3_search : MethodName := ⟨RX3, "search", "(I)V"⟩
abbrev cX3_worthLeft : ByteArray := prog_5_method_3_code
def yX3_worthLeft : MethodName := ⟨RX3, "worthLeft", "(I)I"⟩
abbrev cX3_descend : ByteArray := prog_5_method_4_code
def yX3_descend : MethodName := ⟨RX3, "descend", "(LHeatDown$OrderSearch;IIII)V"⟩
def RX4 : String := "HeatDown$Pad"
def TX4 : u_T := fun k => match k with
  | 0 => ("HeatDown$Pad", "count", "I", false)
  | 1 => ("HeatDown$Pad", "laneRead", "LHeatDown$Lane;", true)
  | 2 => ("HeatDown$Pad", "signs", "[I", true)
  | 3 => ("HeatDown$Pad", "dayBrooks", "[I", true)
  | _ => ("HeatDown$Pad", "dayDraws", "[I", true)
def tyX4 : Nat → FieldType := fun k => match k with
  | 0 => .int
  | 1 => .object "HeatDown$Lane"
  | 2 => .array .int
  | 3 => .array .int
  | _ => .array .int
theorem nmX4 : ∀ a, a < 5 → ∀ b, b < 5 → a ≠ b → (TX4 a).2.1 ≠ (TX4 b).2.1 := by decide +kernel
theorem tyX4_ok : ∀ k, k < 5 → parseFieldDescriptor (TX4 k).2.2.1 = some (tyX4 k) := by decide +kernel
abbrev cX4_init : ByteArray := prog_6_method_1_code
def yX4_init : MethodName := ⟨RX4, "<init>", "()V"⟩
abbrev cX4_addSign : ByteArray := prog_6_method_2_code
def yX4_addSign : MethodName := ⟨RX4, "addSign", "(I)Z"⟩
abbrev cX4_clear : ByteArray := prog_6_method_3_code
def yX4_clear : MethodName := ⟨RX4, "clear", "()I"⟩
abbrev cX4_brooksIn : ByteArray := prog_6_method_4_code
def yX4_brooksIn : MethodName := ⟨RX4, "brooksIn", "(I)I"⟩
abbrev cX4_drawsIn : ByteArray := prog_6_method_5_code
def yX4_drawsIn : MethodName := ⟨RX4, "drawsIn", "(I)I"⟩
abbrev cX4_readLane : ByteArray := prog_6_method_6_code
def yX4_readLane : MethodName := ⟨RX4, "readLane", "()I"⟩
abbrev cX4_readDay : ByteArray := prog_6_method_7_code
def yX4_readDay : MethodName := ⟨RX4, "readDay", "(LHeatDown$Lane;)I"⟩
abbrev cX4_keepHour : ByteArray := prog_6_method_8_code
def yX4_keepHour : MethodName := ⟨RX4, "keepHour", "(III)V"⟩
abbrev cX4_kindBySign : ByteArray := prog_6_method_9_code
def yX4_kindBySign : MethodName := ⟨RX4, "kindBySign", "(I)I"⟩
def RX5 : String := "HeatDown$PlanSearch"
def TX5 : u_T := fun k => match k with
  | 0 => ("HeatDown$PlanSearch", "trial", "LHeatDown$Lane;", true)
  | 1 => ("HeatDown$PlanSearch", "worth", "I", false)
  | 2 => ("HeatDown$PlanSearch", "bestBrooks", "I", false)
  | 3 => ("HeatDown$PlanSearch", "bestDraws", "I", false)
  | 4 => ("HeatDown$PlanSearch", "valley", "LHeatDown$Valley;", true)
  | 5 => ("HeatDown$PlanSearch", "hour", "I", false)
  | 6 => ("HeatDown$PlanSearch", "brooks", "I", false)
  | _ => ("HeatDown$PlanSearch", "worthBehind", "[I", true)
def tyX5 : Nat → FieldType := fun k => match k with
  | 0 => .object "HeatDown$Lane"
  | 1 => .int
  | 2 => .int
  | 3 => .int
  | 4 => .object "HeatDown$Valley"
  | 5 => .int
  | 6 => .int
  | _ => .array .int
theorem nmX5 : ∀ a, a < 8 → ∀ b, b < 8 → a ≠ b → (TX5 a).2.1 ≠ (TX5 b).2.1 := by decide +kernel
theorem tyX5_ok : ∀ k, k < 8 → parseFieldDescriptor (TX5 k).2.2.1 = some (tyX5 k) := by decide +kernel
abbrev cX5_init : ByteArray := prog_7_method_1_code
def yX5_init : MethodName := ⟨RX5, "<init>", "(LHeatDown$Valley;)V"⟩
abbrev cX5_forgetPlans : ByteArray := prog_7_method_2_code
def yX5_forgetPlans : MethodName := ⟨RX5, "forgetPlans", "()V"⟩
abbrev cX5_improve : ByteArray := prog_7_method_3_code
def yX5_improve : MethodName := ⟨RX5, "improve", "(I)Z"⟩
abbrev cX5_sumWorthBehind : ByteArray := prog_7_method_4_code
def yX5_sumWorthBehind : MethodName := ⟨RX5, "sumWorthBehind", "()V"⟩
abbrev cX5_mayWin : ByteArray := prog_7_method_5_code
def yX5_mayWin : MethodName := ⟨RX5, "mayWin", "(I)Z"⟩
abbrev cX5_offer : ByteArray := prog_7_method_6_code
def yX5_offer : MethodName := ⟨RX5, "offer", "(II)V"⟩
abbrev cX5_descend : ByteArray := prog_7_method_7_code
def yX5_descend : MethodName := ⟨RX5, "descend", "(LHeatDown$PlanSearch;IIIII)V"⟩
def RX6 : String := "HeatDown$Valley"
def TX6 : u_T := fun k => match k with
  | 0 => ("HeatDown$Valley", "springValues", "[I", true)
  | 1 => ("HeatDown$Valley", "kindValues", "[I", true)
  | 2 => ("HeatDown$Valley", "lane", "LHeatDown$Lane;", true)
  | _ => ("HeatDown$Valley", "felt", "LHeatDown$Felt;", true)
def tyX6 : Nat → FieldType := fun k => match k with
  | 0 => .array .int
  | 1 => .array .int
  | 2 => .object "HeatDown$Lane"
  | _ => .object "HeatDown$Felt"
theorem nmX6 : ∀ a, a < 4 → ∀ b, b < 4 → a ≠ b → (TX6 a).2.1 ≠ (TX6 b).2.1 := by decide +kernel
theorem tyX6_ok : ∀ k, k < 4 → parseFieldDescriptor (TX6 k).2.2.1 = some (tyX6 k) := by decide +kernel
abbrev cX6_init : ByteArray := prog_8_method_1_code
def yX6_init : MethodName := ⟨RX6, "<init>", "()V"⟩
abbrev cX6_springValue : ByteArray := prog_8_method_2_code
def yX6_springValue : MethodName := ⟨RX6, "springValue", "(I)I"⟩
abbrev cX6_kindValue : ByteArray := prog_8_method_3_code
def yX6_kindValue : MethodName := ⟨RX6, "kindValue", "(II)I"⟩
abbrev cX6_isWanting : ByteArray := prog_8_method_4_code
def yX6_isWanting : MethodName := ⟨RX6, "isWanting", "(II)Z"⟩
abbrev cX6_heatBehindPipe : ByteArray := prog_8_method_5_code
def yX6_heatBehindPipe : MethodName := ⟨RX6, "heatBehindPipe", "(III)I"⟩
abbrev cX6_isHarmed : ByteArray := prog_8_method_6_code
def yX6_isHarmed : MethodName := ⟨RX6, "isHarmed", "(III)Z"⟩
abbrev cX6_isServed : ByteArray := prog_8_method_7_code
def yX6_isServed : MethodName := ⟨RX6, "isServed", "(IIII)Z"⟩
abbrev cX6_copyOf : ByteArray := prog_8_method_8_code
def yX6_copyOf : MethodName := ⟨RX6, "copyOf", "(LHeatDown$Valley;)V"⟩
def RX7 : String := "HeatDown"
def TX7 : u_T := fun k => match k with
  | 0 => ("HeatDown", "pad", "LHeatDown$Pad;", true)
  | 1 => ("HeatDown", "now", "LHeatDown$Valley;", true)
  | 2 => ("HeatDown", "imageZero", "LHeatDown$Valley;", true)
  | 3 => ("HeatDown", "imageOne", "LHeatDown$Valley;", true)
  | 4 => ("HeatDown", "keptImages", "I", false)
  | 5 => ("HeatDown", "course", "LHeatDown$Course;", true)
  | 6 => ("HeatDown", "plans", "LHeatDown$PlanSearch;", true)
  | 7 => ("HeatDown", "orders", "LHeatDown$OrderSearch;", true)
  | 8 => ("HeatDown", "fitting", "[I", true)
  | _ => ("HeatDown", "fittingTenths", "[I", true)
def tyX7 : Nat → FieldType := fun k => match k with
  | 0 => .object "HeatDown$Pad"
  | 1 => .object "HeatDown$Valley"
  | 2 => .object "HeatDown$Valley"
  | 3 => .object "HeatDown$Valley"
  | 4 => .int
  | 5 => .object "HeatDown$Course"
  | 6 => .object "HeatDown$PlanSearch"
  | 7 => .object "HeatDown$OrderSearch"
  | 8 => .array .int
  | _ => .array .int
theorem nmX7 : ∀ a, a < 10 → ∀ b, b < 10 → a ≠ b → (TX7 a).2.1 ≠ (TX7 b).2.1 := by decide +kernel
theorem tyX7_ok : ∀ k, k < 10 → parseFieldDescriptor (TX7 k).2.2.1 = some (tyX7 k) := by decide +kernel
abbrev cX7_init : ByteArray := prog_1_method_1_code
def yX7_init : MethodName := ⟨RX7, "<init>", "()V"⟩
abbrev cX7_spring : ByteArray := prog_1_method_2_code
def yX7_spring : MethodName := ⟨RX7, "spring", "(II)I"⟩
abbrev cX7_kind : ByteArray := prog_1_method_3_code
def yX7_kind : MethodName := ⟨RX7, "kind", "(III)I"⟩
abbrev cX7_say : ByteArray := prog_1_method_4_code
def yX7_say : MethodName := ⟨RX7, "say", "(I)I"⟩
abbrev cX7_wipe : ByteArray := prog_1_method_5_code
def yX7_wipe : MethodName := ⟨RX7, "wipe", "()I"⟩
abbrev cX7_fault : ByteArray := prog_1_method_6_code
def yX7_fault : MethodName := ⟨RX7, "fault", "(I)I"⟩
abbrev cX7_lane : ByteArray := prog_1_method_7_code
def yX7_lane : MethodName := ⟨RX7, "lane", "()I"⟩
abbrev cX7_house : ByteArray := prog_1_method_8_code
def yX7_house : MethodName := ⟨RX7, "house", "(II)I"⟩
abbrev cX7_at : ByteArray := prog_1_method_9_code
def yX7_at : MethodName := ⟨RX7, "at", "(IIIII)I"⟩
abbrev cX7_run : ByteArray := prog_1_method_10_code
def yX7_run : MethodName := ⟨RX7, "run", "(IIII)I"⟩
abbrev cX7_judge : ByteArray := prog_1_method_11_code
def yX7_judge : MethodName := ⟨RX7, "judge", "(I)I"⟩
abbrev cX7_best : ByteArray := prog_1_method_12_code
def yX7_best : MethodName := ⟨RX7, "best", "(II)I"⟩
abbrev cX7_moss : ByteArray := prog_1_method_13_code
def yX7_moss : MethodName := ⟨RX7, "moss", "(III)I"⟩
abbrev cX7_cools : ByteArray := prog_1_method_14_code
def yX7_cools : MethodName := ⟨RX7, "cools", "(III)I"⟩
abbrev cX7_put : ByteArray := prog_1_method_15_code
def yX7_put : MethodName := ⟨RX7, "put", "(III)I"⟩
abbrev cX7_where : ByteArray := prog_1_method_16_code
def yX7_where : MethodName := ⟨RX7, "where", "(III)I"⟩
abbrev cX7_order : ByteArray := prog_1_method_17_code
def yX7_order : MethodName := ⟨RX7, "order", "(II)I"⟩
abbrev cX7_felt : ByteArray := prog_1_method_18_code
def yX7_felt : MethodName := ⟨RX7, "felt", "(III)I"⟩
abbrev cX7_forget : ByteArray := prog_1_method_19_code
def yX7_forget : MethodName := ⟨RX7, "forget", "()I"⟩
abbrev cX7_fits : ByteArray := prog_1_method_20_code
def yX7_fits : MethodName := ⟨RX7, "fits", "(III)I"⟩
abbrev cX7_door : ByteArray := prog_1_method_21_code
def yX7_door : MethodName := ⟨RX7, "door", "(III)I"⟩
abbrev cX7_winter : ByteArray := prog_1_method_22_code
def yX7_winter : MethodName := ⟨RX7, "winter", "(III)I"⟩
abbrev cX7_image : ByteArray := prog_1_method_23_code
def yX7_image : MethodName := ⟨RX7, "image", "(I)I"⟩
abbrev cX7_restore : ByteArray := prog_1_method_24_code
def yX7_restore : MethodName := ⟨RX7, "restore", "(I)I"⟩
abbrev cX7_told : ByteArray := prog_1_method_25_code
def yX7_told : MethodName := ⟨RX7, "told", "(I)I"⟩
abbrev cX7_isNoHour : ByteArray := prog_1_method_26_code
def yX7_isNoHour : MethodName := ⟨RX7, "isNoHour", "(I)Z"⟩
abbrev cX7_isNoKind : ByteArray := prog_1_method_27_code
def yX7_isNoKind : MethodName := ⟨RX7, "isNoKind", "(I)Z"⟩
abbrev cX7_isNoHouse : ByteArray := prog_1_method_28_code
def yX7_isNoHouse : MethodName := ⟨RX7, "isNoHouse", "(I)Z"⟩
abbrev cX7_areNoBrooks : ByteArray := prog_1_method_29_code
def yX7_areNoBrooks : MethodName := ⟨RX7, "areNoBrooks", "(I)Z"⟩
abbrev cX7_areNoDraws : ByteArray := prog_1_method_30_code
def yX7_areNoDraws : MethodName := ⟨RX7, "areNoDraws", "(I)Z"⟩
abbrev cX7_imageOf : ByteArray := prog_1_method_31_code
def yX7_imageOf : MethodName := ⟨RX7, "imageOf", "(I)LHeatDown$Valley;"⟩
abbrev cX7_planAsItIs : ByteArray := prog_1_method_32_code
def yX7_planAsItIs : MethodName := ⟨RX7, "planAsItIs", "(I)V"⟩
abbrev cX7_searchMoss : ByteArray := prog_1_method_33_code
def yX7_searchMoss : MethodName := ⟨RX7, "searchMoss", "(II)I"⟩
abbrev cX7_searchPlace : ByteArray := prog_1_method_34_code
def yX7_searchPlace : MethodName := ⟨RX7, "searchPlace", "(II)I"⟩
abbrev cX7_gatherFitting : ByteArray := prog_1_method_35_code
def yX7_gatherFitting : MethodName := ⟨RX7, "gatherFitting", "(II)I"⟩
abbrev cX7_mostAlike : ByteArray := prog_1_method_36_code
def yX7_mostAlike : MethodName := ⟨RX7, "mostAlike", "(II)I"⟩
abbrev cX7_cell : ByteArray := prog_1_method_37_code
def yX7_cell : MethodName := ⟨RX7, "cell", "([II)I"⟩
abbrev cX7_setCell : ByteArray := prog_1_method_38_code
def yX7_setCell : MethodName := ⟨RX7, "setCell", "([III)V"⟩
abbrev cX7_exchange : ByteArray := prog_1_method_39_code
def yX7_exchange : MethodName := ⟨RX7, "exchange", "([III)I"⟩
abbrev cX7_copyRow : ByteArray := prog_1_method_40_code
def yX7_copyRow : MethodName := ⟨RX7, "copyRow", "([I[I)V"⟩
abbrev cX7_hasBit : ByteArray := prog_1_method_41_code
def yX7_hasBit : MethodName := ⟨RX7, "hasBit", "(II)Z"⟩
abbrev cX7_lowestBit : ByteArray := prog_1_method_42_code
def yX7_lowestBit : MethodName := ⟨RX7, "lowestBit", "(I)I"⟩
def RX8 : String := "HeatDownModel"
def TX8 : u_T := fun k => match k with
  | 0 => ("HeatDownModel", "springs", "[I", true)
  | 1 => ("HeatDownModel", "kinds", "[I", true)
  | 2 => ("HeatDownModel", "signs", "I", false)
  | 3 => ("HeatDownModel", "pad", "[I", true)
  | 4 => ("HeatDownModel", "houses", "I", false)
  | 5 => ("HeatDownModel", "house", "[I", true)
  | 6 => ("HeatDownModel", "brooks", "I", false)
  | 7 => ("HeatDownModel", "felts", "I", false)
  | 8 => ("HeatDownModel", "feeling", "[I", true)
  | 9 => ("HeatDownModel", "many", "I", false)
  | 10 => ("HeatDownModel", "tried", "[I", true)
  | 11 => ("HeatDownModel", "f", "[I", true)
  | 12 => ("HeatDownModel", "q", "[I", true)
  | 13 => ("HeatDownModel", "served", "I", false)
  | 14 => ("HeatDownModel", "harmed", "I", false)
  | 15 => ("HeatDownModel", "lost", "I", false)
  | 16 => ("HeatDownModel", "taken", "I", false)
  | 17 => ("HeatDownModel", "bestCode", "I", false)
  | 18 => ("HeatDownModel", "order", "[I", true)
  | 19 => ("HeatDownModel", "feels", "[I", true)
  | 20 => ("HeatDownModel", "plan", "[I", true)
  | 21 => ("HeatDownModel", "image", "[I", true)
  | _ => ("HeatDownModel", "isKept", "[Z", true)
def tyX8 : Nat → FieldType := fun k => match k with
  | 0 => .array .int
  | 1 => .array .int
  | 2 => .int
  | 3 => .array .int
  | 4 => .int
  | 5 => .array .int
  | 6 => .int
  | 7 => .int
  | 8 => .array .int
  | 9 => .int
  | 10 => .array .int
  | 11 => .array .int
  | 12 => .array .int
  | 13 => .int
  | 14 => .int
  | 15 => .int
  | 16 => .int
  | 17 => .int
  | 18 => .array .int
  | 19 => .array .int
  | 20 => .array .int
  | 21 => .array .int
  | _ => .array .boolean
theorem nmX8 : ∀ a, a < 23 → ∀ b, b < 23 → a ≠ b → (TX8 a).2.1 ≠ (TX8 b).2.1 := by decide +kernel
theorem tyX8_ok : ∀ k, k < 23 → parseFieldDescriptor (TX8 k).2.2.1 = some (tyX8 k) := by decide +kernel
abbrev cX8_init : ByteArray := prog_10_method_1_code
def yX8_init : MethodName := ⟨RX8, "<init>", "()V"⟩
abbrev cX8_layKind : ByteArray := prog_10_method_2_code
def yX8_layKind : MethodName := ⟨RX8, "layKind", "(IIIII)V"⟩
abbrev cX8_in : ByteArray := prog_10_method_3_code
def yX8_in : MethodName := ⟨RX8, "in", "(III)Z"⟩
abbrev cX8_has : ByteArray := prog_10_method_4_code
def yX8_has : MethodName := ⟨RX8, "has", "(II)Z"⟩
abbrev cX8_bits : ByteArray := prog_10_method_5_code
def yX8_bits : MethodName := ⟨RX8, "bits", "(I)I"⟩
abbrev cX8_spring : ByteArray := prog_10_method_6_code
def yX8_spring : MethodName := ⟨RX8, "spring", "(II)I"⟩
abbrev cX8_mostOf : ByteArray := prog_10_method_7_code
def yX8_mostOf : MethodName := ⟨RX8, "mostOf", "(I)I"⟩
abbrev cX8_kind : ByteArray := prog_10_method_8_code
def yX8_kind : MethodName := ⟨RX8, "kind", "(III)I"⟩
abbrev cX8_say : ByteArray := prog_10_method_9_code
def yX8_say : MethodName := ⟨RX8, "say", "(I)I"⟩
abbrev cX8_wipe : ByteArray := prog_10_method_10_code
def yX8_wipe : MethodName := ⟨RX8, "wipe", "()I"⟩
abbrev cX8_kindOf : ByteArray := prog_10_method_11_code
def yX8_kindOf : MethodName := ⟨RX8, "kindOf", "(I)I"⟩
abbrev cX8_laneFault : ByteArray := prog_10_method_12_code
def yX8_laneFault : MethodName := ⟨RX8, "laneFault", "()I"⟩
abbrev cX8_dayFault : ByteArray := prog_10_method_13_code
def yX8_dayFault : MethodName := ⟨RX8, "dayFault", "()I"⟩
abbrev cX8_fault : ByteArray := prog_10_method_14_code
def yX8_fault : MethodName := ⟨RX8, "fault", "(I)I"⟩
abbrev cX8_lane : ByteArray := prog_10_method_15_code
def yX8_lane : MethodName := ⟨RX8, "lane", "()I"⟩
abbrev cX8_house : ByteArray := prog_10_method_16_code
def yX8_house : MethodName := ⟨RX8, "house", "(II)I"⟩
abbrev cX8_asLane : ByteArray := prog_10_method_17_code
def yX8_asLane : MethodName := ⟨RX8, "asLane", "()V"⟩
abbrev cX8_go : ByteArray := prog_10_method_18_code
def yX8_go : MethodName := ⟨RX8, "go", "(IIII)V"⟩
abbrev cX8_areBits : ByteArray := prog_10_method_19_code
def yX8_areBits : MethodName := ⟨RX8, "areBits", "(III)Z"⟩
abbrev cX8_at : ByteArray := prog_10_method_20_code
def yX8_at : MethodName := ⟨RX8, "at", "(IIIII)I"⟩
abbrev cX8_run : ByteArray := prog_10_method_21_code
def yX8_run : MethodName := ⟨RX8, "run", "(IIII)I"⟩
abbrev cX8_judge : ByteArray := prog_10_method_22_code
def yX8_judge : MethodName := ⟨RX8, "judge", "(I)I"⟩
abbrev cX8_worthOf : ByteArray := prog_10_method_23_code
def yX8_worthOf : MethodName := ⟨RX8, "worthOf", "(I)I"⟩
abbrev cX8_layBest : ByteArray := prog_10_method_24_code
def yX8_layBest : MethodName := ⟨RX8, "layBest", "(I)I"⟩
abbrev cX8_best : ByteArray := prog_10_method_25_code
def yX8_best : MethodName := ⟨RX8, "best", "(II)I"⟩
abbrev cX8_moss : ByteArray := prog_10_method_26_code
def yX8_moss : MethodName := ⟨RX8, "moss", "(III)I"⟩
abbrev cX8_cools : ByteArray := prog_10_method_27_code
def yX8_cools : MethodName := ⟨RX8, "cools", "(III)I"⟩
abbrev cX8_putAt : ByteArray := prog_10_method_28_code
def yX8_putAt : MethodName := ⟨RX8, "putAt", "(II)V"⟩
abbrev cX8_put : ByteArray := prog_10_method_29_code
def yX8_put : MethodName := ⟨RX8, "put", "(III)I"⟩
abbrev cX8_where : ByteArray := prog_10_method_30_code
def yX8_where : MethodName := ⟨RX8, "where", "(III)I"⟩
abbrev cX8_nextOrder : ByteArray := prog_10_method_31_code
def yX8_nextOrder : MethodName := ⟨RX8, "nextOrder", "()Z"⟩
abbrev cX8_change : ByteArray := prog_10_method_32_code
def yX8_change : MethodName := ⟨RX8, "change", "(II)V"⟩
abbrev cX8_order : ByteArray := prog_10_method_33_code
def yX8_order : MethodName := ⟨RX8, "order", "(II)I"⟩
abbrev cX8_felt : ByteArray := prog_10_method_34_code
def yX8_felt : MethodName := ⟨RX8, "felt", "(III)I"⟩
abbrev cX8_forget : ByteArray := prog_10_method_35_code
def yX8_forget : MethodName := ⟨RX8, "forget", "()I"⟩
abbrev cX8_isFelt : ByteArray := prog_10_method_36_code
def yX8_isFelt : MethodName := ⟨RX8, "isFelt", "(III)Z"⟩
abbrev cX8_fits : ByteArray := prog_10_method_37_code
def yX8_fits : MethodName := ⟨RX8, "fits", "(III)I"⟩
abbrev cX8_door : ByteArray := prog_10_method_38_code
def yX8_door : MethodName := ⟨RX8, "door", "(III)I"⟩
abbrev cX8_winter : ByteArray := prog_10_method_39_code
def yX8_winter : MethodName := ⟨RX8, "winter", "(III)I"⟩
abbrev cX8_image : ByteArray := prog_10_method_40_code
def yX8_image : MethodName := ⟨RX8, "image", "(I)I"⟩
abbrev cX8_restore : ByteArray := prog_10_method_41_code
def yX8_restore : MethodName := ⟨RX8, "restore", "(I)I"⟩
abbrev cX8_told : ByteArray := prog_10_method_42_code
def yX8_told : MethodName := ⟨RX8, "told", "(I)I"⟩
def RJx8e188 : String := "java/lang/Cloneable"
def TJx8e188 : u_T := fun k => match k with
  | _ => ("", "", "", false)
def tyJx8e188 : Nat → FieldType := fun k => match k with
  | _ => .int
theorem nmJx8e188 : ∀ a, a < 0 → ∀ b, b < 0 → a ≠ b → (TJx8e188 a).2.1 ≠ (TJx8e188 b).2.1 := by decide +kernel
theorem tyJx8e188_ok : ∀ k, k < 0 → parseFieldDescriptor (TJx8e188 k).2.2.1 = some (tyJx8e188 k) := by decide +kernel
def RJ6 : String := "java/lang/Integer"
def TJ6 : u_T := fun k => match k with
  | _ => ("", "", "", false)
def tyJ6 : Nat → FieldType := fun k => match k with
  | _ => .int
theorem nmJ6 : ∀ a, a < 0 → ∀ b, b < 0 → a ≠ b → (TJ6 a).2.1 ≠ (TJ6 b).2.1 := by decide +kernel
theorem tyJ6_ok : ∀ k, k < 0 → parseFieldDescriptor (TJ6 k).2.2.1 = some (tyJ6 k) := by decide +kernel
abbrev cJ6_bitCount_0f7a4 : ByteArray := prog_12_method_49_code
def yJ6_bitCount_0f7a4 : MethodName := ⟨RJ6, "bitCount", "(I)I"⟩
def RJ9 : String := "java/lang/Math"
def TJ9 : u_T := fun k => match k with
  | _ => ("", "", "", false)
def tyJ9 : Nat → FieldType := fun k => match k with
  | _ => .int
theorem nmJ9 : ∀ a, a < 0 → ∀ b, b < 0 → a ≠ b → (TJ9 a).2.1 ≠ (TJ9 b).2.1 := by decide +kernel
theorem tyJ9_ok : ∀ k, k < 0 → parseFieldDescriptor (TJ9 k).2.2.1 = some (tyJ9 k) := by decide +kernel
abbrev cJ9_max_7cf53 : ByteArray := prog_13_method_65_code
def yJ9_max_7cf53 : MethodName := ⟨RJ9, "max", "(II)I"⟩
abbrev cJ9_min_7cf53 : ByteArray := prog_13_method_69_code
def yJ9_min_7cf53 : MethodName := ⟨RJ9, "min", "(II)I"⟩
def RL : String := "HeatDownLaw"
abbrev cL_law : ByteArray := code
def yL_law : MethodName := ⟨RL, "law", "([I)Z"⟩
abbrev vwCl : List vw_C := [(RX0, TX0, 8), (RX1, TX1, 4), (RX2, TX2, 5), (RX3, TX3, 5), (RX4, TX4, 5), (RX5, TX5, 8), (RX6, TX6, 4), (RX7, TX7, 10), (RX8, TX8, 23)]
theorem dX0_init_0 : decode cX0_init 0 = .ok (.aload_n 0, 1) := by decide +kernel
theorem dX0_init_1 : decode cX0_init 1 = .ok (.invokespecial 3, 3) := by decide +kernel
theorem dX0_init_4 : decode cX0_init 4 = .ok (.aload_n 0, 1) := by decide +kernel
theorem dX0_init_5 : decode cX0_init 5 = .ok (.iconst 0, 1) := by decide +kernel
theorem dX0_init_6 : decode cX0_init 6 = .ok (.putfield 9, 3) := by decide +kernel
theorem dX0_init_9 : decode cX0_init 9 = .ok (.aload_n 0, 1) := by decide +kernel
theorem dX0_init_10 : decode cX0_init 10 = .ok (.iconst 0, 1) := by decide +kernel
theorem dX0_init_11 : decode cX0_init 11 = .ok (.putfield 15, 3) := by decide +kernel
theorem dX0_init_14 : decode cX0_init 14 = .ok (.aload_n 0, 1) := by decide +kernel
theorem dX0_init_15 : decode cX0_init 15 = .ok (.iconst 0, 1) := by decide +kernel
theorem dX0_init_16 : decode cX0_init 16 = .ok (.putfield 18, 3) := by decide +kernel
theorem dX0_init_19 : decode cX0_init 19 = .ok (.aload_n 0, 1) := by decide +kernel
theorem dX0_init_20 : decode cX0_init 20 = .ok (.iconst 0, 1) := by decide +kernel
theorem dX0_init_21 : decode cX0_init 21 = .ok (.putfield 21, 3) := by decide +kernel
theorem dX0_init_24 : decode cX0_init 24 = .ok (.aload_n 0, 1) := by decide +kernel
theorem dX0_init_25 : decode cX0_init 25 = .ok (.iconst 0, 1) := by decide +kernel
theorem dX0_init_26 : decode cX0_init 26 = .ok (.putfield 24, 3) := by decide +kernel
theorem dX0_init_29 : decode cX0_init 29 = .ok (.aload_n 0, 1) := by decide +kernel
theorem dX0_init_30 : decode cX0_init 30 = .ok (.bipush 9, 2) := by decide +kernel
theorem dX0_init_32 : decode cX0_init 32 = .ok (.newarray .int, 2) := by decide +kernel
theorem dX0_init_34 : decode cX0_init 34 = .ok (.putfield 27, 3) := by decide +kernel
theorem dX0_init_37 : decode cX0_init 37 = .ok (.aload_n 0, 1) := by decide +kernel
theorem dX0_init_38 : decode cX0_init 38 = .ok (.bipush 9, 2) := by decide +kernel
theorem dX0_init_40 : decode cX0_init 40 = .ok (.newarray .int, 2) := by decide +kernel
theorem dX0_init_42 : decode cX0_init 42 = .ok (.putfield 31, 3) := by decide +kernel
theorem dX0_init_45 : decode cX0_init 45 = .ok (.aload_n 0, 1) := by decide +kernel
theorem dX0_init_46 : decode cX0_init 46 = .ok (.aload_n 1, 1) := by decide +kernel
theorem dX0_init_47 : decode cX0_init 47 = .ok (.putfield 34, 3) := by decide +kernel
theorem dX0_init_50 : decode cX0_init 50 = .ok (.return_, 1) := by decide +kernel
theorem dX1_init_0 : decode cX1_init 0 = .ok (.aload_n 0, 1) := by decide +kernel
theorem dX1_init_1 : decode cX1_init 1 = .ok (.invokespecial 3, 3) := by decide +kernel
theorem dX1_init_4 : decode cX1_init 4 = .ok (.aload_n 0, 1) := by decide +kernel
theorem dX1_init_5 : decode cX1_init 5 = .ok (.iconst 0, 1) := by decide +kernel
theorem dX1_init_6 : decode cX1_init 6 = .ok (.putfield 9, 3) := by decide +kernel
theorem dX1_init_9 : decode cX1_init 9 = .ok (.aload_n 0, 1) := by decide +kernel
theorem dX1_init_10 : decode cX1_init 10 = .ok (.bipush 6, 2) := by decide +kernel
theorem dX1_init_12 : decode cX1_init 12 = .ok (.newarray .int, 2) := by decide +kernel
theorem dX1_init_14 : decode cX1_init 14 = .ok (.putfield 15, 3) := by decide +kernel
theorem dX1_init_17 : decode cX1_init 17 = .ok (.aload_n 0, 1) := by decide +kernel
theorem dX1_init_18 : decode cX1_init 18 = .ok (.bipush 6, 2) := by decide +kernel
theorem dX1_init_20 : decode cX1_init 20 = .ok (.newarray .int, 2) := by decide +kernel
theorem dX1_init_22 : decode cX1_init 22 = .ok (.putfield 19, 3) := by decide +kernel
theorem dX1_init_25 : decode cX1_init 25 = .ok (.aload_n 0, 1) := by decide +kernel
theorem dX1_init_26 : decode cX1_init 26 = .ok (.bipush 6, 2) := by decide +kernel
theorem dX1_init_28 : decode cX1_init 28 = .ok (.newarray .int, 2) := by decide +kernel
theorem dX1_init_30 : decode cX1_init 30 = .ok (.putfield 22, 3) := by decide +kernel
theorem dX1_init_33 : decode cX1_init 33 = .ok (.return_, 1) := by decide +kernel
theorem dX2_init_0 : decode cX2_init 0 = .ok (.aload_n 0, 1) := by decide +kernel
theorem dX2_init_1 : decode cX2_init 1 = .ok (.invokespecial 3, 3) := by decide +kernel
theorem dX2_init_4 : decode cX2_init 4 = .ok (.aload_n 0, 1) := by decide +kernel
theorem dX2_init_5 : decode cX2_init 5 = .ok (.iconst 0, 1) := by decide +kernel
theorem dX2_init_6 : decode cX2_init 6 = .ok (.putfield 9, 3) := by decide +kernel
theorem dX2_init_9 : decode cX2_init 9 = .ok (.aload_n 0, 1) := by decide +kernel
theorem dX2_init_10 : decode cX2_init 10 = .ok (.iconst 0, 1) := by decide +kernel
theorem dX2_init_11 : decode cX2_init 11 = .ok (.putfield 15, 3) := by decide +kernel
theorem dX2_init_14 : decode cX2_init 14 = .ok (.aload_n 0, 1) := by decide +kernel
theorem dX2_init_15 : decode cX2_init 15 = .ok (.bipush 8, 2) := by decide +kernel
theorem dX2_init_17 : decode cX2_init 17 = .ok (.newarray .int, 2) := by decide +kernel
theorem dX2_init_19 : decode cX2_init 19 = .ok (.putfield 18, 3) := by decide +kernel
theorem dX2_init_22 : decode cX2_init 22 = .ok (.aload_n 0, 1) := by decide +kernel
theorem dX2_init_23 : decode cX2_init 23 = .ok (.bipush 8, 2) := by decide +kernel
theorem dX2_init_25 : decode cX2_init 25 = .ok (.newarray .int, 2) := by decide +kernel
theorem dX2_init_27 : decode cX2_init 27 = .ok (.putfield 22, 3) := by decide +kernel
theorem dX2_init_30 : decode cX2_init 30 = .ok (.aload_n 0, 1) := by decide +kernel
theorem dX2_init_31 : decode cX2_init 31 = .ok (.bipush 8, 2) := by decide +kernel
theorem dX2_init_33 : decode cX2_init 33 = .ok (.newarray .int, 2) := by decide +kernel
theorem dX2_init_35 : decode cX2_init 35 = .ok (.putfield 25, 3) := by decide +kernel
theorem dX2_init_38 : decode cX2_init 38 = .ok (.return_, 1) := by decide +kernel
theorem dX3_init_0 : decode cX3_init 0 = .ok (.aload_n 0, 1) := by decide +kernel
theorem dX3_init_1 : decode cX3_init 1 = .ok (.invokespecial 3, 3) := by decide +kernel
theorem dX3_init_4 : decode cX3_init 4 = .ok (.aload_n 0, 1) := by decide +kernel
theorem dX3_init_5 : decode cX3_init 5 = .ok (.bipush (-6), 2) := by decide +kernel
theorem dX3_init_7 : decode cX3_init 7 = .ok (.putfield 9, 3) := by decide +kernel
theorem dX3_init_10 : decode cX3_init 10 = .ok (.aload_n 0, 1) := by decide +kernel
theorem dX3_init_11 : decode cX3_init 11 = .ok (.bipush 7, 2) := by decide +kernel
theorem dX3_init_13 : decode cX3_init 13 = .ok (.newarray .int, 2) := by decide +kernel
theorem dX3_init_15 : decode cX3_init 15 = .ok (.putfield 15, 3) := by decide +kernel
theorem dX3_init_18 : decode cX3_init 18 = .ok (.aload_n 0, 1) := by decide +kernel
theorem dX3_init_19 : decode cX3_init 19 = .ok (.bipush 7, 2) := by decide +kernel
theorem dX3_init_21 : decode cX3_init 21 = .ok (.newarray .int, 2) := by decide +kernel
theorem dX3_init_23 : decode cX3_init 23 = .ok (.putfield 19, 3) := by decide +kernel
theorem dX3_init_26 : decode cX3_init 26 = .ok (.aload_n 0, 1) := by decide +kernel
theorem dX3_init_27 : decode cX3_init 27 = .ok (.iconst 0, 1) := by decide +kernel
theorem dX3_init_28 : decode cX3_init 28 = .ok (.putfield 22, 3) := by decide +kernel
theorem dX3_init_31 : decode cX3_init 31 = .ok (.aload_n 0, 1) := by decide +kernel
theorem dX3_init_32 : decode cX3_init 32 = .ok (.aload_n 1, 1) := by decide +kernel
theorem dX3_init_33 : decode cX3_init 33 = .ok (.putfield 25, 3) := by decide +kernel
theorem dX3_init_36 : decode cX3_init 36 = .ok (.return_, 1) := by decide +kernel
theorem dX4_init_0 : decode cX4_init 0 = .ok (.aload_n 0, 1) := by decide +kernel
theorem dX4_init_1 : decode cX4_init 1 = .ok (.invokespecial 3, 3) := by decide +kernel
theorem dX4_init_4 : decode cX4_init 4 = .ok (.aload_n 0, 1) := by decide +kernel
theorem dX4_init_5 : decode cX4_init 5 = .ok (.iconst 0, 1) := by decide +kernel
theorem dX4_init_6 : decode cX4_init 6 = .ok (.putfield 9, 3) := by decide +kernel
theorem dX4_init_9 : decode cX4_init 9 = .ok (.aload_n 0, 1) := by decide +kernel
theorem dX4_init_10 : decode cX4_init 10 = .ok (.new 15, 3) := by decide +kernel
theorem dX4_init_13 : decode cX4_init 13 = .ok (.dup, 1) := by decide +kernel
theorem dX4_init_14 : decode cX4_init 14 = .ok (.invokespecial 17, 3) := by decide +kernel
theorem dX4_init_17 : decode cX4_init 17 = .ok (.putfield 18, 3) := by decide +kernel
theorem dX4_init_20 : decode cX4_init 20 = .ok (.aload_n 0, 1) := by decide +kernel
theorem dX4_init_21 : decode cX4_init 21 = .ok (.bipush 48, 2) := by decide +kernel
theorem dX4_init_23 : decode cX4_init 23 = .ok (.newarray .int, 2) := by decide +kernel
theorem dX4_init_25 : decode cX4_init 25 = .ok (.putfield 22, 3) := by decide +kernel
theorem dX4_init_28 : decode cX4_init 28 = .ok (.aload_n 0, 1) := by decide +kernel
theorem dX4_init_29 : decode cX4_init 29 = .ok (.bipush 6, 2) := by decide +kernel
theorem dX4_init_31 : decode cX4_init 31 = .ok (.newarray .int, 2) := by decide +kernel
theorem dX4_init_33 : decode cX4_init 33 = .ok (.putfield 26, 3) := by decide +kernel
theorem dX4_init_36 : decode cX4_init 36 = .ok (.aload_n 0, 1) := by decide +kernel
theorem dX4_init_37 : decode cX4_init 37 = .ok (.bipush 6, 2) := by decide +kernel
theorem dX4_init_39 : decode cX4_init 39 = .ok (.newarray .int, 2) := by decide +kernel
theorem dX4_init_41 : decode cX4_init 41 = .ok (.putfield 29, 3) := by decide +kernel
theorem dX4_init_44 : decode cX4_init 44 = .ok (.return_, 1) := by decide +kernel
theorem dX5_init_0 : decode cX5_init 0 = .ok (.aload_n 0, 1) := by decide +kernel
theorem dX5_init_1 : decode cX5_init 1 = .ok (.invokespecial 3, 3) := by decide +kernel
theorem dX5_init_4 : decode cX5_init 4 = .ok (.aload_n 0, 1) := by decide +kernel
theorem dX5_init_5 : decode cX5_init 5 = .ok (.new 9, 3) := by decide +kernel
theorem dX5_init_8 : decode cX5_init 8 = .ok (.dup, 1) := by decide +kernel
theorem dX5_init_9 : decode cX5_init 9 = .ok (.invokespecial 11, 3) := by decide +kernel
theorem dX5_init_12 : decode cX5_init 12 = .ok (.putfield 12, 3) := by decide +kernel
theorem dX5_init_15 : decode cX5_init 15 = .ok (.aload_n 0, 1) := by decide +kernel
theorem dX5_init_16 : decode cX5_init 16 = .ok (.bipush (-6), 2) := by decide +kernel
theorem dX5_init_18 : decode cX5_init 18 = .ok (.putfield 18, 3) := by decide +kernel
theorem dX5_init_21 : decode cX5_init 21 = .ok (.aload_n 0, 1) := by decide +kernel
theorem dX5_init_22 : decode cX5_init 22 = .ok (.bipush (-6), 2) := by decide +kernel
theorem dX5_init_24 : decode cX5_init 24 = .ok (.putfield 22, 3) := by decide +kernel
theorem dX5_init_27 : decode cX5_init 27 = .ok (.aload_n 0, 1) := by decide +kernel
theorem dX5_init_28 : decode cX5_init 28 = .ok (.iconst 0, 1) := by decide +kernel
theorem dX5_init_29 : decode cX5_init 29 = .ok (.putfield 25, 3) := by decide +kernel
theorem dX5_init_32 : decode cX5_init 32 = .ok (.aload_n 0, 1) := by decide +kernel
theorem dX5_init_33 : decode cX5_init 33 = .ok (.iconst 0, 1) := by decide +kernel
theorem dX5_init_34 : decode cX5_init 34 = .ok (.putfield 28, 3) := by decide +kernel
theorem dX5_init_37 : decode cX5_init 37 = .ok (.aload_n 0, 1) := by decide +kernel
theorem dX5_init_38 : decode cX5_init 38 = .ok (.iconst 0, 1) := by decide +kernel
theorem dX5_init_39 : decode cX5_init 39 = .ok (.putfield 31, 3) := by decide +kernel
theorem dX5_init_42 : decode cX5_init 42 = .ok (.aload_n 0, 1) := by decide +kernel
theorem dX5_init_43 : decode cX5_init 43 = .ok (.bipush 9, 2) := by decide +kernel
theorem dX5_init_45 : decode cX5_init 45 = .ok (.newarray .int, 2) := by decide +kernel
theorem dX5_init_47 : decode cX5_init 47 = .ok (.putfield 34, 3) := by decide +kernel
theorem dX5_init_50 : decode cX5_init 50 = .ok (.aload_n 0, 1) := by decide +kernel
theorem dX5_init_51 : decode cX5_init 51 = .ok (.aload_n 1, 1) := by decide +kernel
theorem dX5_init_52 : decode cX5_init 52 = .ok (.putfield 38, 3) := by decide +kernel
theorem dX5_init_55 : decode cX5_init 55 = .ok (.return_, 1) := by decide +kernel
theorem dX6_init_0 : decode cX6_init 0 = .ok (.aload_n 0, 1) := by decide +kernel
theorem dX6_init_1 : decode cX6_init 1 = .ok (.invokespecial 3, 3) := by decide +kernel
theorem dX6_init_4 : decode cX6_init 4 = .ok (.aload_n 0, 1) := by decide +kernel
theorem dX6_init_5 : decode cX6_init 5 = .ok (.getstatic 9, 3) := by decide +kernel
theorem dX6_init_8 : decode cX6_init 8 = .ok (.invokevirtual 13, 3) := by decide +kernel
theorem dX6_init_11 : decode cX6_init 11 = .ok (.checkcast 14, 3) := by decide +kernel
theorem dX6_init_14 : decode cX6_init 14 = .ok (.putfield 18, 3) := by decide +kernel
theorem dX6_init_17 : decode cX6_init 17 = .ok (.aload_n 0, 1) := by decide +kernel
theorem dX6_init_18 : decode cX6_init 18 = .ok (.getstatic 23, 3) := by decide +kernel
theorem dX6_init_21 : decode cX6_init 21 = .ok (.invokevirtual 13, 3) := by decide +kernel
theorem dX6_init_24 : decode cX6_init 24 = .ok (.checkcast 14, 3) := by decide +kernel
theorem dX6_init_27 : decode cX6_init 27 = .ok (.putfield 26, 3) := by decide +kernel
theorem dX6_init_30 : decode cX6_init 30 = .ok (.aload_n 0, 1) := by decide +kernel
theorem dX6_init_31 : decode cX6_init 31 = .ok (.new 29, 3) := by decide +kernel
theorem dX6_init_34 : decode cX6_init 34 = .ok (.dup, 1) := by decide +kernel
theorem dX6_init_35 : decode cX6_init 35 = .ok (.invokespecial 31, 3) := by decide +kernel
theorem dX6_init_38 : decode cX6_init 38 = .ok (.putfield 32, 3) := by decide +kernel
theorem dX6_init_41 : decode cX6_init 41 = .ok (.aload_n 0, 1) := by decide +kernel
theorem dX6_init_42 : decode cX6_init 42 = .ok (.new 36, 3) := by decide +kernel
theorem dX6_init_45 : decode cX6_init 45 = .ok (.dup, 1) := by decide +kernel
theorem dX6_init_46 : decode cX6_init 46 = .ok (.invokespecial 38, 3) := by decide +kernel
theorem dX6_init_49 : decode cX6_init 49 = .ok (.putfield 39, 3) := by decide +kernel
theorem dX6_init_52 : decode cX6_init 52 = .ok (.return_, 1) := by decide +kernel
theorem dX7_init_0 : decode cX7_init 0 = .ok (.aload_n 0, 1) := by decide +kernel
theorem dX7_init_1 : decode cX7_init 1 = .ok (.invokespecial 1, 3) := by decide +kernel
theorem dX7_init_4 : decode cX7_init 4 = .ok (.aload_n 0, 1) := by decide +kernel
theorem dX7_init_5 : decode cX7_init 5 = .ok (.new 7, 3) := by decide +kernel
theorem dX7_init_8 : decode cX7_init 8 = .ok (.dup, 1) := by decide +kernel
theorem dX7_init_9 : decode cX7_init 9 = .ok (.invokespecial 9, 3) := by decide +kernel
theorem dX7_init_12 : decode cX7_init 12 = .ok (.putfield 10, 3) := by decide +kernel
theorem dX7_init_15 : decode cX7_init 15 = .ok (.aload_n 0, 1) := by decide +kernel
theorem dX7_init_16 : decode cX7_init 16 = .ok (.new 16, 3) := by decide +kernel
theorem dX7_init_19 : decode cX7_init 19 = .ok (.dup, 1) := by decide +kernel
theorem dX7_init_20 : decode cX7_init 20 = .ok (.invokespecial 18, 3) := by decide +kernel
theorem dX7_init_23 : decode cX7_init 23 = .ok (.putfield 19, 3) := by decide +kernel
theorem dX7_init_26 : decode cX7_init 26 = .ok (.aload_n 0, 1) := by decide +kernel
theorem dX7_init_27 : decode cX7_init 27 = .ok (.new 16, 3) := by decide +kernel
theorem dX7_init_30 : decode cX7_init 30 = .ok (.dup, 1) := by decide +kernel
theorem dX7_init_31 : decode cX7_init 31 = .ok (.invokespecial 18, 3) := by decide +kernel
theorem dX7_init_34 : decode cX7_init 34 = .ok (.putfield 23, 3) := by decide +kernel
theorem dX7_init_37 : decode cX7_init 37 = .ok (.aload_n 0, 1) := by decide +kernel
theorem dX7_init_38 : decode cX7_init 38 = .ok (.new 16, 3) := by decide +kernel
theorem dX7_init_41 : decode cX7_init 41 = .ok (.dup, 1) := by decide +kernel
theorem dX7_init_42 : decode cX7_init 42 = .ok (.invokespecial 18, 3) := by decide +kernel
theorem dX7_init_45 : decode cX7_init 45 = .ok (.putfield 26, 3) := by decide +kernel
theorem dX7_init_48 : decode cX7_init 48 = .ok (.aload_n 0, 1) := by decide +kernel
theorem dX7_init_49 : decode cX7_init 49 = .ok (.iconst 0, 1) := by decide +kernel
theorem dX7_init_50 : decode cX7_init 50 = .ok (.putfield 29, 3) := by decide +kernel
theorem dX7_init_53 : decode cX7_init 53 = .ok (.aload_n 0, 1) := by decide +kernel
theorem dX7_init_54 : decode cX7_init 54 = .ok (.new 33, 3) := by decide +kernel
theorem dX7_init_57 : decode cX7_init 57 = .ok (.dup, 1) := by decide +kernel
theorem dX7_init_58 : decode cX7_init 58 = .ok (.aload_n 0, 1) := by decide +kernel
theorem dX7_init_59 : decode cX7_init 59 = .ok (.getfield 19, 3) := by decide +kernel
theorem dX7_init_62 : decode cX7_init 62 = .ok (.invokespecial 35, 3) := by decide +kernel
theorem dX7_init_65 : decode cX7_init 65 = .ok (.putfield 38, 3) := by decide +kernel
theorem dX7_init_68 : decode cX7_init 68 = .ok (.aload_n 0, 1) := by decide +kernel
theorem dX7_init_69 : decode cX7_init 69 = .ok (.new 42, 3) := by decide +kernel
theorem dX7_init_72 : decode cX7_init 72 = .ok (.dup, 1) := by decide +kernel
theorem dX7_init_73 : decode cX7_init 73 = .ok (.aload_n 0, 1) := by decide +kernel
theorem dX7_init_74 : decode cX7_init 74 = .ok (.getfield 19, 3) := by decide +kernel
theorem dX7_init_77 : decode cX7_init 77 = .ok (.invokespecial 44, 3) := by decide +kernel
theorem dX7_init_80 : decode cX7_init 80 = .ok (.putfield 45, 3) := by decide +kernel
theorem dX7_init_83 : decode cX7_init 83 = .ok (.aload_n 0, 1) := by decide +kernel
theorem dX7_init_84 : decode cX7_init 84 = .ok (.new 49, 3) := by decide +kernel
theorem dX7_init_87 : decode cX7_init 87 = .ok (.dup, 1) := by decide +kernel
theorem dX7_init_88 : decode cX7_init 88 = .ok (.aload_n 0, 1) := by decide +kernel
theorem dX7_init_89 : decode cX7_init 89 = .ok (.getfield 19, 3) := by decide +kernel
theorem dX7_init_92 : decode cX7_init 92 = .ok (.invokespecial 51, 3) := by decide +kernel
theorem dX7_init_95 : decode cX7_init 95 = .ok (.putfield 52, 3) := by decide +kernel
theorem dX7_init_98 : decode cX7_init 98 = .ok (.aload_n 0, 1) := by decide +kernel
theorem dX7_init_99 : decode cX7_init 99 = .ok (.bipush 16, 2) := by decide +kernel
theorem dX7_init_101 : decode cX7_init 101 = .ok (.newarray .int, 2) := by decide +kernel
theorem dX7_init_103 : decode cX7_init 103 = .ok (.putfield 56, 3) := by decide +kernel
theorem dX7_init_106 : decode cX7_init 106 = .ok (.aload_n 0, 1) := by decide +kernel
theorem dX7_init_107 : decode cX7_init 107 = .ok (.sipush 128, 3) := by decide +kernel
theorem dX7_init_110 : decode cX7_init 110 = .ok (.newarray .int, 2) := by decide +kernel
theorem dX7_init_112 : decode cX7_init 112 = .ok (.putfield 60, 3) := by decide +kernel
theorem dX7_init_115 : decode cX7_init 115 = .ok (.aload_n 0, 1) := by decide +kernel
theorem dX7_init_116 : decode cX7_init 116 = .ok (.getfield 19, 3) := by decide +kernel
theorem dX7_init_119 : decode cX7_init 119 = .ok (.getfield 63, 3) := by decide +kernel
theorem dX7_init_122 : decode cX7_init 122 = .ok (.iconst 0, 1) := by decide +kernel
theorem dX7_init_123 : decode cX7_init 123 = .ok (.iconst 0, 1) := by decide +kernel
theorem dX7_init_124 : decode cX7_init 124 = .ok (.iconst 0, 1) := by decide +kernel
theorem dX7_init_125 : decode cX7_init 125 = .ok (.invokevirtual 67, 3) := by decide +kernel
theorem dX7_init_128 : decode cX7_init 128 = .ok (.return_, 1) := by decide +kernel
theorem dX8_init_0 : decode cX8_init 0 = .ok (.aload_n 0, 1) := by decide +kernel
theorem dX8_init_1 : decode cX8_init 1 = .ok (.invokespecial 1, 3) := by decide +kernel
theorem dX8_init_4 : decode cX8_init 4 = .ok (.aload_n 0, 1) := by decide +kernel
theorem dX8_init_5 : decode cX8_init 5 = .ok (.iconst 5, 1) := by decide +kernel
theorem dX8_init_6 : decode cX8_init 6 = .ok (.newarray .int, 2) := by decide +kernel
theorem dX8_init_8 : decode cX8_init 8 = .ok (.putfield 7, 3) := by decide +kernel
theorem dX8_init_11 : decode cX8_init 11 = .ok (.aload_n 0, 1) := by decide +kernel
theorem dX8_init_12 : decode cX8_init 12 = .ok (.bipush 30, 2) := by decide +kernel
theorem dX8_init_14 : decode cX8_init 14 = .ok (.newarray .int, 2) := by decide +kernel
theorem dX8_init_16 : decode cX8_init 16 = .ok (.putfield 13, 3) := by decide +kernel
theorem dX8_init_19 : decode cX8_init 19 = .ok (.aload_n 0, 1) := by decide +kernel
theorem dX8_init_20 : decode cX8_init 20 = .ok (.bipush 48, 2) := by decide +kernel
theorem dX8_init_22 : decode cX8_init 22 = .ok (.newarray .int, 2) := by decide +kernel
theorem dX8_init_24 : decode cX8_init 24 = .ok (.putfield 16, 3) := by decide +kernel
theorem dX8_init_27 : decode cX8_init 27 = .ok (.aload_n 0, 1) := by decide +kernel
theorem dX8_init_28 : decode cX8_init 28 = .ok (.iconst 1, 1) := by decide +kernel
theorem dX8_init_29 : decode cX8_init 29 = .ok (.putfield 19, 3) := by decide +kernel
theorem dX8_init_32 : decode cX8_init 32 = .ok (.aload_n 0, 1) := by decide +kernel
theorem dX8_init_33 : decode cX8_init 33 = .ok (.bipush 24, 2) := by decide +kernel
theorem dX8_init_35 : decode cX8_init 35 = .ok (.newarray .int, 2) := by decide +kernel
theorem dX8_init_37 : decode cX8_init 37 = .ok (.putfield 23, 3) := by decide +kernel
theorem dX8_init_40 : decode cX8_init 40 = .ok (.aload_n 0, 1) := by decide +kernel
theorem dX8_init_41 : decode cX8_init 41 = .ok (.bipush 18, 2) := by decide +kernel
theorem dX8_init_43 : decode cX8_init 43 = .ok (.newarray .int, 2) := by decide +kernel
theorem dX8_init_45 : decode cX8_init 45 = .ok (.putfield 26, 3) := by decide +kernel
theorem dX8_init_48 : decode cX8_init 48 = .ok (.aload_n 0, 1) := by decide +kernel
theorem dX8_init_49 : decode cX8_init 49 = .ok (.bipush 27, 2) := by decide +kernel
theorem dX8_init_51 : decode cX8_init 51 = .ok (.newarray .int, 2) := by decide +kernel
theorem dX8_init_53 : decode cX8_init 53 = .ok (.putfield 29, 3) := by decide +kernel
theorem dX8_init_56 : decode cX8_init 56 = .ok (.aload_n 0, 1) := by decide +kernel
theorem dX8_init_57 : decode cX8_init 57 = .ok (.bipush 10, 2) := by decide +kernel
theorem dX8_init_59 : decode cX8_init 59 = .ok (.newarray .int, 2) := by decide +kernel
theorem dX8_init_61 : decode cX8_init 61 = .ok (.putfield 32, 3) := by decide +kernel
theorem dX8_init_64 : decode cX8_init 64 = .ok (.aload_n 0, 1) := by decide +kernel
theorem dX8_init_65 : decode cX8_init 65 = .ok (.bipush 10, 2) := by decide +kernel
theorem dX8_init_67 : decode cX8_init 67 = .ok (.newarray .int, 2) := by decide +kernel
theorem dX8_init_69 : decode cX8_init 69 = .ok (.putfield 35, 3) := by decide +kernel
theorem dX8_init_72 : decode cX8_init 72 = .ok (.aload_n 0, 1) := by decide +kernel
theorem dX8_init_73 : decode cX8_init 73 = .ok (.bipush 8, 2) := by decide +kernel
theorem dX8_init_75 : decode cX8_init 75 = .ok (.newarray .int, 2) := by decide +kernel
theorem dX8_init_77 : decode cX8_init 77 = .ok (.putfield 38, 3) := by decide +kernel
theorem dX8_init_80 : decode cX8_init 80 = .ok (.aload_n 0, 1) := by decide +kernel
theorem dX8_init_81 : decode cX8_init 81 = .ok (.bipush 16, 2) := by decide +kernel
theorem dX8_init_83 : decode cX8_init 83 = .ok (.newarray .int, 2) := by decide +kernel
theorem dX8_init_85 : decode cX8_init 85 = .ok (.putfield 41, 3) := by decide +kernel
theorem dX8_init_88 : decode cX8_init 88 = .ok (.aload_n 0, 1) := by decide +kernel
theorem dX8_init_89 : decode cX8_init 89 = .ok (.bipush 6, 2) := by decide +kernel
theorem dX8_init_91 : decode cX8_init 91 = .ok (.newarray .int, 2) := by decide +kernel
theorem dX8_init_93 : decode cX8_init 93 = .ok (.putfield 44, 3) := by decide +kernel
theorem dX8_init_96 : decode cX8_init 96 = .ok (.aload_n 0, 1) := by decide +kernel
theorem dX8_init_97 : decode cX8_init 97 = .ok (.sipush 160, 3) := by decide +kernel
theorem dX8_init_100 : decode cX8_init 100 = .ok (.newarray .int, 2) := by decide +kernel
theorem dX8_init_102 : decode cX8_init 102 = .ok (.putfield 47, 3) := by decide +kernel
theorem dX8_init_105 : decode cX8_init 105 = .ok (.aload_n 0, 1) := by decide +kernel
theorem dX8_init_106 : decode cX8_init 106 = .ok (.iconst 2, 1) := by decide +kernel
theorem dX8_init_107 : decode cX8_init 107 = .ok (.newarray .boolean, 2) := by decide +kernel
theorem dX8_init_109 : decode cX8_init 109 = .ok (.putfield 50, 3) := by decide +kernel
theorem dX8_init_112 : decode cX8_init 112 = .ok (.aload_n 0, 1) := by decide +kernel
theorem dX8_init_113 : decode cX8_init 113 = .ok (.getfield 7, 3) := by decide +kernel
theorem dX8_init_116 : decode cX8_init 116 = .ok (.iconst 0, 1) := by decide +kernel
theorem dX8_init_117 : decode cX8_init 117 = .ok (.bipush 20, 2) := by decide +kernel
theorem dX8_init_119 : decode cX8_init 119 = .ok (.iastore, 1) := by decide +kernel
theorem dX8_init_120 : decode cX8_init 120 = .ok (.aload_n 0, 1) := by decide +kernel
theorem dX8_init_121 : decode cX8_init 121 = .ok (.getfield 7, 3) := by decide +kernel
theorem dX8_init_124 : decode cX8_init 124 = .ok (.iconst 1, 1) := by decide +kernel
theorem dX8_init_125 : decode cX8_init 125 = .ok (.sipush 800, 3) := by decide +kernel
theorem dX8_init_128 : decode cX8_init 128 = .ok (.iastore, 1) := by decide +kernel
theorem dX8_init_129 : decode cX8_init 129 = .ok (.aload_n 0, 1) := by decide +kernel
theorem dX8_init_130 : decode cX8_init 130 = .ok (.getfield 7, 3) := by decide +kernel
theorem dX8_init_133 : decode cX8_init 133 = .ok (.iconst 2, 1) := by decide +kernel
theorem dX8_init_134 : decode cX8_init 134 = .ok (.bipush 100, 2) := by decide +kernel
theorem dX8_init_136 : decode cX8_init 136 = .ok (.iastore, 1) := by decide +kernel
theorem dX8_init_137 : decode cX8_init 137 = .ok (.aload_n 0, 1) := by decide +kernel
theorem dX8_init_138 : decode cX8_init 138 = .ok (.getfield 7, 3) := by decide +kernel
theorem dX8_init_141 : decode cX8_init 141 = .ok (.iconst 3, 1) := by decide +kernel
theorem dX8_init_142 : decode cX8_init 142 = .ok (.iconst 5, 1) := by decide +kernel
theorem dX8_init_143 : decode cX8_init 143 = .ok (.iastore, 1) := by decide +kernel
theorem dX8_init_144 : decode cX8_init 144 = .ok (.aload_n 0, 1) := by decide +kernel
theorem dX8_init_145 : decode cX8_init 145 = .ok (.getfield 7, 3) := by decide +kernel
theorem dX8_init_148 : decode cX8_init 148 = .ok (.iconst 4, 1) := by decide +kernel
theorem dX8_init_149 : decode cX8_init 149 = .ok (.bipush 80, 2) := by decide +kernel
theorem dX8_init_151 : decode cX8_init 151 = .ok (.iastore, 1) := by decide +kernel
theorem dX8_init_152 : decode cX8_init 152 = .ok (.aload_n 0, 1) := by decide +kernel
theorem dX8_init_153 : decode cX8_init 153 = .ok (.iconst 0, 1) := by decide +kernel
theorem dX8_init_154 : decode cX8_init 154 = .ok (.sipush 380, 3) := by decide +kernel
theorem dX8_init_157 : decode cX8_init 157 = .ok (.sipush 1000, 3) := by decide +kernel
theorem dX8_init_160 : decode cX8_init 160 = .ok (.sipush 600, 3) := by decide +kernel
theorem dX8_init_163 : decode cX8_init 163 = .ok (.iconst 5, 1) := by decide +kernel
theorem dX8_init_164 : decode cX8_init 164 = .ok (.invokevirtual 54, 3) := by decide +kernel
theorem dX8_init_167 : decode cX8_init 167 = .ok (.aload_n 0, 1) := by decide +kernel
theorem dX8_init_168 : decode cX8_init 168 = .ok (.iconst 1, 1) := by decide +kernel
theorem dX8_init_169 : decode cX8_init 169 = .ok (.sipush 600, 3) := by decide +kernel
theorem dX8_init_172 : decode cX8_init 172 = .ok (.sipush 1000, 3) := by decide +kernel
theorem dX8_init_175 : decode cX8_init 175 = .ok (.sipush 1000, 3) := by decide +kernel
theorem dX8_init_178 : decode cX8_init 178 = .ok (.bipush 8, 2) := by decide +kernel
theorem dX8_init_180 : decode cX8_init 180 = .ok (.invokevirtual 54, 3) := by decide +kernel
theorem dX8_init_183 : decode cX8_init 183 = .ok (.aload_n 0, 1) := by decide +kernel
theorem dX8_init_184 : decode cX8_init 184 = .ok (.iconst 2, 1) := by decide +kernel
theorem dX8_init_185 : decode cX8_init 185 = .ok (.sipush 650, 3) := by decide +kernel
theorem dX8_init_188 : decode cX8_init 188 = .ok (.sipush 1000, 3) := by decide +kernel
theorem dX8_init_191 : decode cX8_init 191 = .ok (.sipush 900, 3) := by decide +kernel
theorem dX8_init_194 : decode cX8_init 194 = .ok (.bipush 9, 2) := by decide +kernel
theorem dX8_init_196 : decode cX8_init 196 = .ok (.invokevirtual 54, 3) := by decide +kernel
theorem dX8_init_199 : decode cX8_init 199 = .ok (.aload_n 0, 1) := by decide +kernel
theorem dX8_init_200 : decode cX8_init 200 = .ok (.iconst 3, 1) := by decide +kernel
theorem dX8_init_201 : decode cX8_init 201 = .ok (.sipush 150, 3) := by decide +kernel
theorem dX8_init_204 : decode cX8_init 204 = .ok (.sipush 350, 3) := by decide +kernel
theorem dX8_init_207 : decode cX8_init 207 = .ok (.sipush 200, 3) := by decide +kernel
theorem dX8_init_210 : decode cX8_init 210 = .ok (.iconst 3, 1) := by decide +kernel
theorem dX8_init_211 : decode cX8_init 211 = .ok (.invokevirtual 54, 3) := by decide +kernel
theorem dX8_init_214 : decode cX8_init 214 = .ok (.aload_n 0, 1) := by decide +kernel
theorem dX8_init_215 : decode cX8_init 215 = .ok (.iconst 4, 1) := by decide +kernel
theorem dX8_init_216 : decode cX8_init 216 = .ok (.sipush 200, 3) := by decide +kernel
theorem dX8_init_219 : decode cX8_init 219 = .ok (.sipush 300, 3) := by decide +kernel
theorem dX8_init_222 : decode cX8_init 222 = .ok (.bipush 100, 2) := by decide +kernel
theorem dX8_init_224 : decode cX8_init 224 = .ok (.bipush 6, 2) := by decide +kernel
theorem dX8_init_226 : decode cX8_init 226 = .ok (.invokevirtual 54, 3) := by decide +kernel
theorem dX8_init_229 : decode cX8_init 229 = .ok (.aload_n 0, 1) := by decide +kernel
theorem dX8_init_230 : decode cX8_init 230 = .ok (.iconst 5, 1) := by decide +kernel
theorem dX8_init_231 : decode cX8_init 231 = .ok (.sipush 500, 3) := by decide +kernel
theorem dX8_init_234 : decode cX8_init 234 = .ok (.sipush 1000, 3) := by decide +kernel
theorem dX8_init_237 : decode cX8_init 237 = .ok (.sipush 1200, 3) := by decide +kernel
theorem dX8_init_240 : decode cX8_init 240 = .ok (.iconst 4, 1) := by decide +kernel
theorem dX8_init_241 : decode cX8_init 241 = .ok (.invokevirtual 54, 3) := by decide +kernel
theorem dX8_init_244 : decode cX8_init 244 = .ok (.aload_n 0, 1) := by decide +kernel
theorem dX8_init_245 : decode cX8_init 245 = .ok (.getfield 23, 3) := by decide +kernel
theorem dX8_init_248 : decode cX8_init 248 = .ok (.iconst 2, 1) := by decide +kernel
theorem dX8_init_249 : decode cX8_init 249 = .ok (.bipush (-6), 2) := by decide +kernel
theorem dX8_init_251 : decode cX8_init 251 = .ok (.iastore, 1) := by decide +kernel
theorem dX8_init_252 : decode cX8_init 252 = .ok (.return_, 1) := by decide +kernel
theorem dL_law_0 : decode cL_law 0 = .ok (.new 7, 3) := by decide +kernel
theorem dL_law_3 : decode cL_law 3 = .ok (.dup, 1) := by decide +kernel
theorem dL_law_4 : decode cL_law 4 = .ok (.invokespecial 9, 3) := by decide +kernel
theorem dL_law_7 : decode cL_law 7 = .ok (.astore_n 1, 1) := by decide +kernel
theorem dL_law_8 : decode cL_law 8 = .ok (.new 10, 3) := by decide +kernel
theorem dL_law_11 : decode cL_law 11 = .ok (.dup, 1) := by decide +kernel
theorem dL_law_12 : decode cL_law 12 = .ok (.invokespecial 12, 3) := by decide +kernel
theorem dL_law_15 : decode cL_law 15 = .ok (.astore_n 2, 1) := by decide +kernel
theorem dL_law_16 : decode cL_law 16 = .ok (.iconst 0, 1) := by decide +kernel
theorem dL_law_17 : decode cL_law 17 = .ok (.istore_n 3, 1) := by decide +kernel
end
section
/-! the shapes of the objects (none: an int; else kind, length and how far behind the object the referred cell lies), the static tables, the layout -/
def mSh (c : Nat) : List (Option (Nat × Nat × Nat)) := match c with
  | 0 => [none, none, none, none, none, some (6, 0, 12), some (50, 9, 1), some (50, 9, 2)]
  | 1 => [none, some (50, 6, 1), some (50, 6, 2), some (50, 6, 3)]
  | 2 => [none, none, some (50, 8, 1), some (50, 8, 2), some (50, 8, 3)]
  | 3 => [none, some (50, 7, 1), some (6, 0, 3), some (50, 7, 2), none]
  | 4 => [none, some (2, 0, 1), some (50, 48, 5), some (50, 6, 6), some (50, 6, 7)]
  | 5 => [some (2, 0, 1), none, none, none, some (6, 0, 9), none, none, some (50, 9, 5)]
  | 6 => [some (50, 5, 1), some (50, 30, 2), some (2, 0, 3), some (1, 0, 7)]
  | 7 => [some (4, 0, 1), some (6, 0, 21), some (6, 0, 32), some (6, 0, 43), none, some (0, 0, 9), some (5, 0, 12), some (3, 0, 18), some (50, 16, 54), some (50, 128, 55)]
  | 8 => [some (50, 5, 1), some (50, 30, 2), none, some (50, 48, 3), none, some (50, 24, 4), none, none, some (50, 18, 5), none, some (50, 27, 6), some (50, 10, 7), some (50, 10, 8), none, none, none, none, none, some (50, 8, 9), some (50, 16, 10), some (50, 6, 11), some (50, 160, 12), some (52, 2, 13)]
  | _ => []
def mStT : List (String × String × Nat) := [("HeatDown", "SPRING_FIRST", 5), ("HeatDown", "SPRING_LOW", 5), ("HeatDown", "SPRING_HIGH", 5), ("HeatDown", "KIND_FIRST", 30), ("HeatDown", "KIND_HIGH", 5), ("HeatDown", "KIND_SIGNS", 6)]
def mLay : List (Nat × Nat) := [(8, 0), (50, 5), (50, 30), (50, 48), (50, 24), (50, 18), (50, 27), (50, 10), (50, 10), (50, 8), (50, 16), (50, 6), (50, 160), (52, 2), (7, 0), (4, 0), (2, 0), (50, 8), (50, 8), (50, 8), (50, 48), (50, 6), (50, 6), (0, 0), (50, 9), (50, 9), (5, 0), (2, 0), (50, 8), (50, 8), (50, 8), (50, 9), (3, 0), (50, 7), (50, 7), (6, 0), (50, 5), (50, 30), (2, 0), (50, 8), (50, 8), (50, 8), (1, 0), (50, 6), (50, 6), (50, 6), (6, 0), (50, 5), (50, 30), (2, 0), (50, 8), (50, 8), (50, 8), (1, 0), (50, 6), (50, 6), (50, 6), (6, 0), (50, 5), (50, 30), (2, 0), (50, 8), (50, 8), (50, 8), (1, 0), (50, 6), (50, 6), (50, 6), (50, 16), (50, 128)]
end
section
/-! THE SMALL MACHINE: a weakest precondition over decoded instructions, a memory of ints (cell, place), references as (kind, length, cell) -/
abbrev mV : Type := Option (Int32 ⊕ (Nat × Nat × Nat))
abbrev mI (x : Int32) : mV := some (.inl x)
abbrev mR (kd len id : Nat) : mV := some (.inr (kd, len, id))
abbrev mM : Type := Nat → Nat → Int32
def up (M : mM) (k j : Nat) (v : Int32) : mM := fun k' j' => if k' = k ∧ j' = j then v else M k' j'
abbrev mIns : Type := Nat × Instr × Nat × List Nat × Int32
abbrev mQ : Type := mV → mM → Prop
def p1 (st : List mV) (f : Int32 → List mV → Prop) : Prop := match st with
  | some (.inl x) :: r => f x r
  | _ => False
def p2 (st : List mV) (f : Int32 → Int32 → List mV → Prop) : Prop := match st with
  | some (.inl y) :: some (.inl x) :: r => f x y r
  | _ => False
def pR (st : List mV) (f : Nat → Nat → Nat → List mV → Prop) : Prop := match st with
  | some (.inr (kd, len, id)) :: r => f kd len id r
  | _ => False
def pIR (st : List mV) (f : Int32 → Nat → Nat → Nat → List mV → Prop) : Prop := match st with
  | some (.inl x) :: some (.inr (kd, len, id)) :: r => f x kd len id r
  | _ => False
def pIIR (st : List mV) (f : Int32 → Int32 → Nat → Nat → Nat → List mV → Prop) : Prop := match st with
  | some (.inl x) :: some (.inl i) :: some (.inr (kd, len, id)) :: r => f x i kd len id r
  | _ => False
def a1 (aux : List Nat) (f : Nat → Prop) : Prop := match aux with
  | [a] => f a
  | _ => False
def a2 (aux : List Nat) (f : Nat → Nat → Prop) : Prop := match aux with
  | [a, b] => f a b
  | _ => False
def a3 (aux : List Nat) (f : Nat → Nat → Nat → Prop) : Prop := match aux with
  | [a, b, c] => f a b c
  | _ => False
def a4 (aux : List Nat) (f : Nat → Nat → Nat → Nat → Prop) : Prop := match aux with
  | [a, b, c, d] => f a b c d
  | _ => False
/-- the receiver is an object of class ci -/
def rcv (ci : Nat) (as : List mV) (P : Prop) : Prop := match as with
  | some (.inr (kd, _, _)) :: _ => if kd = ci then P else False
  | _ => False
/-- at most eight values lie below a call's arguments -/
def lim (r : List mV) (P : Prop) : Prop := if r.length ≤ 8 then P else False
def ldI (ls : List mV) (i : Nat) (f : Int32 → Prop) : Prop := match ls[i]? with
  | some (some (.inl x)) => f x
  | _ => False
def ldR (ls : List mV) (i : Nat) (f : Nat → Nat → Nat → Prop) : Prop := match ls[i]? with
  | some (some (.inr (kd, len, id))) => f kd len id
  | _ => False
def sto (ls : List mV) (i : Nat) (v : mV) (f : List mV → Prop) : Prop := match ls[i]? with
  | some _ => f (ls.set i v)
  | none => False
def tk : Nat → List mV → List mV → (List mV → List mV → Prop) → Prop
  | 0, st, acc, f => f acc st
  | n + 1, v :: st, acc, f => tk n st (v :: acc) f
  | _ + 1, [], _, _ => False
def rv (ret : Nat) (v : mV) (f : List mV → Prop) : Prop := match ret, v with
  | 0, none => f []
  | 1, some (.inl x) => f [mI x]
  | 2, some (.inr (kd, len, id)) => f [mR kd len id]
  | _, _ => False
def tsw (x : Int32) : List Nat → Int → (Nat → Prop) → Prop
  | [], _, _ => True
  | t :: ts, n, f => (x.toInt = n → f t) ∧ tsw x ts (n + 1) f
def cc1 (c : Jvm.ClassFile.Cond) (x : Int32) (A B : Prop) : Prop := match c with
  | .eq => (x = 0 → A) ∧ (¬ x = 0 → B)
  | .ne => (¬ x = 0 → A) ∧ (x = 0 → B)
  | .lt => (x < 0 → A) ∧ (¬ x < 0 → B)
  | .ge => (0 ≤ x → A) ∧ (¬ 0 ≤ x → B)
  | .gt => (0 < x → A) ∧ (¬ 0 < x → B)
  | .le => (x ≤ 0 → A) ∧ (¬ x ≤ 0 → B)
def cc2 (c : Jvm.ClassFile.Cond) (x y : Int32) (A B : Prop) : Prop := match c with
  | .eq => (x = y → A) ∧ (¬ x = y → B)
  | .ne => (¬ x = y → A) ∧ (x = y → B)
  | .lt => (x < y → A) ∧ (¬ x < y → B)
  | .ge => (y ≤ x → A) ∧ (¬ y ≤ x → B)
  | .gt => (y < x → A) ∧ (¬ y < x → B)
  | .le => (x ≤ y → A) ∧ (¬ x ≤ y → B)
def gtf (ci j kd id : Nat) (M : mM) (f : mV → Prop) : Prop := if kd = ci then (match (mSh ci)[j]? with
  | some none => f (mI (M id j))
  | some (some (kd', len', off)) => f (mR kd' len' (id + off))
  | none => False) else False
def ptf (ci j kd id : Nat) (M : mM) (v : Int32) (f : mM → Prop) : Prop := if kd = ci then (match (mSh ci)[j]? with
  | some none => f (up M id j v)
  | _ => False) else False
def ald (kd len id : Nat) (i : Int32) (M : mM) (f : Int32 → Prop) : Prop := if kd = 50 then (vp_in i len ∧ f (M id i.toNatClampNeg)) else if kd = 51 then (vp_in i len ∧ f (M (1000 + id) i.toNatClampNeg)) else False
def ast (kd len id : Nat) (i v : Int32) (M : mM) (f : mM → Prop) : Prop := if kd = 50 then (vp_in i len ∧ f (up M id i.toNatClampNeg v)) else False
def bld (kd len id : Nat) (i : Int32) (M : mM) (f : Int32 → Prop) : Prop := if kd = 52 then (vp_in i len ∧ f (M id i.toNatClampNeg)) else False
def bst (kd len id : Nat) (i v : Int32) (M : mM) (f : mM → Prop) : Prop := if kd = 52 then (vp_in i len ∧ f (up M id i.toNatClampNeg (vp_nar .boolean v))) else False
def aln (kd len : Nat) (f : Int32 → Prop) : Prop := if kd = 50 then f (Int32.ofNat len) else if kd = 51 then f (Int32.ofNat len) else False
def ire (b : Nat) (x : Int32) (A : Prop) : Prop := match b with
  | 0 => A
  | 1 => (x = 0 ∨ x = 1) ∧ A
  | _ => False
def mmx (t : Nat) (x y : Int32) : Int32 := match t with
  | 0 => if x < y then y else x
  | _ => if y < x then y else x
def stp (K : Nat → List mV → List mV → mM → Prop) (Rt : mQ) (Cl : Nat → List mV → mM → mQ → Prop) (i : Instr) (aux : List Nat) (k : Int32) (nx : List mV → List mV → mM → Prop) (ls st : List mV) (M : mM) : Prop := match i with
  | .iconst _ => nx ls (mI k :: st) M
  | .bipush _ => nx ls (mI k :: st) M
  | .sipush _ => nx ls (mI k :: st) M
  | .ldc _ => nx ls (mI k :: st) M
  | .ldc_w _ => nx ls (mI k :: st) M
  | .iload_n n => ldI ls n fun x => nx ls (mI x :: st) M
  | .iload n => ldI ls n fun x => nx ls (mI x :: st) M
  | .aload_n n => ldR ls n fun kd len id => nx ls (mR kd len id :: st) M
  | .aload n => ldR ls n fun kd len id => nx ls (mR kd len id :: st) M
  | .istore_n n => p1 st fun x r => sto ls n (mI x) fun ls' => nx ls' r M
  | .istore n => p1 st fun x r => sto ls n (mI x) fun ls' => nx ls' r M
  | .astore_n n => pR st fun kd len id r => sto ls n (mR kd len id) fun ls' => nx ls' r M
  | .astore n => pR st fun kd len id r => sto ls n (mR kd len id) fun ls' => nx ls' r M
  | .iinc n _ => ldI ls n fun x => sto ls n (mI (x + k)) fun ls' => nx ls' st M
  | .iadd => p2 st fun x y r => nx ls (mI (x + y) :: r) M
  | .isub => p2 st fun x y r => nx ls (mI (x - y) :: r) M
  | .imul => p2 st fun x y r => nx ls (mI (x * y) :: r) M
  | .iand => p2 st fun x y r => nx ls (mI (x &&& y) :: r) M
  | .ior => p2 st fun x y r => nx ls (mI (x ||| y) :: r) M
  | .ixor => p2 st fun x y r => nx ls (mI (x ^^^ y) :: r) M
  | .ishl => p2 st fun x y r => nx ls (mI (x <<< (y &&& 31)) :: r) M
  | .ishr => p2 st fun x y r => nx ls (mI (x >>> (y &&& 31)) :: r) M
  | .iushr => p2 st fun x y r => nx ls (mI ((x.toUInt32 >>> (y.toUInt32 &&& Int32.toUInt32 31)).toInt32) :: r) M
  | .idiv => p2 st fun x y r => ¬ y = 0 ∧ nx ls (mI (x / y) :: r) M
  | .irem => p2 st fun x y r => ¬ y = 0 ∧ nx ls (mI (x - x / y * y) :: r) M
  | .pop => match st with
    | _ :: r => nx ls r M
    | _ => False
  | .dup => match st with
    | v :: r => nx ls (v :: v :: r) M
    | _ => False
  | .ifCond c _ => p1 st fun x r => a1 aux fun t => cc1 c x (K t ls r M) (nx ls r M)
  | .if_icmp c _ => p2 st fun x y r => a1 aux fun t => cc2 c x y (K t ls r M) (nx ls r M)
  | .goto _ => a1 aux fun t => K t ls st M
  | .nop => a1 aux fun t => K t ls st M
  | .tableswitch _ lo hi _ => p1 st fun x r => match aux with
    | d :: ts => (x.toInt < lo ∨ hi < x.toInt → K d ls r M) ∧ tsw x ts lo fun t => K t ls r M
    | _ => False
  | .getfield _ => pR st fun kd _ id r => a2 aux fun ci j => gtf ci j kd id M fun v => nx ls (v :: r) M
  | .putfield _ => p1 st fun v r1 => pR r1 fun kd _ id r => a2 aux fun ci j => ptf ci j kd id M v fun M' => nx ls r M'
  | .getstatic _ => a1 aux fun i => match mStT[i]? with
    | some q => nx ls (mR 51 q.2.2 i :: st) M
    | none => False
  | .iaload => pIR st fun i kd len id r => ald kd len id i M fun x => nx ls (mI x :: r) M
  | .iastore => pIIR st fun v i kd len id r => ast kd len id i v M fun M' => nx ls r M'
  | .baload => pIR st fun i kd len id r => bld kd len id i M fun x => nx ls (mI x :: r) M
  | .bastore => pIIR st fun v i kd len id r => bst kd len id i v M fun M' => nx ls r M'
  | .arraylength => pR st fun kd len _ r => aln kd len fun x => nx ls (mI x :: r) M
  | .invokestatic _ => match aux with
    | [t] => p2 st fun x y r => lim r (nx ls (mI (mmx t x y) :: r) M)
    | aux => a3 aux fun z n ret => tk n st [] fun as r => lim r (Cl z as M fun v M' => rv ret v fun w => nx ls (w ++ r) M')
  | .invokevirtual _ => a4 aux fun z n ret ci => tk n st [] fun as r => lim r (rcv ci as (Cl z as M fun v M' => rv ret v fun w => nx ls (w ++ r) M'))
  | .ireturn => a1 aux fun b => match st with
    | [some (.inl x)] => ire b x (Rt (mI x) M)
    | _ => False
  | .areturn => match st with
    | [some (.inr (kd, len, id))] => Rt (mR kd len id) M
    | _ => False
  | .return_ => match st with
    | [] => Rt none M
    | _ => False
  | _ => False
def bx (K : Nat → List mV → List mV → mM → Prop) (Rt : mQ) (Cl : Nat → List mV → mM → mQ → Prop) : List mIns → List mV → List mV → mM → Prop
  | [] => fun _ _ _ => False
  | q :: r => stp K Rt Cl q.2.1 q.2.2.2.1 q.2.2.2.2 (bx K Rt Cl r)
/-- from label t on the method comes to an end that Rt holds of: the least such family -/
def Wt (Cl : Nat → List mV → mM → mQ → Prop) (B : Nat → List mIns) (Rt : mQ) (t : Nat) (ls st : List mV) (M : mM) : Prop := ∀ X : Nat → List mV → List mV → mM → Prop, (∀ t ls st M, bx X Rt Cl (B t) ls st M → X t ls st M) → X t ls st M
def mBk (b : List (List mIns)) : Nat → List mIns := fun t => b.getD t []
def entL (n : Nat) (as : List mV) : List mV := as ++ List.replicate (n - as.length) none
/-- method z, called on as in memory M, comes to an end that k holds of, with calls at most d deep -/
def wpD (B : Nat → List (List mIns)) (nL : Nat → Nat) : Nat → Nat → List mV → mM → mQ → Prop
  | 0 => fun _ _ _ _ => False
  | d + 1 => fun z as M k => Wt (wpD B nL d) (mBk (B z)) k 0 (entL (nL z) as) [] M
/-! monotone -/
theorem p1_mono {st : List mV} {f g : Int32 → List mV → Prop} (h : ∀ x r, f x r → g x r) : p1 st f → p1 st g := by
  unfold p1; split
  · exact h _ _
  · exact id
theorem p2_mono {st : List mV} {f g : Int32 → Int32 → List mV → Prop} (h : ∀ x y r, f x y r → g x y r) : p2 st f → p2 st g := by
  unfold p2; split
  · exact h _ _ _
  · exact id
theorem pR_mono {st : List mV} {f g : Nat → Nat → Nat → List mV → Prop} (h : ∀ a b c r, f a b c r → g a b c r) : pR st f → pR st g := by
  unfold pR; split
  · exact h _ _ _ _
  · exact id
theorem pIR_mono {st : List mV} {f g : Int32 → Nat → Nat → Nat → List mV → Prop} (h : ∀ x a b c r, f x a b c r → g x a b c r) : pIR st f → pIR st g := by
  unfold pIR; split
  · exact h _ _ _ _ _
  · exact id
theorem pIIR_mono {st : List mV} {f g : Int32 → Int32 → Nat → Nat → Nat → List mV → Prop} (h : ∀ x i a b c r, f x i a b c r → g x i a b c r) : pIIR st f → pIIR st g := by
  unfold pIIR; split
  · exact h _ _ _ _ _ _
  · exact id
theorem a1_mono {aux : List Nat} {f g : Nat → Prop} (h : ∀ x, f x → g x) : a1 aux f → a1 aux g := by
  unfold a1; split
  · exact h _
  · exact id
theorem a2_mono {aux : List Nat} {f g : Nat → Nat → Prop} (h : ∀ x y, f x y → g x y) : a2 aux f → a2 aux g := by
  unfold a2; split
  · exact h _ _
  · exact id
theorem a3_mono {aux : List Nat} {f g : Nat → Nat → Nat → Prop} (h : ∀ x y z, f x y z → g x y z) : a3 aux f → a3 aux g := by
  unfold a3; split
  · exact h _ _ _
  · exact id
theorem a4_mono {aux : List Nat} {f g : Nat → Nat → Nat → Nat → Prop} (h : ∀ x y z w, f x y z w → g x y z w) : a4 aux f → a4 aux g := by
  unfold a4; split
  · exact h _ _ _ _
  · exact id
theorem rcv_mono {ci : Nat} {as : List mV} {P Q : Prop} (h : P → Q) : rcv ci as P → rcv ci as Q := by
  unfold rcv; split
  · split
    · exact h
    · exact fun k => k
  · exact fun k => k
theorem lim_mono {r : List mV} {P Q : Prop} (h : P → Q) : lim r P → lim r Q := by
  unfold lim; split
  · exact h
  · exact fun k => k
theorem ldI_mono {ls : List mV} {i : Nat} {f g : Int32 → Prop} (h : ∀ x, f x → g x) : ldI ls i f → ldI ls i g := by
  unfold ldI; split
  · exact h _
  · exact id
theorem ldR_mono {ls : List mV} {i : Nat} {f g : Nat → Nat → Nat → Prop} (h : ∀ x y z, f x y z → g x y z) : ldR ls i f → ldR ls i g := by
  unfold ldR; split
  · exact h _ _ _
  · exact id
theorem sto_mono {ls : List mV} {i : Nat} {v : mV} {f g : List mV → Prop} (h : ∀ x, f x → g x) : sto ls i v f → sto ls i v g := by
  unfold sto; split
  · exact h _
  · exact id
theorem tk_mono {f g : List mV → List mV → Prop} (h : ∀ x y, f x y → g x y) : ∀ (n : Nat) (st acc : List mV), tk n st acc f → tk n st acc g
  | 0, st, acc, k => h _ _ k
  | n + 1, v :: st, acc, k => tk_mono h n st (v :: acc) k
  | _ + 1, [], _, k => k
theorem rv_mono {ret : Nat} {v : mV} {f g : List mV → Prop} (h : ∀ x, f x → g x) : rv ret v f → rv ret v g := by
  unfold rv; split
  · exact h _
  · exact h _
  · exact h _
  · exact id
theorem tsw_mono {x : Int32} {f g : Nat → Prop} (h : ∀ x, f x → g x) : ∀ (ts : List Nat) (n : Int), tsw x ts n f → tsw x ts n g
  | [], _, _ => trivial
  | t :: ts, n, k => ⟨fun e => h _ (k.1 e), tsw_mono h ts (n + 1) k.2⟩
theorem cc1_mono {c : Jvm.ClassFile.Cond} {x : Int32} {A B A' B' : Prop} (h : A → A') (h' : B → B') : cc1 c x A B → cc1 c x A' B' := by
  unfold cc1; cases c <;> exact fun k => ⟨fun e => h (k.1 e), fun e => h' (k.2 e)⟩
theorem cc2_mono {c : Jvm.ClassFile.Cond} {x y : Int32} {A B A' B' : Prop} (h : A → A') (h' : B → B') : cc2 c x y A B → cc2 c x y A' B' := by
  unfold cc2; cases c <;> exact fun k => ⟨fun e => h (k.1 e), fun e => h' (k.2 e)⟩
theorem gtf_mono {ci j kd id : Nat} {M : mM} {f g : mV → Prop} (h : ∀ x, f x → g x) : gtf ci j kd id M f → gtf ci j kd id M g := by
  unfold gtf; split
  · split
    · exact h _
    · exact h _
    · exact fun k => k
  · exact fun k => k
theorem ptf_mono {ci j kd id : Nat} {M : mM} {v : Int32} {f g : mM → Prop} (h : ∀ x, f x → g x) : ptf ci j kd id M v f → ptf ci j kd id M v g := by
  unfold ptf; split
  · split
    · exact h _
    · exact fun k => k
  · exact fun k => k
theorem ald_mono {kd len id : Nat} {i : Int32} {M : mM} {f g : Int32 → Prop} (h : ∀ x, f x → g x) : ald kd len id i M f → ald kd len id i M g := by
  unfold ald; split
  · exact fun k => ⟨k.1, h _ k.2⟩
  · split
    · exact fun k => ⟨k.1, h _ k.2⟩
    · exact fun k => k
theorem bld_mono {kd len id : Nat} {i : Int32} {M : mM} {f g : Int32 → Prop} (h : ∀ x, f x → g x) : bld kd len id i M f → bld kd len id i M g := by
  unfold bld; split
  · exact fun k => ⟨k.1, h _ k.2⟩
  · exact fun k => k
theorem ast_mono {kd len id : Nat} {i v : Int32} {M : mM} {f g : mM → Prop} (h : ∀ x, f x → g x) : ast kd len id i v M f → ast kd len id i v M g := by
  unfold ast; split
  · exact fun k => ⟨k.1, h _ k.2⟩
  · exact fun k => k
theorem bst_mono {kd len id : Nat} {i v : Int32} {M : mM} {f g : mM → Prop} (h : ∀ x, f x → g x) : bst kd len id i v M f → bst kd len id i v M g := by
  unfold bst; split
  · exact fun k => ⟨k.1, h _ k.2⟩
  · exact fun k => k
theorem aln_mono {kd len : Nat} {f g : Int32 → Prop} (h : ∀ x, f x → g x) : aln kd len f → aln kd len g := by
  unfold aln; split
  · exact h _
  · split
    · exact h _
    · exact fun k => k
theorem ire_mono {b : Nat} {x : Int32} {A B : Prop} (h : A → B) : ire b x A → ire b x B := by
  unfold ire; split
  · exact h
  · exact fun k => ⟨k.1, h k.2⟩
  · exact fun k => k
theorem stp_mono {K K' : Nat → List mV → List mV → mM → Prop} {Rt Rt' : mQ} {Cl Cl' : Nat → List mV → mM → mQ → Prop} {nx nx' : List mV → List mV → mM → Prop} (hK : ∀ t ls st M, K t ls st M → K' t ls st M) (hR : ∀ v M, Rt v M → Rt' v M)
    (hC : ∀ z as M (k k' : mQ), (∀ v M, k v M → k' v M) → Cl z as M k → Cl' z as M k') (hn : ∀ ls st M, nx ls st M → nx' ls st M) (i : Instr) (aux : List Nat) (k : Int32) (ls st : List mV) (M : mM) : stp K Rt Cl i aux k nx ls st M → stp K' Rt' Cl' i aux k nx' ls st M := by
  unfold stp
  split
  case h_1 => exact hn _ _ _
  case h_2 => exact hn _ _ _
  case h_3 => exact hn _ _ _
  case h_4 => exact hn _ _ _
  case h_5 => exact hn _ _ _
  case h_6 => exact ldI_mono fun _ => hn _ _ _
  case h_7 => exact ldI_mono fun _ => hn _ _ _
  case h_8 => exact ldR_mono fun _ _ _ => hn _ _ _
  case h_9 => exact ldR_mono fun _ _ _ => hn _ _ _
  case h_10 => exact p1_mono fun _ _ => sto_mono fun _ => hn _ _ _
  case h_11 => exact p1_mono fun _ _ => sto_mono fun _ => hn _ _ _
  case h_12 => exact pR_mono fun _ _ _ _ => sto_mono fun _ => hn _ _ _
  case h_13 => exact pR_mono fun _ _ _ _ => sto_mono fun _ => hn _ _ _
  case h_14 => exact ldI_mono fun _ => sto_mono fun _ => hn _ _ _
  case h_24 => exact p2_mono fun _ _ _ h => ⟨h.1, hn _ _ _ h.2⟩
  case h_25 => exact p2_mono fun _ _ _ h => ⟨h.1, hn _ _ _ h.2⟩
  case h_26 =>
    split
    · exact hn _ _ _
    · exact fun h => h
  case h_27 =>
    split
    · exact hn _ _ _
    · exact fun h => h
  case h_28 => exact p1_mono fun _ _ => a1_mono fun _ => cc1_mono (hK _ _ _ _) (hn _ _ _)
  case h_29 => exact p2_mono fun _ _ _ => a1_mono fun _ => cc2_mono (hK _ _ _ _) (hn _ _ _)
  case h_30 => exact a1_mono fun _ => hK _ _ _ _
  case h_31 => exact a1_mono fun _ => hK _ _ _ _
  case h_32 =>
    refine p1_mono fun _ _ => ?_
    split
    · exact fun h => ⟨fun e => hK _ _ _ _ (h.1 e), tsw_mono (fun _ => hK _ _ _ _) _ _ h.2⟩
    · exact fun h => h
  case h_33 => exact pR_mono fun _ _ _ _ => a2_mono fun _ _ => gtf_mono fun _ => hn _ _ _
  case h_34 => exact p1_mono fun _ _ => pR_mono fun _ _ _ _ => a2_mono fun _ _ => ptf_mono fun _ => hn _ _ _
  case h_35 =>
    refine a1_mono fun _ => ?_
    split
    · exact hn _ _ _
    · exact fun h => h
  case h_36 => exact pIR_mono fun _ _ _ _ _ => ald_mono fun _ => hn _ _ _
  case h_37 => exact pIIR_mono fun _ _ _ _ _ _ => ast_mono fun _ => hn _ _ _
  case h_38 => exact pIR_mono fun _ _ _ _ _ => bld_mono fun _ => hn _ _ _
  case h_39 => exact pIIR_mono fun _ _ _ _ _ _ => bst_mono fun _ => hn _ _ _
  case h_40 => exact pR_mono fun _ _ _ _ => aln_mono fun _ => hn _ _ _
  case h_41 =>
    split
    · exact p2_mono fun _ _ _ => lim_mono (hn _ _ _)
    · exact a3_mono fun _ _ _ => tk_mono (fun _ _ => lim_mono (hC _ _ _ _ _ fun _ _ => rv_mono fun _ => hn _ _ _)) _ _ _
  case h_42 => exact a4_mono fun _ _ _ _ => tk_mono (fun _ _ => lim_mono (rcv_mono (hC _ _ _ _ _ fun _ _ => rv_mono fun _ => hn _ _ _))) _ _ _
  case h_43 =>
    refine a1_mono fun _ => ?_
    split
    · exact ire_mono (hR _ _)
    · exact fun h => h
  case h_44 =>
    split
    · exact hR _ _
    · exact fun h => h
  case h_45 =>
    split
    · exact hR _ _
    · exact fun h => h
  case h_46 => exact fun h => h
  all_goals exact p2_mono fun _ _ _ => hn _ _ _
theorem bx_mono {K K' : Nat → List mV → List mV → mM → Prop} {Rt Rt' : mQ} {Cl Cl' : Nat → List mV → mM → mQ → Prop} (hK : ∀ t ls st M, K t ls st M → K' t ls st M) (hR : ∀ v M, Rt v M → Rt' v M)
    (hC : ∀ z as M (k k' : mQ), (∀ v M, k v M → k' v M) → Cl z as M k → Cl' z as M k') : ∀ (b : List mIns) (ls st : List mV) (M : mM), bx K Rt Cl b ls st M → bx K' Rt' Cl' b ls st M
  | [], _, _, _, h => h
  | q :: r, ls, st, M, h => stp_mono hK hR hC (bx_mono hK hR hC r) _ _ _ _ _ _ h
/-- a call says more, if more is known of its end -/
def ClM (Cl : Nat → List mV → mM → mQ → Prop) : Prop := ∀ z as M (k k' : mQ), (∀ v M, k v M → k' v M) → Cl z as M k → Cl z as M k'
theorem Wt.blk {Cl : Nat → List mV → mM → mQ → Prop} (hC : ClM Cl) {B : Nat → List mIns} {Rt : mQ} {t : Nat} {ls st : List mV} {M : mM} (h : bx (Wt Cl B Rt) Rt Cl (B t) ls st M) : Wt Cl B Rt t ls st M :=
  fun X hX => hX _ _ _ _ (bx_mono (fun _ _ _ _ k => k X hX) (fun _ _ k => k) hC _ _ _ _ h)
theorem Wt.mono {Cl Cl' : Nat → List mV → mM → mQ → Prop} (hC : ∀ z as M (k k' : mQ), (∀ v M, k v M → k' v M) → Cl z as M k → Cl' z as M k') {B : Nat → List mIns} {Rt Rt' : mQ} (hR : ∀ v M, Rt v M → Rt' v M) {t : Nat} {ls st : List mV} {M : mM} (h : Wt Cl B Rt t ls st M) : Wt Cl' B Rt' t ls st M :=
  fun X hX => h X (fun t ls st M k => hX _ _ _ _ (bx_mono (fun _ _ _ _ k => k) hR hC _ _ _ _ k))
theorem wpD_mono (B : Nat → List (List mIns)) (nL : Nat → Nat) : ∀ d, ClM (wpD B nL d)
  | 0 => fun _ _ _ _ _ _ h => h
  | d + 1 => fun _ _ _ _ _ hk h => Wt.mono (wpD_mono B nL d) hk h
theorem wpD_succ (B : Nat → List (List mIns)) (nL : Nat → Nat) : ∀ d z as M k, wpD B nL d z as M k → wpD B nL (d + 1) z as M k
  | 0 => fun _ _ _ _ h => h.elim
  | d + 1 => fun _ _ _ _ h => Wt.mono (fun z as M k k' hk h => wpD_succ B nL d _ _ _ _ (wpD_mono B nL d z as M k k' hk h)) (fun _ _ h => h) h
theorem wpD_le (B : Nat → List (List mIns)) (nL : Nat → Nat) {d d' : Nat} (hd : d ≤ d') {z : Nat} {as : List mV} {M : mM} {k : mQ} (h : wpD B nL d z as M k) : wpD B nL d' z as M k := by
  obtain ⟨n, rfl⟩ := Nat.le.dest hd
  clear hd
  induction n with
  | zero => exact h
  | succ n ih => exact wpD_succ B nL _ _ _ _ _ ih
end
section
def kB_X0_litresAt : List (List mIns) := [[(0, .aload_n 0, 1, [], 0), (1, .getfield 27, 3, [0, 6], 0), (4, .iload_n 1, 1, [], 0), (5, .invokestatic 38, 3, [81, 2, 1], 0), (8, .ireturn, 1, [0], 0)]]
def kB_X0_heatAt : List (List mIns) := [[(0, .aload_n 0, 1, [], 0), (1, .getfield 31, 3, [0, 7], 0), (4, .iload_n 1, 1, [], 0), (5, .invokestatic 38, 3, [81, 2, 1], 0), (8, .ireturn, 1, [0], 0)]]
def kB_X0_tenthsAt : List (List mIns) := [[(0, .aload_n 0, 1, [], 0), (1, .iload_n 1, 1, [], 0), (2, .invokevirtual 42, 3, [0, 2, 1, 0], 0), (5, .istore_n 2, 1, [], 0), (6, .iload_n 2, 1, [], 0), (7, .ifCond .le 13, 3, [1], 0), (10, .aload_n 0, 1, [], 0), (11, .iload_n 1, 1, [], 0), (12, .invokevirtual 46, 3, [1, 2, 1, 0], 0), (15, .iload_n 2, 1, [], 0), (16, .idiv, 1, [], 0), (17, .goto 4, 3, [2], 0)],
  [(20, .iconst 0, 1, [], 0), (21, .nop, 0, [2], 0)],
  [(21, .ireturn, 1, [0], 0)]]
def kB_X0_follow : List (List mIns) := [[(0, .aload_n 0, 1, [], 0), (1, .getfield 34, 3, [0, 5], 0), (4, .getfield 49, 3, [6, 2], 0), (7, .astore 5, 2, [], 0), (9, .aload_n 0, 1, [], 0), (10, .getfield 34, 3, [0, 5], 0), (13, .iconst 0, 1, [], 0), (14, .invokevirtual 55, 3, [39, 2, 1, 6], 0), (17, .istore 6, 2, [], 0), (19, .iload 6, 2, [], 0), (21, .iload_n 1, 1, [], 0), (22, .imul, 1, [], 0), (23, .istore 7, 2, [], 0), (25, .aload_n 0, 1, [], 0), (26, .iconst 0, 1, [], 0), (27, .putfield 9, 3, [0, 0], 0), (30, .aload_n 0, 1, [], 0), (31, .iconst 0, 1, [], 0), (32, .putfield 15, 3, [0, 1], 0), (35, .aload_n 0, 1, [], 0), (36, .iconst 0, 1, [], 0), (37, .putfield 21, 3, [0, 3], 0), (40, .aload_n 0, 1, [], 0), (41, .iconst 0, 1, [], 0), (42, .putfield 24, 3, [0, 4], 0), (45, .iconst 0, 1, [], 0), (46, .istore 8, 2, [], 0), (48, .nop, 0, [1], 0)],
  [(48, .iload 8, 2, [], 0), (50, .aload 5, 2, [], 0), (52, .getfield 58, 3, [2, 0], 0), (55, .if_icmp .ge 141, 3, [3], 0), (58, .aload_n 0, 1, [], 0), (59, .getfield 34, 3, [0, 5], 0), (62, .aload 5, 2, [], 0), (64, .iload 8, 2, [], 0), (66, .invokevirtual 63, 3, [11, 2, 1, 2], 0), (69, .iload 6, 2, [], 0), (71, .iload 7, 2, [], 0), (73, .invokevirtual 66, 3, [42, 4, 1, 6], 0), (76, .istore 9, 2, [], 0), (78, .aload_n 0, 1, [], 0), (79, .dup, 1, [], 0), (80, .getfield 21, 3, [0, 3], 0), (83, .iload 7, 2, [], 0), (85, .iload 9, 2, [], 0), (87, .isub, 1, [], 0), (88, .iadd, 1, [], 0), (89, .putfield 21, 3, [0, 3], 0), (92, .iload 9, 2, [], 0), (94, .istore 7, 2, [], 0), (96, .iload_n 3, 1, [], 0), (97, .aload 5, 2, [], 0), (99, .iload 8, 2, [], 0), (101, .invokevirtual 70, 3, [12, 2, 1, 2], 0), (104, .invokestatic 73, 3, [85, 2, 1], 0), (107, .ifCond .eq 38, 3, [2], 0), (110, .iload 6, 2, [], 0), (112, .aload_n 0, 1, [], 0), (113, .getfield 34, 3, [0, 5], 0), (116, .iconst 3, 1, [], 3), (117, .invokevirtual 55, 3, [39, 2, 1, 6], 0), (120, .iadd, 1, [], 0), (121, .istore 6, 2, [], 0), (123, .iload 7, 2, [], 0), (125, .aload_n 0, 1, [], 0), (126, .getfield 34, 3, [0, 5], 0), (129, .iconst 3, 1, [], 3), (130, .invokevirtual 55, 3, [39, 2, 1, 6], 0), (133, .aload_n 0, 1, [], 0), (134, .getfield 34, 3, [0, 5], 0), (137, .iconst 4, 1, [], 4), (138, .invokevirtual 55, 3, [39, 2, 1, 6], 0), (141, .imul, 1, [], 0), (142, .iadd, 1, [], 0), (143, .istore 7, 2, [], 0), (145, .nop, 0, [2], 0)],
  [(145, .aload_n 0, 1, [], 0), (146, .getfield 27, 3, [0, 6], 0), (149, .iload 8, 2, [], 0), (151, .iload 6, 2, [], 0), (153, .invokestatic 77, 3, [82, 3, 0], 0), (156, .aload_n 0, 1, [], 0), (157, .getfield 31, 3, [0, 7], 0), (160, .iload 8, 2, [], 0), (162, .iload 7, 2, [], 0), (164, .invokestatic 77, 3, [82, 3, 0], 0), (167, .iload 7, 2, [], 0), (169, .aload_n 0, 1, [], 0), (170, .iload 8, 2, [], 0), (172, .iload_n 2, 1, [], 0), (173, .iload 6, 2, [], 0), (175, .iload 7, 2, [], 0), (177, .iload 4, 2, [], 0), (179, .iload 8, 2, [], 0), (181, .invokestatic 73, 3, [85, 2, 1], 0), (184, .invokevirtual 81, 3, [4, 6, 1, 0], 0), (187, .isub, 1, [], 0), (188, .istore 7, 2, [], 0), (190, .iinc 8 1, 3, [], 1), (193, .goto (-145), 3, [1], 0)],
  [(196, .aload_n 0, 1, [], 0), (197, .getfield 27, 3, [0, 6], 0), (200, .aload 5, 2, [], 0), (202, .getfield 58, 3, [2, 0], 0), (205, .iload 6, 2, [], 0), (207, .invokestatic 77, 3, [82, 3, 0], 0), (210, .aload_n 0, 1, [], 0), (211, .getfield 31, 3, [0, 7], 0), (214, .aload 5, 2, [], 0), (216, .getfield 58, 3, [2, 0], 0), (219, .iload 7, 2, [], 0), (221, .invokestatic 77, 3, [82, 3, 0], 0), (224, .aload_n 0, 1, [], 0), (225, .aload_n 0, 1, [], 0), (226, .getfield 15, 3, [0, 1], 0), (229, .iload 4, 2, [], 0), (231, .aload_n 0, 1, [], 0), (232, .getfield 9, 3, [0, 0], 0), (235, .iconst (-1), 1, [], (-1)), (236, .ixor, 1, [], 0), (237, .iand, 1, [], 0), (238, .ior, 1, [], 0), (239, .putfield 18, 3, [0, 2], 0), (242, .return_, 1, [], 0)]]
def kB_X0_meetHouse : List (List mIns) := [[(0, .aload_n 0, 1, [], 0), (1, .getfield 34, 3, [0, 5], 0), (4, .getfield 49, 3, [6, 2], 0), (7, .iload_n 1, 1, [], 0), (8, .invokevirtual 85, 3, [10, 2, 1, 2], 0), (11, .istore 6, 2, [], 0), (13, .aload_n 0, 1, [], 0), (14, .getfield 34, 3, [0, 5], 0), (17, .iload 6, 2, [], 0), (19, .iload_n 3, 1, [], 0), (20, .iload 4, 2, [], 0), (22, .invokevirtual 88, 3, [43, 4, 1, 6], 0), (25, .ifCond .eq 17, 3, [1], 0), (28, .aload_n 0, 1, [], 0), (29, .dup, 1, [], 0), (30, .getfield 15, 3, [0, 1], 0), (33, .iconst 1, 1, [], 1), (34, .iload_n 1, 1, [], 0), (35, .ishl, 1, [], 0), (36, .ior, 1, [], 0), (37, .putfield 15, 3, [0, 1], 0), (40, .iconst 0, 1, [], 0), (41, .ireturn, 1, [0], 0)],
  [(42, .iload 5, 2, [], 0), (44, .ifCond .eq 19, 3, [2], 0), (47, .aload_n 0, 1, [], 0), (48, .getfield 34, 3, [0, 5], 0), (51, .iload 6, 2, [], 0), (53, .iload_n 2, 1, [], 0), (54, .iload_n 3, 1, [], 0), (55, .iload 4, 2, [], 0), (57, .invokevirtual 92, 3, [44, 5, 1, 6], 0), (60, .ifCond .ne 5, 3, [3], 0), (63, .nop, 0, [2], 0)],
  [(63, .iconst 0, 1, [], 0), (64, .ireturn, 1, [0], 0)],
  [(65, .aload_n 0, 1, [], 0), (66, .dup, 1, [], 0), (67, .getfield 9, 3, [0, 0], 0), (70, .iconst 1, 1, [], 1), (71, .iload_n 1, 1, [], 0), (72, .ishl, 1, [], 0), (73, .ior, 1, [], 0), (74, .putfield 9, 3, [0, 0], 0), (77, .aload_n 0, 1, [], 0), (78, .dup, 1, [], 0), (79, .getfield 24, 3, [0, 4], 0), (82, .aload_n 0, 1, [], 0), (83, .getfield 34, 3, [0, 5], 0), (86, .iconst 2, 1, [], 2), (87, .iload 6, 2, [], 0), (89, .invokevirtual 96, 3, [40, 3, 1, 6], 0), (92, .iadd, 1, [], 0), (93, .putfield 24, 3, [0, 4], 0), (96, .aload_n 0, 1, [], 0), (97, .getfield 34, 3, [0, 5], 0), (100, .iconst 2, 1, [], 2), (101, .iload 6, 2, [], 0), (103, .invokevirtual 96, 3, [40, 3, 1, 6], 0), (106, .ireturn, 1, [0], 0)]]
def kB_X0_worthOfServed : List (List mIns) := [[(0, .iconst 0, 1, [], 0), (1, .istore_n 1, 1, [], 0), (2, .iconst 0, 1, [], 0), (3, .istore_n 2, 1, [], 0), (4, .nop, 0, [1], 0)],
  [(4, .iload_n 2, 1, [], 0), (5, .aload_n 0, 1, [], 0), (6, .getfield 34, 3, [0, 5], 0), (9, .getfield 49, 3, [6, 2], 0), (12, .getfield 58, 3, [2, 0], 0), (15, .if_icmp .ge 42, 3, [3], 0), (18, .aload_n 0, 1, [], 0), (19, .getfield 9, 3, [0, 0], 0), (22, .iload_n 2, 1, [], 0), (23, .invokestatic 73, 3, [85, 2, 1], 0), (26, .ifCond .eq 25, 3, [2], 0), (29, .iload_n 1, 1, [], 0), (30, .aload_n 0, 1, [], 0), (31, .getfield 34, 3, [0, 5], 0), (34, .iconst 3, 1, [], 3), (35, .aload_n 0, 1, [], 0), (36, .getfield 34, 3, [0, 5], 0), (39, .getfield 49, 3, [6, 2], 0), (42, .iload_n 2, 1, [], 0), (43, .invokevirtual 85, 3, [10, 2, 1, 2], 0), (46, .invokevirtual 96, 3, [40, 3, 1, 6], 0), (49, .iadd, 1, [], 0), (50, .istore_n 1, 1, [], 0), (51, .nop, 0, [2], 0)],
  [(51, .iinc 2 1, 3, [], 1), (54, .goto (-50), 3, [1], 0)],
  [(57, .iload_n 1, 1, [], 0), (58, .ireturn, 1, [0], 0)]]
def kB_X1_add : List (List mIns) := [[(0, .aload_n 0, 1, [], 0), (1, .getfield 9, 3, [1, 0], 0), (4, .bipush 6, 2, [], 6), (6, .if_icmp .lt 5, 3, [1], 0), (9, .iconst 0, 1, [], 0), (10, .ireturn, 1, [1], 0)],
  [(11, .aload_n 0, 1, [], 0), (12, .getfield 15, 3, [1, 1], 0), (15, .aload_n 0, 1, [], 0), (16, .getfield 9, 3, [1, 0], 0), (19, .iload_n 1, 1, [], 0), (20, .invokestatic 25, 3, [82, 3, 0], 0), (23, .aload_n 0, 1, [], 0), (24, .getfield 19, 3, [1, 2], 0), (27, .aload_n 0, 1, [], 0), (28, .getfield 9, 3, [1, 0], 0), (31, .iload_n 2, 1, [], 0), (32, .invokestatic 25, 3, [82, 3, 0], 0), (35, .aload_n 0, 1, [], 0), (36, .getfield 22, 3, [1, 3], 0), (39, .aload_n 0, 1, [], 0), (40, .getfield 9, 3, [1, 0], 0), (43, .iload_n 3, 1, [], 0), (44, .invokestatic 25, 3, [82, 3, 0], 0), (47, .aload_n 0, 1, [], 0), (48, .dup, 1, [], 0), (49, .getfield 9, 3, [1, 0], 0), (52, .iconst 1, 1, [], 1), (53, .iadd, 1, [], 0), (54, .putfield 9, 3, [1, 0], 0), (57, .iconst 1, 1, [], 1), (58, .ireturn, 1, [1], 0)]]
def kB_X1_clear : List (List mIns) := [[(0, .aload_n 0, 1, [], 0), (1, .getfield 9, 3, [1, 0], 0), (4, .istore_n 1, 1, [], 0), (5, .aload_n 0, 1, [], 0), (6, .iconst 0, 1, [], 0), (7, .putfield 9, 3, [1, 0], 0), (10, .iload_n 1, 1, [], 0), (11, .ireturn, 1, [0], 0)]]
def kB_X1_fitsTo : List (List mIns) := [[(0, .iconst 0, 1, [], 0), (1, .istore_n 2, 1, [], 0), (2, .nop, 0, [1], 0)],
  [(2, .iload_n 2, 1, [], 0), (3, .aload_n 0, 1, [], 0), (4, .getfield 9, 3, [1, 0], 0), (7, .if_icmp .ge 48, 3, [4], 0), (10, .aload_n 1, 1, [], 0), (11, .aload_n 0, 1, [], 0), (12, .getfield 15, 3, [1, 1], 0), (15, .iload_n 2, 1, [], 0), (16, .invokestatic 29, 3, [81, 2, 1], 0), (19, .invokevirtual 33, 3, [2, 2, 1, 0], 0), (22, .istore_n 3, 1, [], 0), (23, .iload_n 3, 1, [], 0), (24, .aload_n 0, 1, [], 0), (25, .getfield 19, 3, [1, 2], 0), (28, .iload_n 2, 1, [], 0), (29, .invokestatic 29, 3, [81, 2, 1], 0), (32, .if_icmp .lt 15, 3, [2], 0), (35, .iload_n 3, 1, [], 0), (36, .aload_n 0, 1, [], 0), (37, .getfield 22, 3, [1, 3], 0), (40, .iload_n 2, 1, [], 0), (41, .invokestatic 29, 3, [81, 2, 1], 0), (44, .if_icmp .le 5, 3, [3], 0), (47, .nop, 0, [2], 0)],
  [(47, .iconst 0, 1, [], 0), (48, .ireturn, 1, [1], 0)],
  [(49, .iinc 2 1, 3, [], 1), (52, .goto (-50), 3, [1], 0)],
  [(55, .iconst 1, 1, [], 1), (56, .ireturn, 1, [1], 0)]]
def kB_X1_copyOf : List (List mIns) := [[(0, .aload_n 0, 1, [], 0), (1, .aload_n 1, 1, [], 0), (2, .getfield 9, 3, [1, 0], 0), (5, .putfield 9, 3, [1, 0], 0), (8, .aload_n 1, 1, [], 0), (9, .getfield 15, 3, [1, 1], 0), (12, .aload_n 0, 1, [], 0), (13, .getfield 15, 3, [1, 1], 0), (16, .invokestatic 39, 3, [84, 2, 0], 0), (19, .aload_n 1, 1, [], 0), (20, .getfield 19, 3, [1, 2], 0), (23, .aload_n 0, 1, [], 0), (24, .getfield 19, 3, [1, 2], 0), (27, .invokestatic 39, 3, [84, 2, 0], 0), (30, .aload_n 1, 1, [], 0), (31, .getfield 22, 3, [1, 3], 0), (34, .aload_n 0, 1, [], 0), (35, .getfield 22, 3, [1, 3], 0), (38, .invokestatic 39, 3, [84, 2, 0], 0), (41, .return_, 1, [], 0)]]
def kB_X2_kindOf : List (List mIns) := [[(0, .aload_n 0, 1, [], 0), (1, .getfield 18, 3, [2, 2], 0), (4, .iload_n 1, 1, [], 0), (5, .invokestatic 28, 3, [81, 2, 1], 0), (8, .ireturn, 1, [0], 0)]]
def kB_X2_lossAheadOf : List (List mIns) := [[(0, .aload_n 0, 1, [], 0), (1, .getfield 22, 3, [2, 3], 0), (4, .iload_n 1, 1, [], 0), (5, .invokestatic 28, 3, [81, 2, 1], 0), (8, .ireturn, 1, [0], 0)]]
def kB_X2_brookAheadOf : List (List mIns) := [[(0, .aload_n 0, 1, [], 0), (1, .getfield 25, 3, [2, 4], 0), (4, .iload_n 1, 1, [], 0), (5, .invokestatic 28, 3, [81, 2, 1], 0), (8, .ireturn, 1, [0], 0)]]
def kB_X2_isFull : List (List mIns) := [[(0, .aload_n 0, 1, [], 0), (1, .getfield 9, 3, [2, 0], 0), (4, .bipush 8, 2, [], 8), (6, .if_icmp .lt 7, 3, [1], 0), (9, .iconst 1, 1, [], 1), (10, .goto 4, 3, [2], 0)],
  [(13, .iconst 0, 1, [], 0), (14, .nop, 0, [2], 0)],
  [(14, .ireturn, 1, [1], 0)]]
def kB_X2_houseSets : List (List mIns) := [[(0, .iconst 1, 1, [], 1), (1, .aload_n 0, 1, [], 0), (2, .getfield 9, 3, [2, 0], 0), (5, .ishl, 1, [], 0), (6, .ireturn, 1, [0], 0)]]
def kB_X2_brookSets : List (List mIns) := [[(0, .iconst 1, 1, [], 1), (1, .aload_n 0, 1, [], 0), (2, .getfield 15, 3, [2, 1], 0), (5, .ishl, 1, [], 0), (6, .ireturn, 1, [0], 0)]]
def kB_X2_pipeBits : List (List mIns) := [[(0, .iconst 0, 1, [], 0), (1, .istore_n 1, 1, [], 0), (2, .iconst 0, 1, [], 0), (3, .istore_n 2, 1, [], 0), (4, .nop, 0, [1], 0)],
  [(4, .iload_n 2, 1, [], 0), (5, .aload_n 0, 1, [], 0), (6, .getfield 9, 3, [2, 0], 0), (9, .if_icmp .ge 23, 3, [3], 0), (12, .aload_n 0, 1, [], 0), (13, .iload_n 2, 1, [], 0), (14, .invokevirtual 32, 3, [11, 2, 1, 2], 0), (17, .ifCond .le 9, 3, [2], 0), (20, .iload_n 1, 1, [], 0), (21, .iconst 1, 1, [], 1), (22, .iload_n 2, 1, [], 0), (23, .ishl, 1, [], 0), (24, .ior, 1, [], 0), (25, .istore_n 1, 1, [], 0), (26, .nop, 0, [2], 0)],
  [(26, .iinc 2 1, 3, [], 1), (29, .goto (-25), 3, [1], 0)],
  [(32, .iload_n 1, 1, [], 0), (33, .ireturn, 1, [0], 0)]]
def kB_X2_clear : List (List mIns) := [[(0, .aload_n 0, 1, [], 0), (1, .iconst 0, 1, [], 0), (2, .putfield 9, 3, [2, 0], 0), (5, .aload_n 0, 1, [], 0), (6, .iconst 0, 1, [], 0), (7, .putfield 15, 3, [2, 1], 0), (10, .return_, 1, [], 0)]]
def kB_X2_addHouse : List (List mIns) := [[(0, .aload_n 0, 1, [], 0), (1, .invokevirtual 36, 3, [13, 1, 1, 2], 0), (4, .ifCond .eq 4, 3, [1], 0), (7, .return_, 1, [], 0)],
  [(8, .aload_n 0, 1, [], 0), (9, .getfield 18, 3, [2, 2], 0), (12, .aload_n 0, 1, [], 0), (13, .getfield 9, 3, [2, 0], 0), (16, .iload_n 1, 1, [], 0), (17, .invokestatic 40, 3, [82, 3, 0], 0), (20, .aload_n 0, 1, [], 0), (21, .getfield 22, 3, [2, 3], 0), (24, .aload_n 0, 1, [], 0), (25, .getfield 9, 3, [2, 0], 0), (28, .iload_n 2, 1, [], 0), (29, .invokestatic 40, 3, [82, 3, 0], 0), (32, .aload_n 0, 1, [], 0), (33, .getfield 25, 3, [2, 4], 0), (36, .aload_n 0, 1, [], 0), (37, .getfield 9, 3, [2, 0], 0), (40, .iload_n 3, 1, [], 0), (41, .ifCond .eq 10, 3, [2], 0), (44, .aload_n 0, 1, [], 0), (45, .getfield 15, 3, [2, 1], 0), (48, .goto 5, 3, [3], 0)],
  [(51, .bipush (-6), 2, [], (-6)), (53, .nop, 0, [3], 0)],
  [(53, .invokestatic 40, 3, [82, 3, 0], 0), (56, .aload_n 0, 1, [], 0), (57, .dup, 1, [], 0), (58, .getfield 9, 3, [2, 0], 0), (61, .iconst 1, 1, [], 1), (62, .iadd, 1, [], 0), (63, .putfield 9, 3, [2, 0], 0), (66, .iload_n 3, 1, [], 0), (67, .ifCond .eq 13, 3, [4], 0), (70, .aload_n 0, 1, [], 0), (71, .dup, 1, [], 0), (72, .getfield 15, 3, [2, 1], 0), (75, .iconst 1, 1, [], 1), (76, .iadd, 1, [], 0), (77, .putfield 15, 3, [2, 1], 0), (80, .nop, 0, [4], 0)],
  [(80, .return_, 1, [], 0)]]
def kB_X2_insertHouse : List (List mIns) := [[(0, .aload_n 0, 1, [], 0), (1, .invokevirtual 36, 3, [13, 1, 1, 2], 0), (4, .ifCond .eq 4, 3, [1], 0), (7, .return_, 1, [], 0)],
  [(8, .aload_n 0, 1, [], 0), (9, .getfield 9, 3, [2, 0], 0), (12, .istore_n 3, 1, [], 0), (13, .nop, 0, [2], 0)],
  [(13, .iload_n 3, 1, [], 0), (14, .iload_n 2, 1, [], 0), (15, .if_icmp .le 63, 3, [3], 0), (18, .aload_n 0, 1, [], 0), (19, .getfield 18, 3, [2, 2], 0), (22, .iload_n 3, 1, [], 0), (23, .aload_n 0, 1, [], 0), (24, .getfield 18, 3, [2, 2], 0), (27, .iload_n 3, 1, [], 0), (28, .iconst 1, 1, [], 1), (29, .isub, 1, [], 0), (30, .invokestatic 28, 3, [81, 2, 1], 0), (33, .invokestatic 40, 3, [82, 3, 0], 0), (36, .aload_n 0, 1, [], 0), (37, .getfield 22, 3, [2, 3], 0), (40, .iload_n 3, 1, [], 0), (41, .aload_n 0, 1, [], 0), (42, .getfield 22, 3, [2, 3], 0), (45, .iload_n 3, 1, [], 0), (46, .iconst 1, 1, [], 1), (47, .isub, 1, [], 0), (48, .invokestatic 28, 3, [81, 2, 1], 0), (51, .invokestatic 40, 3, [82, 3, 0], 0), (54, .aload_n 0, 1, [], 0), (55, .getfield 25, 3, [2, 4], 0), (58, .iload_n 3, 1, [], 0), (59, .aload_n 0, 1, [], 0), (60, .getfield 25, 3, [2, 4], 0), (63, .iload_n 3, 1, [], 0), (64, .iconst 1, 1, [], 1), (65, .isub, 1, [], 0), (66, .invokestatic 28, 3, [81, 2, 1], 0), (69, .invokestatic 40, 3, [82, 3, 0], 0), (72, .iinc 3 (-1), 3, [], (-1)), (75, .goto (-62), 3, [2], 0)],
  [(78, .aload_n 0, 1, [], 0), (79, .getfield 18, 3, [2, 2], 0), (82, .iload_n 2, 1, [], 0), (83, .iload_n 1, 1, [], 0), (84, .invokestatic 40, 3, [82, 3, 0], 0), (87, .aload_n 0, 1, [], 0), (88, .getfield 22, 3, [2, 3], 0), (91, .iload_n 2, 1, [], 0), (92, .iconst 0, 1, [], 0), (93, .invokestatic 40, 3, [82, 3, 0], 0), (96, .aload_n 0, 1, [], 0), (97, .getfield 25, 3, [2, 4], 0), (100, .iload_n 2, 1, [], 0), (101, .bipush (-6), 2, [], (-6)), (103, .invokestatic 40, 3, [82, 3, 0], 0), (106, .aload_n 0, 1, [], 0), (107, .dup, 1, [], 0), (108, .getfield 9, 3, [2, 0], 0), (111, .iconst 1, 1, [], 1), (112, .iadd, 1, [], 0), (113, .putfield 9, 3, [2, 0], 0), (116, .return_, 1, [], 0)]]
def kB_X2_coverPipes : List (List mIns) := [[(0, .iconst 0, 1, [], 0), (1, .istore_n 2, 1, [], 0), (2, .nop, 0, [1], 0)],
  [(2, .iload_n 2, 1, [], 0), (3, .aload_n 0, 1, [], 0), (4, .getfield 9, 3, [2, 0], 0), (7, .if_icmp .ge 26, 3, [3], 0), (10, .iload_n 1, 1, [], 0), (11, .iload_n 2, 1, [], 0), (12, .invokestatic 44, 3, [85, 2, 1], 0), (15, .ifCond .eq 12, 3, [2], 0), (18, .aload_n 0, 1, [], 0), (19, .getfield 22, 3, [2, 3], 0), (22, .iload_n 2, 1, [], 0), (23, .iconst 0, 1, [], 0), (24, .invokestatic 40, 3, [82, 3, 0], 0), (27, .nop, 0, [2], 0)],
  [(27, .iinc 2 1, 3, [], 1), (30, .goto (-28), 3, [1], 0)],
  [(33, .return_, 1, [], 0)]]
def kB_X2_copyOf : List (List mIns) := [[(0, .aload_n 0, 1, [], 0), (1, .aload_n 1, 1, [], 0), (2, .getfield 9, 3, [2, 0], 0), (5, .putfield 9, 3, [2, 0], 0), (8, .aload_n 0, 1, [], 0), (9, .aload_n 1, 1, [], 0), (10, .getfield 15, 3, [2, 1], 0), (13, .putfield 15, 3, [2, 1], 0), (16, .aload_n 1, 1, [], 0), (17, .getfield 18, 3, [2, 2], 0), (20, .aload_n 0, 1, [], 0), (21, .getfield 18, 3, [2, 2], 0), (24, .invokestatic 48, 3, [84, 2, 0], 0), (27, .aload_n 1, 1, [], 0), (28, .getfield 22, 3, [2, 3], 0), (31, .aload_n 0, 1, [], 0), (32, .getfield 22, 3, [2, 3], 0), (35, .invokestatic 48, 3, [84, 2, 0], 0), (38, .aload_n 1, 1, [], 0), (39, .getfield 25, 3, [2, 4], 0), (42, .aload_n 0, 1, [], 0), (43, .getfield 25, 3, [2, 4], 0), (46, .invokestatic 48, 3, [84, 2, 0], 0), (49, .return_, 1, [], 0)]]
def kB_X3_search : List (List mIns) := [[(0, .aload_n 0, 1, [], 0), (1, .iload_n 1, 1, [], 0), (2, .putfield 22, 3, [3, 4], 0), (5, .aload_n 0, 1, [], 0), (6, .bipush (-6), 2, [], (-6)), (8, .putfield 9, 3, [3, 0], 0), (11, .aload_n 0, 1, [], 0), (12, .iconst 0, 1, [], 0), (13, .iconst 0, 1, [], 0), (14, .aload_n 0, 1, [], 0), (15, .getfield 25, 3, [3, 2], 0), (18, .iconst 0, 1, [], 0), (19, .invokevirtual 29, 3, [39, 2, 1, 6], 0), (22, .aload_n 0, 1, [], 0), (23, .getfield 25, 3, [3, 2], 0), (26, .iconst 1, 1, [], 1), (27, .invokevirtual 29, 3, [39, 2, 1, 6], 0), (30, .imul, 1, [], 0), (31, .iconst 0, 1, [], 0), (32, .invokestatic 35, 3, [24, 5, 0], 0), (35, .return_, 1, [], 0)]]
def kB_X3_worthLeft : List (List mIns) := [[(0, .iconst 0, 1, [], 0), (1, .istore_n 2, 1, [], 0), (2, .iconst 0, 1, [], 0), (3, .istore_n 3, 1, [], 0), (4, .nop, 0, [1], 0)],
  [(4, .iload_n 3, 1, [], 0), (5, .aload_n 0, 1, [], 0), (6, .getfield 25, 3, [3, 2], 0), (9, .getfield 39, 3, [6, 2], 0), (12, .getfield 43, 3, [2, 0], 0), (15, .if_icmp .ge 59, 3, [3], 0), (18, .aload_n 0, 1, [], 0), (19, .getfield 25, 3, [3, 2], 0), (22, .getfield 39, 3, [6, 2], 0), (25, .iload_n 3, 1, [], 0), (26, .invokevirtual 48, 3, [10, 2, 1, 2], 0), (29, .istore 4, 2, [], 0), (31, .iload_n 1, 1, [], 0), (32, .iload_n 3, 1, [], 0), (33, .invokestatic 51, 3, [85, 2, 1], 0), (36, .ifCond .ne 32, 3, [2], 0), (39, .aload_n 0, 1, [], 0), (40, .getfield 25, 3, [3, 2], 0), (43, .iload 4, 2, [], 0), (45, .aload_n 0, 1, [], 0), (46, .getfield 22, 3, [3, 4], 0), (49, .invokevirtual 55, 3, [41, 3, 1, 6], 0), (52, .ifCond .eq 16, 3, [2], 0), (55, .iload_n 2, 1, [], 0), (56, .aload_n 0, 1, [], 0), (57, .getfield 25, 3, [3, 2], 0), (60, .iconst 3, 1, [], 3), (61, .iload 4, 2, [], 0), (63, .invokevirtual 58, 3, [40, 3, 1, 6], 0), (66, .iadd, 1, [], 0), (67, .istore_n 2, 1, [], 0), (68, .nop, 0, [2], 0)],
  [(68, .iinc 3 1, 3, [], 1), (71, .goto (-67), 3, [1], 0)],
  [(74, .iload_n 2, 1, [], 0), (75, .ireturn, 1, [0], 0)]]
def kB_X3_descend : List (List mIns) := [[(0, .aload_n 0, 1, [], 0), (1, .getfield 25, 3, [3, 2], 0), (4, .astore 5, 2, [], 0), (6, .iload 4, 2, [], 0), (8, .aload_n 0, 1, [], 0), (9, .iload_n 2, 1, [], 0), (10, .invokevirtual 62, 3, [23, 2, 1, 3], 0), (13, .iadd, 1, [], 0), (14, .aload_n 0, 1, [], 0), (15, .getfield 9, 3, [3, 0], 0), (18, .if_icmp .gt 4, 3, [1], 0), (21, .return_, 1, [], 0)],
  [(22, .iload_n 1, 1, [], 0), (23, .aload 5, 2, [], 0), (25, .getfield 39, 3, [6, 2], 0), (28, .getfield 43, 3, [2, 0], 0), (31, .if_icmp .ge 9, 3, [2], 0), (34, .iload_n 1, 1, [], 0), (35, .bipush 7, 2, [], 7), (37, .if_icmp .lt 21, 3, [3], 0), (40, .nop, 0, [2], 0)],
  [(40, .aload_n 0, 1, [], 0), (41, .iload 4, 2, [], 0), (43, .putfield 9, 3, [3, 0], 0), (46, .aload_n 0, 1, [], 0), (47, .getfield 19, 3, [3, 3], 0), (50, .aload_n 0, 1, [], 0), (51, .getfield 15, 3, [3, 1], 0), (54, .invokestatic 65, 3, [84, 2, 0], 0), (57, .return_, 1, [], 0)],
  [(58, .aload 5, 2, [], 0), (60, .iconst 0, 1, [], 0), (61, .invokevirtual 29, 3, [39, 2, 1, 6], 0), (64, .istore 6, 2, [], 0), (66, .aload 5, 2, [], 0), (68, .aload 5, 2, [], 0), (70, .getfield 39, 3, [6, 2], 0), (73, .iload_n 1, 1, [], 0), (74, .invokevirtual 69, 3, [11, 2, 1, 2], 0), (77, .iload 6, 2, [], 0), (79, .iload_n 3, 1, [], 0), (80, .invokevirtual 72, 3, [42, 4, 1, 6], 0), (83, .istore 7, 2, [], 0), (85, .iconst 0, 1, [], 0), (86, .istore 8, 2, [], 0), (88, .nop, 0, [4], 0)],
  [(88, .iload 8, 2, [], 0), (90, .aload 5, 2, [], 0), (92, .getfield 39, 3, [6, 2], 0), (95, .getfield 43, 3, [2, 0], 0), (98, .if_icmp .ge 126, 3, [10], 0), (101, .aload 5, 2, [], 0), (103, .getfield 39, 3, [6, 2], 0), (106, .iload 8, 2, [], 0), (108, .invokevirtual 48, 3, [10, 2, 1, 2], 0), (111, .istore 9, 2, [], 0), (113, .iload_n 2, 1, [], 0), (114, .iload 8, 2, [], 0), (116, .invokestatic 51, 3, [85, 2, 1], 0), (119, .ifCond .ne 99, 3, [9], 0), (122, .aload 5, 2, [], 0), (124, .iload 9, 2, [], 0), (126, .iload 6, 2, [], 0), (128, .iload 7, 2, [], 0), (130, .invokevirtual 76, 3, [43, 4, 1, 6], 0), (133, .ifCond .ne 85, 3, [9], 0), (136, .aload 5, 2, [], 0), (138, .iload 9, 2, [], 0), (140, .aload_n 0, 1, [], 0), (141, .getfield 22, 3, [3, 4], 0), (144, .iload 6, 2, [], 0), (146, .iload 7, 2, [], 0), (148, .invokevirtual 80, 3, [44, 5, 1, 6], 0), (151, .istore 10, 2, [], 0), (153, .aload_n 0, 1, [], 0), (154, .getfield 19, 3, [3, 3], 0), (157, .iload_n 1, 1, [], 0), (158, .iload 8, 2, [], 0), (160, .invokestatic 84, 3, [82, 3, 0], 0), (163, .aload_n 0, 1, [], 0), (164, .iload_n 1, 1, [], 0), (165, .iconst 1, 1, [], 1), (166, .iadd, 1, [], 0), (167, .iload_n 2, 1, [], 0), (168, .iconst 1, 1, [], 1), (169, .iload 8, 2, [], 0), (171, .ishl, 1, [], 0), (172, .ior, 1, [], 0), (173, .iload 10, 2, [], 0), (175, .ifCond .eq 17, 3, [5], 0), (178, .iload 7, 2, [], 0), (180, .aload 5, 2, [], 0), (182, .iconst 2, 1, [], 2), (183, .iload 9, 2, [], 0), (185, .invokevirtual 58, 3, [40, 3, 1, 6], 0), (188, .isub, 1, [], 0), (189, .goto 5, 3, [6], 0)],
  [(192, .iload 7, 2, [], 0), (194, .nop, 0, [6], 0)],
  [(194, .iload 10, 2, [], 0), (196, .ifCond .eq 17, 3, [7], 0), (199, .iload 4, 2, [], 0), (201, .aload 5, 2, [], 0), (203, .iconst 3, 1, [], 3), (204, .iload 9, 2, [], 0), (206, .invokevirtual 58, 3, [40, 3, 1, 6], 0), (209, .iadd, 1, [], 0), (210, .goto 5, 3, [8], 0)],
  [(213, .iload 4, 2, [], 0), (215, .nop, 0, [8], 0)],
  [(215, .invokestatic 35, 3, [24, 5, 0], 0), (218, .nop, 0, [9], 0)],
  [(218, .iinc 8 1, 3, [], 1), (221, .goto (-133), 3, [4], 0)],
  [(224, .return_, 1, [], 0)]]
def kB_X4_addSign : List (List mIns) := [[(0, .aload_n 0, 1, [], 0), (1, .getfield 9, 3, [4, 0], 0), (4, .bipush 48, 2, [], 48), (6, .if_icmp .lt 5, 3, [1], 0), (9, .iconst 0, 1, [], 0), (10, .ireturn, 1, [1], 0)],
  [(11, .aload_n 0, 1, [], 0), (12, .getfield 22, 3, [4, 2], 0), (15, .aload_n 0, 1, [], 0), (16, .getfield 9, 3, [4, 0], 0), (19, .iload_n 1, 1, [], 0), (20, .invokestatic 32, 3, [82, 3, 0], 0), (23, .aload_n 0, 1, [], 0), (24, .dup, 1, [], 0), (25, .getfield 9, 3, [4, 0], 0), (28, .iconst 1, 1, [], 1), (29, .iadd, 1, [], 0), (30, .putfield 9, 3, [4, 0], 0), (33, .iconst 1, 1, [], 1), (34, .ireturn, 1, [1], 0)]]
def kB_X4_clear : List (List mIns) := [[(0, .aload_n 0, 1, [], 0), (1, .getfield 9, 3, [4, 0], 0), (4, .istore_n 1, 1, [], 0), (5, .aload_n 0, 1, [], 0), (6, .iconst 0, 1, [], 0), (7, .putfield 9, 3, [4, 0], 0), (10, .iload_n 1, 1, [], 0), (11, .ireturn, 1, [0], 0)]]
def kB_X4_brooksIn : List (List mIns) := [[(0, .aload_n 0, 1, [], 0), (1, .getfield 26, 3, [4, 3], 0), (4, .iload_n 1, 1, [], 0), (5, .invokestatic 36, 3, [81, 2, 1], 0), (8, .ireturn, 1, [0], 0)]]
def kB_X4_drawsIn : List (List mIns) := [[(0, .aload_n 0, 1, [], 0), (1, .getfield 29, 3, [4, 4], 0), (4, .iload_n 1, 1, [], 0), (5, .invokestatic 36, 3, [81, 2, 1], 0), (8, .ireturn, 1, [0], 0)]]
def kB_X4_readLane : List (List mIns) := [[(0, .iconst 0, 1, [], 0), (1, .istore_n 1, 1, [], 0), (2, .iconst 0, 1, [], 0), (3, .istore_n 2, 1, [], 0), (4, .aload_n 0, 1, [], 0), (5, .getfield 18, 3, [4, 1], 0), (8, .invokevirtual 40, 3, [17, 1, 0, 2], 0), (11, .iconst 0, 1, [], 0), (12, .istore_n 3, 1, [], 0), (13, .nop, 0, [1], 0)],
  [(13, .iload_n 3, 1, [], 0), (14, .aload_n 0, 1, [], 0), (15, .getfield 9, 3, [4, 0], 0), (18, .if_icmp .ge 123, 3, [7], 0), (21, .aload_n 0, 1, [], 0), (22, .getfield 22, 3, [4, 2], 0), (25, .iload_n 3, 1, [], 0), (26, .invokestatic 36, 3, [81, 2, 1], 0), (29, .istore 4, 2, [], 0), (31, .iload 4, 2, [], 0), (33, .invokestatic 43, 3, [32, 1, 1], 0), (36, .istore 5, 2, [], 0), (38, .aload_n 0, 1, [], 0), (39, .getfield 18, 3, [4, 1], 0), (42, .invokevirtual 47, 3, [13, 1, 1, 2], 0), (45, .ifCond .eq 5, 3, [2], 0), (48, .iload_n 3, 1, [], 0), (49, .ireturn, 1, [0], 0)],
  [(50, .iload 5, 2, [], 0), (52, .bipush (-6), 2, [], (-6)), (54, .if_icmp .eq 21, 3, [3], 0), (57, .aload_n 0, 1, [], 0), (58, .getfield 18, 3, [4, 1], 0), (61, .iload 5, 2, [], 0), (63, .iload_n 1, 1, [], 0), (64, .iload_n 2, 1, [], 0), (65, .invokevirtual 51, 3, [18, 4, 0, 2], 0), (68, .iconst 0, 1, [], 0), (69, .istore_n 1, 1, [], 0), (70, .iconst 0, 1, [], 0), (71, .istore_n 2, 1, [], 0), (72, .goto 63, 3, [6], 0)],
  [(75, .iload 4, 2, [], 0), (77, .bipush 49, 2, [], 49), (79, .if_icmp .lt 27, 3, [4], 0), (82, .iload 4, 2, [], 0), (84, .bipush 57, 2, [], 57), (86, .if_icmp .gt 20, 3, [4], 0), (89, .iload_n 1, 1, [], 0), (90, .ifCond .ne 16, 3, [4], 0), (93, .iload_n 2, 1, [], 0), (94, .ifCond .ne 12, 3, [4], 0), (97, .iload 4, 2, [], 0), (99, .bipush 48, 2, [], 48), (101, .isub, 1, [], 0), (102, .istore_n 1, 1, [], 0), (103, .goto 32, 3, [6], 0)],
  [(106, .iload 4, 2, [], 0), (108, .bipush 42, 2, [], 42), (110, .if_icmp .ne 23, 3, [5], 0), (113, .iload_n 2, 1, [], 0), (114, .ifCond .ne 19, 3, [5], 0), (117, .aload_n 0, 1, [], 0), (118, .getfield 18, 3, [4, 1], 0), (121, .getfield 55, 3, [2, 1], 0), (124, .iconst 4, 1, [], 4), (125, .if_icmp .ge 8, 3, [5], 0), (128, .iconst 1, 1, [], 1), (129, .istore_n 2, 1, [], 0), (130, .goto 5, 3, [6], 0)],
  [(133, .iload_n 3, 1, [], 0), (134, .ireturn, 1, [0], 0)],
  [(135, .iinc 3 1, 3, [], 1), (138, .goto (-125), 3, [1], 0)],
  [(141, .aload_n 0, 1, [], 0), (142, .getfield 18, 3, [4, 1], 0), (145, .getfield 58, 3, [2, 0], 0), (148, .ifCond .eq 11, 3, [8], 0), (151, .iload_n 1, 1, [], 0), (152, .ifCond .gt 7, 3, [8], 0), (155, .iload_n 2, 1, [], 0), (156, .ifCond .eq 10, 3, [9], 0), (159, .nop, 0, [8], 0)],
  [(159, .aload_n 0, 1, [], 0), (160, .getfield 9, 3, [4, 0], 0), (163, .goto 5, 3, [10], 0)],
  [(166, .bipush (-6), 2, [], (-6)), (168, .nop, 0, [10], 0)],
  [(168, .ireturn, 1, [0], 0)]]
def kB_X4_readDay : List (List mIns) := [[(0, .iconst 0, 1, [], 0), (1, .istore_n 2, 1, [], 0), (2, .iconst 0, 1, [], 0), (3, .istore_n 3, 1, [], 0), (4, .iconst 0, 1, [], 0), (5, .istore 4, 2, [], 0), (7, .iconst 0, 1, [], 0), (8, .istore 5, 2, [], 0), (10, .nop, 0, [1], 0)],
  [(10, .iload 5, 2, [], 0), (12, .aload_n 0, 1, [], 0), (13, .getfield 9, 3, [4, 0], 0), (16, .if_icmp .ge 137, 3, [6], 0), (19, .aload_n 0, 1, [], 0), (20, .getfield 22, 3, [4, 2], 0), (23, .iload 5, 2, [], 0), (25, .invokestatic 36, 3, [81, 2, 1], 0), (28, .istore 6, 2, [], 0), (30, .iload 6, 2, [], 0), (32, .bipush 49, 2, [], 49), (34, .isub, 1, [], 0), (35, .istore 7, 2, [], 0), (37, .iload 6, 2, [], 0), (39, .bipush 65, 2, [], 65), (41, .isub, 1, [], 0), (42, .istore 8, 2, [], 0), (44, .iload 6, 2, [], 0), (46, .bipush 47, 2, [], 47), (48, .if_icmp .ne 27, 3, [2], 0), (51, .iload_n 2, 1, [], 0), (52, .iconst 5, 1, [], 5), (53, .if_icmp .ge 22, 3, [2], 0), (56, .aload_n 0, 1, [], 0), (57, .iload_n 2, 1, [], 0), (58, .iload_n 3, 1, [], 0), (59, .iload 4, 2, [], 0), (61, .invokevirtual 61, 3, [31, 4, 0, 4], 0), (64, .iinc 2 1, 3, [], 1), (67, .iconst 0, 1, [], 0), (68, .istore_n 3, 1, [], 0), (69, .iconst 0, 1, [], 0), (70, .istore 4, 2, [], 0), (72, .goto 75, 3, [5], 0)],
  [(75, .iload 7, 2, [], 0), (77, .ifCond .lt 31, 3, [3], 0), (80, .iload 7, 2, [], 0), (82, .aload_n 1, 1, [], 0), (83, .getfield 55, 3, [2, 1], 0), (86, .if_icmp .ge 22, 3, [3], 0), (89, .iload_n 3, 1, [], 0), (90, .iload 7, 2, [], 0), (92, .invokestatic 65, 3, [85, 2, 1], 0), (95, .ifCond .ne 13, 3, [3], 0), (98, .iload_n 3, 1, [], 0), (99, .iconst 1, 1, [], 1), (100, .iload 7, 2, [], 0), (102, .ishl, 1, [], 0), (103, .ior, 1, [], 0), (104, .istore_n 3, 1, [], 0), (105, .goto 42, 3, [5], 0)],
  [(108, .iload 8, 2, [], 0), (110, .ifCond .lt 34, 3, [4], 0), (113, .iload 8, 2, [], 0), (115, .aload_n 1, 1, [], 0), (116, .getfield 58, 3, [2, 0], 0), (119, .if_icmp .ge 25, 3, [4], 0), (122, .iload 4, 2, [], 0), (124, .iload 8, 2, [], 0), (126, .invokestatic 65, 3, [85, 2, 1], 0), (129, .ifCond .ne 15, 3, [4], 0), (132, .iload 4, 2, [], 0), (134, .iconst 1, 1, [], 1), (135, .iload 8, 2, [], 0), (137, .ishl, 1, [], 0), (138, .ior, 1, [], 0), (139, .istore 4, 2, [], 0), (141, .goto 6, 3, [5], 0)],
  [(144, .iload 5, 2, [], 0), (146, .ireturn, 1, [0], 0)],
  [(147, .iinc 5 1, 3, [], 1), (150, .goto (-140), 3, [1], 0)],
  [(153, .aload_n 0, 1, [], 0), (154, .iload_n 2, 1, [], 0), (155, .iload_n 3, 1, [], 0), (156, .iload 4, 2, [], 0), (158, .invokevirtual 61, 3, [31, 4, 0, 4], 0), (161, .iload_n 2, 1, [], 0), (162, .iconst 5, 1, [], 5), (163, .if_icmp .ge 10, 3, [7], 0), (166, .aload_n 0, 1, [], 0), (167, .getfield 9, 3, [4, 0], 0), (170, .goto 5, 3, [8], 0)],
  [(173, .bipush (-6), 2, [], (-6)), (175, .nop, 0, [8], 0)],
  [(175, .ireturn, 1, [0], 0)]]
def kB_X4_keepHour : List (List mIns) := [[(0, .aload_n 0, 1, [], 0), (1, .getfield 26, 3, [4, 3], 0), (4, .iload_n 1, 1, [], 0), (5, .iload_n 2, 1, [], 0), (6, .invokestatic 32, 3, [82, 3, 0], 0), (9, .aload_n 0, 1, [], 0), (10, .getfield 29, 3, [4, 4], 0), (13, .iload_n 1, 1, [], 0), (14, .iload_n 3, 1, [], 0), (15, .invokestatic 32, 3, [82, 3, 0], 0), (18, .return_, 1, [], 0)]]
def kB_X4_kindBySign : List (List mIns) := [[(0, .iconst 0, 1, [], 0), (1, .istore_n 1, 1, [], 0), (2, .nop, 0, [1], 0)],
  [(2, .iload_n 1, 1, [], 0), (3, .bipush 6, 2, [], 6), (5, .if_icmp .ge 22, 3, [3], 0), (8, .getstatic 69, 3, [5], 0), (11, .iload_n 1, 1, [], 0), (12, .invokestatic 36, 3, [81, 2, 1], 0), (15, .iload_n 0, 1, [], 0), (16, .if_icmp .ne 5, 3, [2], 0), (19, .iload_n 1, 1, [], 0), (20, .ireturn, 1, [0], 0)],
  [(21, .iinc 1 1, 3, [], 1), (24, .goto (-22), 3, [1], 0)],
  [(27, .bipush (-6), 2, [], (-6)), (29, .ireturn, 1, [0], 0)]]
def kB_X5_forgetPlans : List (List mIns) := [[(0, .aload_n 0, 1, [], 0), (1, .bipush (-6), 2, [], (-6)), (3, .putfield 18, 3, [5, 1], 0), (6, .aload_n 0, 1, [], 0), (7, .bipush (-6), 2, [], (-6)), (9, .putfield 22, 3, [5, 2], 0), (12, .aload_n 0, 1, [], 0), (13, .iconst 0, 1, [], 0), (14, .putfield 25, 3, [5, 3], 0), (17, .return_, 1, [], 0)]]
def kB_X5_improve : List (List mIns) := [[(0, .aload_n 0, 1, [], 0), (1, .getfield 18, 3, [5, 1], 0), (4, .istore_n 2, 1, [], 0), (5, .aload_n 0, 1, [], 0), (6, .getfield 38, 3, [5, 4], 0), (9, .iconst 0, 1, [], 0), (10, .invokevirtual 42, 3, [39, 2, 1, 6], 0), (13, .istore_n 3, 1, [], 0), (14, .aload_n 0, 1, [], 0), (15, .iload_n 1, 1, [], 0), (16, .putfield 28, 3, [5, 5], 0), (19, .aload_n 0, 1, [], 0), (20, .bipush (-6), 2, [], (-6)), (22, .putfield 22, 3, [5, 2], 0), (25, .aload_n 0, 1, [], 0), (26, .invokevirtual 48, 3, [35, 1, 0, 5], 0), (29, .iconst 0, 1, [], 0), (30, .istore 4, 2, [], 0), (32, .nop, 0, [1], 0)],
  [(32, .iload 4, 2, [], 0), (34, .aload_n 0, 1, [], 0), (35, .getfield 12, 3, [5, 0], 0), (38, .invokevirtual 51, 3, [15, 1, 1, 2], 0), (41, .if_icmp .ge 33, 3, [2], 0), (44, .aload_n 0, 1, [], 0), (45, .iload 4, 2, [], 0), (47, .putfield 31, 3, [5, 6], 0), (50, .aload_n 0, 1, [], 0), (51, .iconst 0, 1, [], 0), (52, .iload_n 3, 1, [], 0), (53, .iload_n 3, 1, [], 0), (54, .aload_n 0, 1, [], 0), (55, .getfield 38, 3, [5, 4], 0), (58, .iconst 1, 1, [], 1), (59, .invokevirtual 42, 3, [39, 2, 1, 6], 0), (62, .imul, 1, [], 0), (63, .iconst 0, 1, [], 0), (64, .iconst 0, 1, [], 0), (65, .invokestatic 55, 3, [38, 6, 0], 0), (68, .iinc 4 1, 3, [], 1), (71, .goto (-39), 3, [1], 0)],
  [(74, .aload_n 0, 1, [], 0), (75, .getfield 18, 3, [5, 1], 0), (78, .iload_n 2, 1, [], 0), (79, .if_icmp .le 7, 3, [3], 0), (82, .iconst 1, 1, [], 1), (83, .goto 4, 3, [4], 0)],
  [(86, .iconst 0, 1, [], 0), (87, .nop, 0, [4], 0)],
  [(87, .ireturn, 1, [1], 0)]]
def kB_X5_sumWorthBehind : List (List mIns) := [[(0, .iconst 0, 1, [], 0), (1, .istore_n 1, 1, [], 0), (2, .aload_n 0, 1, [], 0), (3, .getfield 34, 3, [5, 7], 0), (6, .aload_n 0, 1, [], 0), (7, .getfield 12, 3, [5, 0], 0), (10, .getfield 59, 3, [2, 0], 0), (13, .iconst 0, 1, [], 0), (14, .invokestatic 62, 3, [82, 3, 0], 0), (17, .aload_n 0, 1, [], 0), (18, .getfield 12, 3, [5, 0], 0), (21, .getfield 59, 3, [2, 0], 0), (24, .iconst 1, 1, [], 1), (25, .isub, 1, [], 0), (26, .istore_n 2, 1, [], 0), (27, .nop, 0, [1], 0)],
  [(27, .iload_n 2, 1, [], 0), (28, .ifCond .lt 54, 3, [3], 0), (31, .aload_n 0, 1, [], 0), (32, .getfield 12, 3, [5, 0], 0), (35, .iload_n 2, 1, [], 0), (36, .invokevirtual 66, 3, [10, 2, 1, 2], 0), (39, .istore_n 3, 1, [], 0), (40, .aload_n 0, 1, [], 0), (41, .getfield 38, 3, [5, 4], 0), (44, .iload_n 3, 1, [], 0), (45, .aload_n 0, 1, [], 0), (46, .getfield 28, 3, [5, 5], 0), (49, .invokevirtual 69, 3, [41, 3, 1, 6], 0), (52, .ifCond .eq 15, 3, [2], 0), (55, .iload_n 1, 1, [], 0), (56, .aload_n 0, 1, [], 0), (57, .getfield 38, 3, [5, 4], 0), (60, .iconst 3, 1, [], 3), (61, .iload_n 3, 1, [], 0), (62, .invokevirtual 73, 3, [40, 3, 1, 6], 0), (65, .iadd, 1, [], 0), (66, .istore_n 1, 1, [], 0), (67, .nop, 0, [2], 0)],
  [(67, .aload_n 0, 1, [], 0), (68, .getfield 34, 3, [5, 7], 0), (71, .iload_n 2, 1, [], 0), (72, .iload_n 1, 1, [], 0), (73, .invokestatic 62, 3, [82, 3, 0], 0), (76, .iinc 2 (-1), 3, [], (-1)), (79, .goto (-52), 3, [1], 0)],
  [(82, .return_, 1, [], 0)]]
def kB_X5_mayWin : List (List mIns) := [[(0, .iload_n 1, 1, [], 0), (1, .aload_n 0, 1, [], 0), (2, .getfield 18, 3, [5, 1], 0), (5, .if_icmp .gt 22, 3, [1], 0), (8, .iload_n 1, 1, [], 0), (9, .aload_n 0, 1, [], 0), (10, .getfield 18, 3, [5, 1], 0), (13, .if_icmp .ne 18, 3, [2], 0), (16, .aload_n 0, 1, [], 0), (17, .getfield 31, 3, [5, 6], 0), (20, .aload_n 0, 1, [], 0), (21, .getfield 22, 3, [5, 2], 0), (24, .if_icmp .ne 7, 3, [2], 0), (27, .nop, 0, [1], 0)],
  [(27, .iconst 1, 1, [], 1), (28, .goto 4, 3, [3], 0)],
  [(31, .iconst 0, 1, [], 0), (32, .nop, 0, [3], 0)],
  [(32, .ireturn, 1, [1], 0)]]
def kB_X5_offer : List (List mIns) := [[(0, .iload_n 2, 1, [], 0), (1, .aload_n 0, 1, [], 0), (2, .getfield 18, 3, [5, 1], 0), (5, .if_icmp .gt 30, 3, [1], 0), (8, .iload_n 2, 1, [], 0), (9, .aload_n 0, 1, [], 0), (10, .getfield 18, 3, [5, 1], 0), (13, .if_icmp .ne 40, 3, [2], 0), (16, .aload_n 0, 1, [], 0), (17, .getfield 31, 3, [5, 6], 0), (20, .aload_n 0, 1, [], 0), (21, .getfield 22, 3, [5, 2], 0), (24, .if_icmp .ne 29, 3, [2], 0), (27, .iload_n 1, 1, [], 0), (28, .aload_n 0, 1, [], 0), (29, .getfield 25, 3, [5, 3], 0), (32, .if_icmp .ge 21, 3, [2], 0), (35, .nop, 0, [1], 0)],
  [(35, .aload_n 0, 1, [], 0), (36, .iload_n 2, 1, [], 0), (37, .putfield 18, 3, [5, 1], 0), (40, .aload_n 0, 1, [], 0), (41, .aload_n 0, 1, [], 0), (42, .getfield 31, 3, [5, 6], 0), (45, .putfield 22, 3, [5, 2], 0), (48, .aload_n 0, 1, [], 0), (49, .iload_n 1, 1, [], 0), (50, .putfield 25, 3, [5, 3], 0), (53, .nop, 0, [2], 0)],
  [(53, .return_, 1, [], 0)]]
def kB_X5_descend : List (List mIns) := [[(0, .iload_n 1, 1, [], 0), (1, .aload_n 0, 1, [], 0), (2, .getfield 12, 3, [5, 0], 0), (5, .getfield 59, 3, [2, 0], 0), (8, .if_icmp .ge 9, 3, [1], 0), (11, .iload_n 1, 1, [], 0), (12, .bipush 8, 2, [], 8), (14, .if_icmp .lt 12, 3, [2], 0), (17, .nop, 0, [1], 0)],
  [(17, .aload_n 0, 1, [], 0), (18, .iload 4, 2, [], 0), (20, .iload 5, 2, [], 0), (22, .invokevirtual 77, 3, [37, 3, 0, 5], 0), (25, .return_, 1, [], 0)],
  [(26, .aload_n 0, 1, [], 0), (27, .iload 5, 2, [], 0), (29, .aload_n 0, 1, [], 0), (30, .getfield 34, 3, [5, 7], 0), (33, .iload_n 1, 1, [], 0), (34, .invokestatic 81, 3, [81, 2, 1], 0), (37, .iadd, 1, [], 0), (38, .invokevirtual 85, 3, [36, 2, 1, 5], 0), (41, .ifCond .ne 4, 3, [3], 0), (44, .return_, 1, [], 0)],
  [(45, .aload_n 0, 1, [], 0), (46, .getfield 38, 3, [5, 4], 0), (49, .astore 6, 2, [], 0), (51, .iload_n 2, 1, [], 0), (52, .istore 7, 2, [], 0), (54, .aload 6, 2, [], 0), (56, .aload_n 0, 1, [], 0), (57, .getfield 12, 3, [5, 0], 0), (60, .iload_n 1, 1, [], 0), (61, .invokevirtual 89, 3, [11, 2, 1, 2], 0), (64, .iload_n 2, 1, [], 0), (65, .iload_n 3, 1, [], 0), (66, .invokevirtual 92, 3, [42, 4, 1, 6], 0), (69, .istore 8, 2, [], 0), (71, .aload_n 0, 1, [], 0), (72, .getfield 31, 3, [5, 6], 0), (75, .aload_n 0, 1, [], 0), (76, .getfield 12, 3, [5, 0], 0), (79, .iload_n 1, 1, [], 0), (80, .invokevirtual 96, 3, [12, 2, 1, 2], 0), (83, .invokestatic 99, 3, [85, 2, 1], 0), (86, .ifCond .eq 32, 3, [4], 0), (89, .iload 7, 2, [], 0), (91, .aload 6, 2, [], 0), (93, .iconst 3, 1, [], 3), (94, .invokevirtual 42, 3, [39, 2, 1, 6], 0), (97, .iadd, 1, [], 0), (98, .istore 7, 2, [], 0), (100, .iload 8, 2, [], 0), (102, .aload 6, 2, [], 0), (104, .iconst 3, 1, [], 3), (105, .invokevirtual 42, 3, [39, 2, 1, 6], 0), (108, .aload 6, 2, [], 0), (110, .iconst 4, 1, [], 4), (111, .invokevirtual 42, 3, [39, 2, 1, 6], 0), (114, .imul, 1, [], 0), (115, .iadd, 1, [], 0), (116, .istore 8, 2, [], 0), (118, .nop, 0, [4], 0)],
  [(118, .aload_n 0, 1, [], 0), (119, .getfield 12, 3, [5, 0], 0), (122, .iload_n 1, 1, [], 0), (123, .invokevirtual 66, 3, [10, 2, 1, 2], 0), (126, .istore 9, 2, [], 0), (128, .aload 6, 2, [], 0), (130, .iload 9, 2, [], 0), (132, .iload 7, 2, [], 0), (134, .iload 8, 2, [], 0), (136, .invokevirtual 102, 3, [43, 4, 1, 6], 0), (139, .ifCond .eq 4, 3, [5], 0), (142, .return_, 1, [], 0)],
  [(143, .aload 6, 2, [], 0), (145, .iload 9, 2, [], 0), (147, .aload_n 0, 1, [], 0), (148, .getfield 28, 3, [5, 5], 0), (151, .iload 7, 2, [], 0), (153, .iload 8, 2, [], 0), (155, .invokevirtual 106, 3, [44, 5, 1, 6], 0), (158, .ifCond .eq 40, 3, [6], 0), (161, .aload_n 0, 1, [], 0), (162, .iload_n 1, 1, [], 0), (163, .iconst 1, 1, [], 1), (164, .iadd, 1, [], 0), (165, .iload 7, 2, [], 0), (167, .iload 8, 2, [], 0), (169, .aload 6, 2, [], 0), (171, .iconst 2, 1, [], 2), (172, .iload 9, 2, [], 0), (174, .invokevirtual 73, 3, [40, 3, 1, 6], 0), (177, .isub, 1, [], 0), (178, .iload 4, 2, [], 0), (180, .iconst 1, 1, [], 1), (181, .iload_n 1, 1, [], 0), (182, .ishl, 1, [], 0), (183, .ior, 1, [], 0), (184, .iload 5, 2, [], 0), (186, .aload 6, 2, [], 0), (188, .iconst 3, 1, [], 3), (189, .iload 9, 2, [], 0), (191, .invokevirtual 73, 3, [40, 3, 1, 6], 0), (194, .iadd, 1, [], 0), (195, .invokestatic 55, 3, [38, 6, 0], 0), (198, .nop, 0, [6], 0)],
  [(198, .aload_n 0, 1, [], 0), (199, .iload_n 1, 1, [], 0), (200, .iconst 1, 1, [], 1), (201, .iadd, 1, [], 0), (202, .iload 7, 2, [], 0), (204, .iload 8, 2, [], 0), (206, .iload 4, 2, [], 0), (208, .iload 5, 2, [], 0), (210, .invokestatic 55, 3, [38, 6, 0], 0), (213, .return_, 1, [], 0)]]
def kB_X6_springValue : List (List mIns) := [[(0, .aload_n 0, 1, [], 0), (1, .getfield 18, 3, [6, 0], 0), (4, .iload_n 1, 1, [], 0), (5, .invokestatic 43, 3, [81, 2, 1], 0), (8, .ireturn, 1, [0], 0)]]
def kB_X6_kindValue : List (List mIns) := [[(0, .aload_n 0, 1, [], 0), (1, .getfield 26, 3, [6, 1], 0), (4, .iload_n 1, 1, [], 0), (5, .bipush 6, 2, [], 6), (7, .imul, 1, [], 0), (8, .iload_n 2, 1, [], 0), (9, .iadd, 1, [], 0), (10, .invokestatic 43, 3, [81, 2, 1], 0), (13, .ireturn, 1, [0], 0)]]
def kB_X6_isWanting : List (List mIns) := [[(0, .aload_n 0, 1, [], 0), (1, .iconst 4, 1, [], 4), (2, .iload_n 1, 1, [], 0), (3, .invokevirtual 47, 3, [40, 3, 1, 6], 0), (6, .iload_n 2, 1, [], 0), (7, .invokestatic 51, 3, [85, 2, 1], 0), (10, .ireturn, 1, [1], 0)]]
def kB_X6_heatBehindPipe : List (List mIns) := [[(0, .aload_n 0, 1, [], 0), (1, .iconst 2, 1, [], 2), (2, .invokevirtual 55, 3, [39, 2, 1, 6], 0), (5, .iload_n 2, 1, [], 0), (6, .imul, 1, [], 0), (7, .istore 4, 2, [], 0), (9, .iload_n 3, 1, [], 0), (10, .iload 4, 2, [], 0), (12, .if_icmp .ge 7, 3, [1], 0), (15, .iload_n 3, 1, [], 0), (16, .goto 16, 3, [2], 0)],
  [(19, .iload_n 3, 1, [], 0), (20, .bipush 10, 2, [], 10), (22, .iload_n 1, 1, [], 0), (23, .imul, 1, [], 0), (24, .iload_n 2, 1, [], 0), (25, .imul, 1, [], 0), (26, .isub, 1, [], 0), (27, .iload 4, 2, [], 0), (29, .invokestatic 59, 3, [0], 0), (32, .nop, 0, [2], 0)],
  [(32, .ireturn, 1, [0], 0)]]
def kB_X6_isHarmed : List (List mIns) := [[(0, .iload_n 3, 1, [], 0), (1, .aload_n 0, 1, [], 0), (2, .iconst 1, 1, [], 1), (3, .iload_n 1, 1, [], 0), (4, .invokevirtual 47, 3, [40, 3, 1, 6], 0), (7, .iload_n 2, 1, [], 0), (8, .imul, 1, [], 0), (9, .if_icmp .le 7, 3, [1], 0), (12, .iconst 1, 1, [], 1), (13, .goto 4, 3, [2], 0)],
  [(16, .iconst 0, 1, [], 0), (17, .nop, 0, [2], 0)],
  [(17, .ireturn, 1, [1], 0)]]
def kB_X6_isServed : List (List mIns) := [[(0, .aload_n 0, 1, [], 0), (1, .iconst 4, 1, [], 4), (2, .iload_n 1, 1, [], 0), (3, .invokevirtual 47, 3, [40, 3, 1, 6], 0), (6, .iload_n 2, 1, [], 0), (7, .invokestatic 51, 3, [85, 2, 1], 0), (10, .ifCond .eq 39, 3, [1], 0), (13, .iload 4, 2, [], 0), (15, .aload_n 0, 1, [], 0), (16, .iconst 0, 1, [], 0), (17, .iload_n 1, 1, [], 0), (18, .invokevirtual 47, 3, [40, 3, 1, 6], 0), (21, .iload_n 3, 1, [], 0), (22, .imul, 1, [], 0), (23, .if_icmp .lt 26, 3, [1], 0), (26, .iload 4, 2, [], 0), (28, .aload_n 0, 1, [], 0), (29, .iconst 2, 1, [], 2), (30, .iload_n 1, 1, [], 0), (31, .invokevirtual 47, 3, [40, 3, 1, 6], 0), (34, .isub, 1, [], 0), (35, .aload_n 0, 1, [], 0), (36, .iconst 2, 1, [], 2), (37, .invokevirtual 55, 3, [39, 2, 1, 6], 0), (40, .iload_n 3, 1, [], 0), (41, .imul, 1, [], 0), (42, .if_icmp .lt 7, 3, [1], 0), (45, .iconst 1, 1, [], 1), (46, .goto 4, 3, [2], 0)],
  [(49, .iconst 0, 1, [], 0), (50, .nop, 0, [2], 0)],
  [(50, .ireturn, 1, [1], 0)]]
def kB_X6_copyOf : List (List mIns) := [[(0, .aload_n 1, 1, [], 0), (1, .getfield 18, 3, [6, 0], 0), (4, .aload_n 0, 1, [], 0), (5, .getfield 18, 3, [6, 0], 0), (8, .invokestatic 64, 3, [84, 2, 0], 0), (11, .aload_n 1, 1, [], 0), (12, .getfield 26, 3, [6, 1], 0), (15, .aload_n 0, 1, [], 0), (16, .getfield 26, 3, [6, 1], 0), (19, .invokestatic 64, 3, [84, 2, 0], 0), (22, .aload_n 0, 1, [], 0), (23, .getfield 32, 3, [6, 2], 0), (26, .aload_n 1, 1, [], 0), (27, .getfield 32, 3, [6, 2], 0), (30, .invokevirtual 68, 3, [21, 2, 0, 2], 0), (33, .aload_n 0, 1, [], 0), (34, .getfield 39, 3, [6, 3], 0), (37, .aload_n 1, 1, [], 0), (38, .getfield 39, 3, [6, 3], 0), (41, .invokevirtual 72, 3, [9, 2, 0, 1], 0), (44, .return_, 1, [], 0)]]
def kB_X7_spring : List (List mIns) := [[(0, .iload_n 1, 1, [], 0), (1, .ifCond .lt 8, 3, [1], 0), (4, .iload_n 1, 1, [], 0), (5, .iconst 4, 1, [], 4), (6, .if_icmp .le 5, 3, [2], 0), (9, .nop, 0, [1], 0)],
  [(9, .iconst (-1), 1, [], (-1)), (10, .ireturn, 1, [0], 0)],
  [(11, .iload_n 2, 1, [], 0), (12, .getstatic 73, 3, [1], 0), (15, .iload_n 1, 1, [], 0), (16, .invokestatic 76, 3, [81, 2, 1], 0), (19, .if_icmp .lt 14, 3, [3], 0), (22, .iload_n 2, 1, [], 0), (23, .getstatic 80, 3, [2], 0), (26, .iload_n 1, 1, [], 0), (27, .invokestatic 76, 3, [81, 2, 1], 0), (30, .if_icmp .le 6, 3, [4], 0), (33, .nop, 0, [3], 0)],
  [(33, .bipush (-2), 2, [], (-2)), (35, .ireturn, 1, [0], 0)],
  [(36, .aload_n 0, 1, [], 0), (37, .getfield 19, 3, [7, 1], 0), (40, .getfield 83, 3, [6, 0], 0), (43, .iload_n 1, 1, [], 0), (44, .iload_n 2, 1, [], 0), (45, .invokestatic 86, 3, [83, 3, 1], 0), (48, .ireturn, 1, [0], 0)]]
def kB_X7_kind : List (List mIns) := [[(0, .iload_n 1, 1, [], 0), (1, .invokestatic 90, 3, [71, 1, 1], 0), (4, .ifCond .eq 5, 3, [1], 0), (7, .iconst (-1), 1, [], (-1)), (8, .ireturn, 1, [0], 0)],
  [(9, .iload_n 2, 1, [], 0), (10, .ifCond .lt 23, 3, [2], 0), (13, .iload_n 2, 1, [], 0), (14, .iconst 4, 1, [], 4), (15, .if_icmp .gt 18, 3, [2], 0), (18, .iload_n 3, 1, [], 0), (19, .ifCond .lt 14, 3, [2], 0), (22, .iload_n 3, 1, [], 0), (23, .getstatic 94, 3, [4], 0), (26, .iload_n 2, 1, [], 0), (27, .invokestatic 76, 3, [81, 2, 1], 0), (30, .if_icmp .le 6, 3, [3], 0), (33, .nop, 0, [2], 0)],
  [(33, .bipush (-2), 2, [], (-2)), (35, .ireturn, 1, [0], 0)],
  [(36, .aload_n 0, 1, [], 0), (37, .getfield 19, 3, [7, 1], 0), (40, .getfield 97, 3, [6, 1], 0), (43, .iload_n 2, 1, [], 0), (44, .bipush 6, 2, [], 6), (46, .imul, 1, [], 0), (47, .iload_n 1, 1, [], 0), (48, .iadd, 1, [], 0), (49, .iload_n 3, 1, [], 0), (50, .invokestatic 86, 3, [83, 3, 1], 0), (53, .ireturn, 1, [0], 0)]]
def kB_X7_say : List (List mIns) := [[(0, .iload_n 1, 1, [], 0), (1, .bipush 33, 2, [], 33), (3, .if_icmp .lt 9, 3, [1], 0), (6, .iload_n 1, 1, [], 0), (7, .bipush 126, 2, [], 126), (9, .if_icmp .le 6, 3, [2], 0), (12, .nop, 0, [1], 0)],
  [(12, .bipush (-2), 2, [], (-2)), (14, .ireturn, 1, [0], 0)],
  [(15, .aload_n 0, 1, [], 0), (16, .getfield 10, 3, [7, 0], 0), (19, .iload_n 1, 1, [], 0), (20, .invokevirtual 100, 3, [25, 2, 1, 4], 0), (23, .ifCond .eq 13, 3, [3], 0), (26, .aload_n 0, 1, [], 0), (27, .getfield 10, 3, [7, 0], 0), (30, .getfield 103, 3, [4, 0], 0), (33, .goto 5, 3, [4], 0)],
  [(36, .bipush (-4), 2, [], (-4)), (38, .nop, 0, [4], 0)],
  [(38, .ireturn, 1, [0], 0)]]
def kB_X7_wipe : List (List mIns) := [[(0, .aload_n 0, 1, [], 0), (1, .getfield 10, 3, [7, 0], 0), (4, .invokevirtual 106, 3, [26, 1, 1, 4], 0), (7, .ireturn, 1, [0], 0)]]
def kB_X7_fault : List (List mIns) := [[(0, .iload_n 1, 1, [], 0), (1, .ifCond .ne 11, 3, [1], 0), (4, .aload_n 0, 1, [], 0), (5, .getfield 10, 3, [7, 0], 0), (8, .invokevirtual 110, 3, [29, 1, 1, 4], 0), (11, .ireturn, 1, [0], 0)],
  [(12, .iload_n 1, 1, [], 0), (13, .iconst 1, 1, [], 1), (14, .if_icmp .ne 20, 3, [2], 0), (17, .aload_n 0, 1, [], 0), (18, .getfield 10, 3, [7, 0], 0), (21, .aload_n 0, 1, [], 0), (22, .getfield 19, 3, [7, 1], 0), (25, .getfield 63, 3, [6, 2], 0), (28, .invokevirtual 113, 3, [30, 2, 1, 4], 0), (31, .goto 5, 3, [3], 0)],
  [(34, .bipush (-2), 2, [], (-2)), (36, .nop, 0, [3], 0)],
  [(36, .ireturn, 1, [0], 0)]]
def kB_X7_lane : List (List mIns) := [[(0, .aload_n 0, 1, [], 0), (1, .getfield 10, 3, [7, 0], 0), (4, .invokevirtual 110, 3, [29, 1, 1, 4], 0), (7, .bipush (-6), 2, [], (-6)), (9, .if_icmp .eq 6, 3, [1], 0), (12, .bipush (-5), 2, [], (-5)), (14, .ireturn, 1, [0], 0)],
  [(15, .aload_n 0, 1, [], 0), (16, .getfield 19, 3, [7, 1], 0), (19, .getfield 63, 3, [6, 2], 0), (22, .aload_n 0, 1, [], 0), (23, .getfield 10, 3, [7, 0], 0), (26, .getfield 117, 3, [4, 1], 0), (29, .invokevirtual 120, 3, [21, 2, 0, 2], 0), (32, .aload_n 0, 1, [], 0), (33, .getfield 19, 3, [7, 1], 0), (36, .getfield 124, 3, [6, 3], 0), (39, .invokevirtual 128, 3, [7, 1, 1, 1], 0), (42, .pop, 1, [], 0), (43, .aload_n 0, 1, [], 0), (44, .getfield 10, 3, [7, 0], 0), (47, .invokevirtual 106, 3, [26, 1, 1, 4], 0), (50, .pop, 1, [], 0), (51, .aload_n 0, 1, [], 0), (52, .getfield 19, 3, [7, 1], 0), (55, .getfield 63, 3, [6, 2], 0), (58, .getfield 131, 3, [2, 0], 0), (61, .ireturn, 1, [0], 0)]]
def kB_X7_house : List (List mIns) := [[(0, .aload_n 0, 1, [], 0), (1, .iload_n 1, 1, [], 0), (2, .invokevirtual 134, 3, [72, 2, 1, 7], 0), (5, .ifCond .eq 5, 3, [1], 0), (8, .iconst (-1), 1, [], (-1)), (9, .ireturn, 1, [0], 0)],
  [(10, .iload_n 2, 1, [], 0), (11, .tableswitch 61 0 2 #[25, 37, 49], 25, [5, 2, 3, 4], 0)],
  [(36, .aload_n 0, 1, [], 0), (37, .getfield 19, 3, [7, 1], 0), (40, .getfield 63, 3, [6, 2], 0), (43, .iload_n 1, 1, [], 0), (44, .invokevirtual 137, 3, [10, 2, 1, 2], 0), (47, .ireturn, 1, [0], 0)],
  [(48, .aload_n 0, 1, [], 0), (49, .getfield 19, 3, [7, 1], 0), (52, .getfield 63, 3, [6, 2], 0), (55, .iload_n 1, 1, [], 0), (56, .invokevirtual 141, 3, [11, 2, 1, 2], 0), (59, .ireturn, 1, [0], 0)],
  [(60, .aload_n 0, 1, [], 0), (61, .getfield 19, 3, [7, 1], 0), (64, .getfield 63, 3, [6, 2], 0), (67, .iload_n 1, 1, [], 0), (68, .invokevirtual 144, 3, [12, 2, 1, 2], 0), (71, .ireturn, 1, [0], 0)],
  [(72, .bipush (-2), 2, [], (-2)), (74, .ireturn, 1, [0], 0)]]
def kB_X7_at : List (List mIns) := [[(0, .iload 4, 2, [], 0), (2, .ifCond .lt 18, 3, [1], 0), (5, .iload 4, 2, [], 0), (7, .aload_n 0, 1, [], 0), (8, .getfield 19, 3, [7, 1], 0), (11, .getfield 63, 3, [6, 2], 0), (14, .getfield 131, 3, [2, 0], 0), (17, .if_icmp .le 5, 3, [2], 0), (20, .nop, 0, [1], 0)],
  [(20, .iconst (-1), 1, [], (-1)), (21, .ireturn, 1, [0], 0)],
  [(22, .iload_n 1, 1, [], 0), (23, .invokestatic 147, 3, [70, 1, 1], 0), (26, .ifCond .ne 30, 3, [3], 0), (29, .aload_n 0, 1, [], 0), (30, .iload_n 2, 1, [], 0), (31, .invokevirtual 150, 3, [73, 2, 1, 7], 0), (34, .ifCond .ne 22, 3, [3], 0), (37, .aload_n 0, 1, [], 0), (38, .iload_n 3, 1, [], 0), (39, .invokevirtual 153, 3, [74, 2, 1, 7], 0), (42, .ifCond .ne 14, 3, [3], 0), (45, .iload 5, 2, [], 0), (47, .ifCond .lt 9, 3, [3], 0), (50, .iload 5, 2, [], 0), (52, .iconst 1, 1, [], 1), (53, .if_icmp .le 6, 3, [4], 0), (56, .nop, 0, [3], 0)],
  [(56, .bipush (-2), 2, [], (-2)), (58, .ireturn, 1, [0], 0)],
  [(59, .aload_n 0, 1, [], 0), (60, .getfield 38, 3, [7, 5], 0), (63, .aload_n 0, 1, [], 0), (64, .getfield 19, 3, [7, 1], 0), (67, .iconst 1, 1, [], 1), (68, .invokevirtual 156, 3, [39, 2, 1, 6], 0), (71, .iload_n 1, 1, [], 0), (72, .iload_n 2, 1, [], 0), (73, .iload_n 3, 1, [], 0), (74, .invokevirtual 159, 3, [3, 5, 0, 0], 0), (77, .iload 5, 2, [], 0), (79, .ifCond .ne 15, 3, [5], 0), (82, .aload_n 0, 1, [], 0), (83, .getfield 38, 3, [7, 5], 0), (86, .iload 4, 2, [], 0), (88, .invokevirtual 163, 3, [0, 2, 1, 0], 0), (91, .goto 12, 3, [6], 0)],
  [(94, .aload_n 0, 1, [], 0), (95, .getfield 38, 3, [7, 5], 0), (98, .iload 4, 2, [], 0), (100, .invokevirtual 166, 3, [1, 2, 1, 0], 0), (103, .nop, 0, [6], 0)],
  [(103, .ireturn, 1, [0], 0)]]
def kB_X7_run : List (List mIns) := [[(0, .iload_n 1, 1, [], 0), (1, .invokestatic 147, 3, [70, 1, 1], 0), (4, .ifCond .ne 19, 3, [1], 0), (7, .aload_n 0, 1, [], 0), (8, .iload_n 2, 1, [], 0), (9, .invokevirtual 150, 3, [73, 2, 1, 7], 0), (12, .ifCond .ne 11, 3, [1], 0), (15, .aload_n 0, 1, [], 0), (16, .iload_n 3, 1, [], 0), (17, .invokevirtual 153, 3, [74, 2, 1, 7], 0), (20, .ifCond .eq 6, 3, [2], 0), (23, .nop, 0, [1], 0)],
  [(23, .bipush (-2), 2, [], (-2)), (25, .ireturn, 1, [0], 0)],
  [(26, .aload_n 0, 1, [], 0), (27, .getfield 38, 3, [7, 5], 0), (30, .aload_n 0, 1, [], 0), (31, .getfield 19, 3, [7, 1], 0), (34, .iconst 1, 1, [], 1), (35, .invokevirtual 156, 3, [39, 2, 1, 6], 0), (38, .iload_n 1, 1, [], 0), (39, .iload_n 2, 1, [], 0), (40, .iload_n 3, 1, [], 0), (41, .invokevirtual 159, 3, [3, 5, 0, 0], 0), (44, .iload 4, 2, [], 0), (46, .tableswitch 62 0 3 #[30, 38, 46, 54], 30, [7, 3, 4, 5, 6], 0)],
  [(76, .aload_n 0, 1, [], 0), (77, .getfield 38, 3, [7, 5], 0), (80, .getfield 169, 3, [0, 0], 0), (83, .ireturn, 1, [0], 0)],
  [(84, .aload_n 0, 1, [], 0), (85, .getfield 38, 3, [7, 5], 0), (88, .getfield 172, 3, [0, 1], 0), (91, .ireturn, 1, [0], 0)],
  [(92, .aload_n 0, 1, [], 0), (93, .getfield 38, 3, [7, 5], 0), (96, .getfield 175, 3, [0, 3], 0), (99, .ireturn, 1, [0], 0)],
  [(100, .aload_n 0, 1, [], 0), (101, .getfield 38, 3, [7, 5], 0), (104, .getfield 178, 3, [0, 4], 0), (107, .ireturn, 1, [0], 0)],
  [(108, .bipush (-2), 2, [], (-2)), (110, .ireturn, 1, [0], 0)]]
def kB_X7_judge : List (List mIns) := [[(0, .iload_n 1, 1, [], 0), (1, .ifCond .lt 8, 3, [1], 0), (4, .iload_n 1, 1, [], 0), (5, .iconst 1, 1, [], 1), (6, .if_icmp .le 6, 3, [2], 0), (9, .nop, 0, [1], 0)],
  [(9, .bipush (-2), 2, [], (-2)), (11, .ireturn, 1, [0], 0)],
  [(12, .aload_n 0, 1, [], 0), (13, .getfield 10, 3, [7, 0], 0), (16, .aload_n 0, 1, [], 0), (17, .getfield 19, 3, [7, 1], 0), (20, .getfield 63, 3, [6, 2], 0), (23, .invokevirtual 113, 3, [30, 2, 1, 4], 0), (26, .bipush (-6), 2, [], (-6)), (28, .if_icmp .eq 6, 3, [3], 0), (31, .bipush (-5), 2, [], (-5)), (33, .ireturn, 1, [0], 0)],
  [(34, .iconst 0, 1, [], 0), (35, .istore_n 2, 1, [], 0), (36, .nop, 0, [4], 0)],
  [(36, .iload_n 2, 1, [], 0), (37, .bipush 6, 2, [], 6), (39, .if_icmp .ge 70, 3, [8], 0), (42, .aload_n 0, 1, [], 0), (43, .getfield 38, 3, [7, 5], 0), (46, .aload_n 0, 1, [], 0), (47, .getfield 19, 3, [7, 1], 0), (50, .iconst 1, 1, [], 1), (51, .invokevirtual 156, 3, [39, 2, 1, 6], 0), (54, .iload_n 2, 1, [], 0), (55, .aload_n 0, 1, [], 0), (56, .getfield 10, 3, [7, 0], 0), (59, .iload_n 2, 1, [], 0), (60, .invokevirtual 181, 3, [27, 2, 1, 4], 0), (63, .aload_n 0, 1, [], 0), (64, .getfield 10, 3, [7, 0], 0), (67, .iload_n 2, 1, [], 0), (68, .invokevirtual 184, 3, [28, 2, 1, 4], 0), (71, .invokevirtual 159, 3, [3, 5, 0, 0], 0), (74, .aload_n 0, 1, [], 0), (75, .getfield 38, 3, [7, 5], 0), (78, .getfield 187, 3, [0, 2], 0), (81, .ifCond .eq 22, 3, [7], 0), (84, .iload_n 1, 1, [], 0), (85, .ifCond .ne 7, 3, [5], 0), (88, .iload_n 2, 1, [], 0), (89, .goto 13, 3, [6], 0)],
  [(92, .aload_n 0, 1, [], 0), (93, .getfield 38, 3, [7, 5], 0), (96, .getfield 187, 3, [0, 2], 0), (99, .invokestatic 190, 3, [86, 1, 1], 0), (102, .nop, 0, [6], 0)],
  [(102, .ireturn, 1, [0], 0)],
  [(103, .iinc 2 1, 3, [], 1), (106, .goto (-70), 3, [4], 0)],
  [(109, .bipush (-6), 2, [], (-6)), (111, .ireturn, 1, [0], 0)]]
def kB_X7_best : List (List mIns) := [[(0, .iload_n 1, 1, [], 0), (1, .invokestatic 147, 3, [70, 1, 1], 0), (4, .ifCond .ne 12, 3, [1], 0), (7, .iload_n 2, 1, [], 0), (8, .ifCond .lt 8, 3, [1], 0), (11, .iload_n 2, 1, [], 0), (12, .iconst 2, 1, [], 2), (13, .if_icmp .le 6, 3, [2], 0), (16, .nop, 0, [1], 0)],
  [(16, .bipush (-2), 2, [], (-2)), (18, .ireturn, 1, [0], 0)],
  [(19, .aload_n 0, 1, [], 0), (20, .iload_n 1, 1, [], 0), (21, .invokevirtual 193, 3, [76, 2, 0, 7], 0), (24, .aload_n 0, 1, [], 0), (25, .getfield 45, 3, [7, 6], 0), (28, .getfield 197, 3, [5, 1], 0), (31, .bipush (-6), 2, [], (-6)), (33, .if_icmp .eq 7, 3, [3], 0), (36, .iload_n 2, 1, [], 0), (37, .ifCond .ne 11, 3, [4], 0), (40, .nop, 0, [3], 0)],
  [(40, .aload_n 0, 1, [], 0), (41, .getfield 45, 3, [7, 6], 0), (44, .getfield 197, 3, [5, 1], 0), (47, .ireturn, 1, [0], 0)],
  [(48, .iload_n 2, 1, [], 0), (49, .iconst 1, 1, [], 1), (50, .if_icmp .ne 13, 3, [5], 0), (53, .aload_n 0, 1, [], 0), (54, .getfield 45, 3, [7, 6], 0), (57, .getfield 200, 3, [5, 2], 0), (60, .goto 10, 3, [6], 0)],
  [(63, .aload_n 0, 1, [], 0), (64, .getfield 45, 3, [7, 6], 0), (67, .getfield 203, 3, [5, 3], 0), (70, .nop, 0, [6], 0)],
  [(70, .ireturn, 1, [0], 0)]]
def kB_X7_moss : List (List mIns) := [[(0, .iload_n 1, 1, [], 0), (1, .invokestatic 147, 3, [70, 1, 1], 0), (4, .ifCond .ne 22, 3, [1], 0), (7, .iload_n 2, 1, [], 0), (8, .ifCond .lt 18, 3, [1], 0), (11, .iload_n 2, 1, [], 0), (12, .bipush 8, 2, [], 8), (14, .if_icmp .gt 12, 3, [1], 0), (17, .iload_n 3, 1, [], 0), (18, .ifCond .lt 8, 3, [1], 0), (21, .iload_n 3, 1, [], 0), (22, .iconst 1, 1, [], 1), (23, .if_icmp .le 6, 3, [2], 0), (26, .nop, 0, [1], 0)],
  [(26, .bipush (-2), 2, [], (-2)), (28, .ireturn, 1, [0], 0)],
  [(29, .aload_n 0, 1, [], 0), (30, .iload_n 1, 1, [], 0), (31, .iload_n 2, 1, [], 0), (32, .invokevirtual 206, 3, [77, 3, 1, 7], 0), (35, .istore 4, 2, [], 0), (37, .iload_n 3, 1, [], 0), (38, .ifCond .ne 8, 3, [3], 0), (41, .iload 4, 2, [], 0), (43, .goto 10, 3, [4], 0)],
  [(46, .aload_n 0, 1, [], 0), (47, .getfield 45, 3, [7, 6], 0), (50, .getfield 197, 3, [5, 1], 0), (53, .nop, 0, [4], 0)],
  [(53, .ireturn, 1, [0], 0)]]
def kB_X7_cools : List (List mIns) := [[(0, .iload_n 1, 1, [], 0), (1, .invokestatic 147, 3, [70, 1, 1], 0), (4, .ifCond .ne 19, 3, [1], 0), (7, .aload_n 0, 1, [], 0), (8, .iload_n 2, 1, [], 0), (9, .invokevirtual 150, 3, [73, 2, 1, 7], 0), (12, .ifCond .ne 11, 3, [1], 0), (15, .aload_n 0, 1, [], 0), (16, .iload_n 3, 1, [], 0), (17, .invokevirtual 153, 3, [74, 2, 1, 7], 0), (20, .ifCond .eq 6, 3, [2], 0), (23, .nop, 0, [1], 0)],
  [(23, .bipush (-2), 2, [], (-2)), (25, .ireturn, 1, [0], 0)],
  [(26, .iconst 0, 1, [], 0), (27, .istore 4, 2, [], 0), (29, .nop, 0, [3], 0)],
  [(29, .iload 4, 2, [], 0), (31, .sipush 1000, 3, [], 1000), (34, .if_icmp .gt 34, 3, [5], 0), (37, .aload_n 0, 1, [], 0), (38, .getfield 38, 3, [7, 5], 0), (41, .iload 4, 2, [], 0), (43, .iload_n 1, 1, [], 0), (44, .iload_n 2, 1, [], 0), (45, .iload_n 3, 1, [], 0), (46, .invokevirtual 159, 3, [3, 5, 0, 0], 0), (49, .aload_n 0, 1, [], 0), (50, .getfield 38, 3, [7, 5], 0), (53, .getfield 187, 3, [0, 2], 0), (56, .ifCond .ne 6, 3, [4], 0), (59, .iload 4, 2, [], 0), (61, .ireturn, 1, [0], 0)],
  [(62, .iinc 4 1, 3, [], 1), (65, .goto (-36), 3, [3], 0)],
  [(68, .bipush (-6), 2, [], (-6)), (70, .ireturn, 1, [0], 0)]]
def kB_X7_put : List (List mIns) := [[(0, .iload_n 2, 1, [], 0), (1, .invokestatic 90, 3, [71, 1, 1], 0), (4, .ifCond .ne 21, 3, [1], 0), (7, .iload_n 3, 1, [], 0), (8, .ifCond .lt 17, 3, [1], 0), (11, .iload_n 3, 1, [], 0), (12, .aload_n 0, 1, [], 0), (13, .getfield 19, 3, [7, 1], 0), (16, .getfield 63, 3, [6, 2], 0), (19, .getfield 131, 3, [2, 0], 0), (22, .if_icmp .le 5, 3, [2], 0), (25, .nop, 0, [1], 0)],
  [(25, .iconst (-1), 1, [], (-1)), (26, .ireturn, 1, [0], 0)],
  [(27, .iload_n 1, 1, [], 0), (28, .invokestatic 147, 3, [70, 1, 1], 0), (31, .ifCond .eq 6, 3, [3], 0), (34, .bipush (-2), 2, [], (-2)), (36, .ireturn, 1, [0], 0)],
  [(37, .aload_n 0, 1, [], 0), (38, .getfield 19, 3, [7, 1], 0), (41, .getfield 63, 3, [6, 2], 0), (44, .invokevirtual 210, 3, [13, 1, 1, 2], 0), (47, .ifCond .eq 6, 3, [4], 0), (50, .bipush (-4), 2, [], (-4)), (52, .ireturn, 1, [0], 0)],
  [(53, .aload_n 0, 1, [], 0), (54, .getfield 45, 3, [7, 6], 0), (57, .invokevirtual 214, 3, [33, 1, 0, 5], 0), (60, .aload_n 0, 1, [], 0), (61, .getfield 45, 3, [7, 6], 0), (64, .getfield 217, 3, [5, 0], 0), (67, .aload_n 0, 1, [], 0), (68, .getfield 19, 3, [7, 1], 0), (71, .getfield 63, 3, [6, 2], 0), (74, .invokevirtual 120, 3, [21, 2, 0, 2], 0), (77, .aload_n 0, 1, [], 0), (78, .getfield 45, 3, [7, 6], 0), (81, .getfield 217, 3, [5, 0], 0), (84, .iload_n 2, 1, [], 0), (85, .iload_n 3, 1, [], 0), (86, .invokevirtual 220, 3, [19, 3, 0, 2], 0), (89, .aload_n 0, 1, [], 0), (90, .getfield 45, 3, [7, 6], 0), (93, .iload_n 1, 1, [], 0), (94, .invokevirtual 224, 3, [34, 2, 1, 5], 0), (97, .pop, 1, [], 0), (98, .aload_n 0, 1, [], 0), (99, .getfield 45, 3, [7, 6], 0), (102, .getfield 197, 3, [5, 1], 0), (105, .ireturn, 1, [0], 0)]]
def kB_X7_where : List (List mIns) := [[(0, .iload_n 2, 1, [], 0), (1, .invokestatic 90, 3, [71, 1, 1], 0), (4, .ifCond .eq 5, 3, [1], 0), (7, .iconst (-1), 1, [], (-1)), (8, .ireturn, 1, [0], 0)],
  [(9, .iload_n 1, 1, [], 0), (10, .invokestatic 147, 3, [70, 1, 1], 0), (13, .ifCond .ne 12, 3, [2], 0), (16, .iload_n 3, 1, [], 0), (17, .ifCond .lt 8, 3, [2], 0), (20, .iload_n 3, 1, [], 0), (21, .iconst 1, 1, [], 1), (22, .if_icmp .le 6, 3, [3], 0), (25, .nop, 0, [2], 0)],
  [(25, .bipush (-2), 2, [], (-2)), (27, .ireturn, 1, [0], 0)],
  [(28, .aload_n 0, 1, [], 0), (29, .getfield 19, 3, [7, 1], 0), (32, .getfield 63, 3, [6, 2], 0), (35, .invokevirtual 210, 3, [13, 1, 1, 2], 0), (38, .ifCond .eq 6, 3, [4], 0), (41, .bipush (-4), 2, [], (-4)), (43, .ireturn, 1, [0], 0)],
  [(44, .aload_n 0, 1, [], 0), (45, .iload_n 1, 1, [], 0), (46, .iload_n 2, 1, [], 0), (47, .invokevirtual 227, 3, [78, 3, 1, 7], 0), (50, .istore 4, 2, [], 0), (52, .iload_n 3, 1, [], 0), (53, .ifCond .ne 8, 3, [5], 0), (56, .iload 4, 2, [], 0), (58, .goto 10, 3, [6], 0)],
  [(61, .aload_n 0, 1, [], 0), (62, .getfield 45, 3, [7, 6], 0), (65, .getfield 197, 3, [5, 1], 0), (68, .nop, 0, [6], 0)],
  [(68, .ireturn, 1, [0], 0)]]
def kB_X7_order : List (List mIns) := [[(0, .iload_n 1, 1, [], 0), (1, .invokestatic 147, 3, [70, 1, 1], 0), (4, .ifCond .ne 22, 3, [1], 0), (7, .iload_n 2, 1, [], 0), (8, .iconst (-1), 1, [], (-1)), (9, .if_icmp .lt 17, 3, [1], 0), (12, .iload_n 2, 1, [], 0), (13, .aload_n 0, 1, [], 0), (14, .getfield 19, 3, [7, 1], 0), (17, .getfield 63, 3, [6, 2], 0), (20, .getfield 131, 3, [2, 0], 0), (23, .if_icmp .lt 6, 3, [2], 0), (26, .nop, 0, [1], 0)],
  [(26, .bipush (-2), 2, [], (-2)), (28, .ireturn, 1, [0], 0)],
  [(29, .aload_n 0, 1, [], 0), (30, .getfield 19, 3, [7, 1], 0), (33, .getfield 63, 3, [6, 2], 0), (36, .getfield 131, 3, [2, 0], 0), (39, .bipush 7, 2, [], 7), (41, .if_icmp .le 6, 3, [3], 0), (44, .bipush (-4), 2, [], (-4)), (46, .ireturn, 1, [0], 0)],
  [(47, .aload_n 0, 1, [], 0), (48, .getfield 52, 3, [7, 7], 0), (51, .iload_n 1, 1, [], 0), (52, .invokevirtual 230, 3, [22, 2, 0, 3], 0), (55, .aload_n 0, 1, [], 0), (56, .getfield 52, 3, [7, 7], 0), (59, .getfield 233, 3, [3, 0], 0), (62, .bipush (-6), 2, [], (-6)), (64, .if_icmp .eq 8, 3, [4], 0), (67, .iload_n 2, 1, [], 0), (68, .iconst (-1), 1, [], (-1)), (69, .if_icmp .ne 11, 3, [5], 0), (72, .nop, 0, [4], 0)],
  [(72, .aload_n 0, 1, [], 0), (73, .getfield 52, 3, [7, 7], 0), (76, .getfield 233, 3, [3, 0], 0), (79, .ireturn, 1, [0], 0)],
  [(80, .aload_n 0, 1, [], 0), (81, .getfield 52, 3, [7, 7], 0), (84, .getfield 234, 3, [3, 1], 0), (87, .iload_n 2, 1, [], 0), (88, .invokestatic 76, 3, [81, 2, 1], 0), (91, .ireturn, 1, [0], 0)]]
def kB_X7_felt : List (List mIns) := [[(0, .aload_n 0, 1, [], 0), (1, .iload_n 1, 1, [], 0), (2, .invokevirtual 134, 3, [72, 2, 1, 7], 0), (5, .ifCond .eq 5, 3, [1], 0), (8, .iconst (-1), 1, [], (-1)), (9, .ireturn, 1, [0], 0)],
  [(10, .iload_n 2, 1, [], 0), (11, .ifCond .lt 15, 3, [2], 0), (14, .iload_n 3, 1, [], 0), (15, .sipush 1000, 3, [], 1000), (18, .if_icmp .gt 8, 3, [2], 0), (21, .iload_n 2, 1, [], 0), (22, .iload_n 3, 1, [], 0), (23, .if_icmp .le 6, 3, [3], 0), (26, .nop, 0, [2], 0)],
  [(26, .bipush (-2), 2, [], (-2)), (28, .ireturn, 1, [0], 0)],
  [(29, .aload_n 0, 1, [], 0), (30, .getfield 19, 3, [7, 1], 0), (33, .getfield 124, 3, [6, 3], 0), (36, .iload_n 1, 1, [], 0), (37, .iload_n 2, 1, [], 0), (38, .iload_n 3, 1, [], 0), (39, .invokevirtual 237, 3, [6, 4, 1, 1], 0), (42, .ifCond .eq 16, 3, [4], 0), (45, .aload_n 0, 1, [], 0), (46, .getfield 19, 3, [7, 1], 0), (49, .getfield 124, 3, [6, 3], 0), (52, .getfield 241, 3, [1, 0], 0), (55, .goto 5, 3, [5], 0)],
  [(58, .bipush (-4), 2, [], (-4)), (60, .nop, 0, [5], 0)],
  [(60, .ireturn, 1, [0], 0)]]
def kB_X7_forget : List (List mIns) := [[(0, .aload_n 0, 1, [], 0), (1, .getfield 19, 3, [7, 1], 0), (4, .getfield 124, 3, [6, 3], 0), (7, .invokevirtual 128, 3, [7, 1, 1, 1], 0), (10, .ireturn, 1, [0], 0)]]
def kB_X7_fits : List (List mIns) := [[(0, .iload_n 1, 1, [], 0), (1, .invokestatic 147, 3, [70, 1, 1], 0), (4, .ifCond .ne 11, 3, [1], 0), (7, .aload_n 0, 1, [], 0), (8, .iload_n 2, 1, [], 0), (9, .invokevirtual 153, 3, [74, 2, 1, 7], 0), (12, .ifCond .eq 6, 3, [2], 0), (15, .nop, 0, [1], 0)],
  [(15, .bipush (-2), 2, [], (-2)), (17, .ireturn, 1, [0], 0)],
  [(18, .aload_n 0, 1, [], 0), (19, .iload_n 1, 1, [], 0), (20, .iload_n 2, 1, [], 0), (21, .invokevirtual 242, 3, [79, 3, 1, 7], 0), (24, .istore 4, 2, [], 0), (26, .iload_n 3, 1, [], 0), (27, .iconst (-1), 1, [], (-1)), (28, .if_icmp .ne 6, 3, [3], 0), (31, .iload 4, 2, [], 0), (33, .ireturn, 1, [0], 0)],
  [(34, .iload_n 3, 1, [], 0), (35, .ifCond .lt 20, 3, [4], 0), (38, .iload_n 3, 1, [], 0), (39, .iload 4, 2, [], 0), (41, .if_icmp .ge 14, 3, [4], 0), (44, .aload_n 0, 1, [], 0), (45, .getfield 56, 3, [7, 8], 0), (48, .iload_n 3, 1, [], 0), (49, .invokestatic 76, 3, [81, 2, 1], 0), (52, .goto 5, 3, [5], 0)],
  [(55, .bipush (-6), 2, [], (-6)), (57, .nop, 0, [5], 0)],
  [(57, .ireturn, 1, [0], 0)]]
def kB_X7_door : List (List mIns) := [[(0, .iload_n 1, 1, [], 0), (1, .invokestatic 147, 3, [70, 1, 1], 0), (4, .ifCond .ne 20, 3, [1], 0), (7, .aload_n 0, 1, [], 0), (8, .iload_n 2, 1, [], 0), (9, .invokevirtual 153, 3, [74, 2, 1, 7], 0), (12, .ifCond .ne 12, 3, [1], 0), (15, .iload_n 3, 1, [], 0), (16, .ifCond .lt 8, 3, [1], 0), (19, .iload_n 3, 1, [], 0), (20, .iconst 1, 1, [], 1), (21, .if_icmp .le 6, 3, [2], 0), (24, .nop, 0, [1], 0)],
  [(24, .bipush (-2), 2, [], (-2)), (26, .ireturn, 1, [0], 0)],
  [(27, .aload_n 0, 1, [], 0), (28, .iload_n 1, 1, [], 0), (29, .iload_n 2, 1, [], 0), (30, .invokevirtual 242, 3, [79, 3, 1, 7], 0), (33, .istore 4, 2, [], 0), (35, .iload 4, 2, [], 0), (37, .ifCond .ne 6, 3, [3], 0), (40, .bipush (-6), 2, [], (-6)), (42, .ireturn, 1, [0], 0)],
  [(43, .iconst 0, 1, [], 0), (44, .istore 5, 2, [], 0), (46, .aload_n 0, 1, [], 0), (47, .iconst 0, 1, [], 0), (48, .iload 4, 2, [], 0), (50, .invokevirtual 245, 3, [80, 3, 1, 7], 0), (53, .istore 6, 2, [], 0), (55, .iconst 1, 1, [], 1), (56, .istore 7, 2, [], 0), (58, .nop, 0, [4], 0)],
  [(58, .iload 7, 2, [], 0), (60, .aload_n 0, 1, [], 0), (61, .getfield 19, 3, [7, 1], 0), (64, .getfield 63, 3, [6, 2], 0), (67, .getfield 131, 3, [2, 0], 0), (70, .if_icmp .ge 34, 3, [6], 0), (73, .aload_n 0, 1, [], 0), (74, .iload 7, 2, [], 0), (76, .iload 4, 2, [], 0), (78, .invokevirtual 245, 3, [80, 3, 1, 7], 0), (81, .istore 8, 2, [], 0), (83, .iload 8, 2, [], 0), (85, .iload 6, 2, [], 0), (87, .if_icmp .ge 11, 3, [5], 0), (90, .iload 8, 2, [], 0), (92, .istore 6, 2, [], 0), (94, .iload 7, 2, [], 0), (96, .istore 5, 2, [], 0), (98, .nop, 0, [5], 0)],
  [(98, .iinc 7 1, 3, [], 1), (101, .goto (-43), 3, [4], 0)],
  [(104, .iload_n 3, 1, [], 0), (105, .ifCond .ne 8, 3, [7], 0), (108, .iload 5, 2, [], 0), (110, .goto 5, 3, [8], 0)],
  [(113, .iload 6, 2, [], 0), (115, .nop, 0, [8], 0)],
  [(115, .ireturn, 1, [0], 0)]]
def kB_X7_winter : List (List mIns) := [[(0, .iload_n 1, 1, [], 0), (1, .ifCond .lt 30, 3, [1], 0), (4, .iload_n 1, 1, [], 0), (5, .sipush 9999, 3, [], 9999), (8, .if_icmp .gt 23, 3, [1], 0), (11, .iload_n 2, 1, [], 0), (12, .iconst 1, 1, [], 1), (13, .if_icmp .lt 18, 3, [1], 0), (16, .iload_n 2, 1, [], 0), (17, .bipush 30, 2, [], 30), (19, .if_icmp .gt 12, 3, [1], 0), (22, .iload_n 3, 1, [], 0), (23, .ifCond .lt 8, 3, [1], 0), (26, .iload_n 3, 1, [], 0), (27, .iconst 1, 1, [], 1), (28, .if_icmp .le 6, 3, [2], 0), (31, .nop, 0, [1], 0)],
  [(31, .bipush (-2), 2, [], (-2)), (33, .ireturn, 1, [0], 0)],
  [(34, .iconst 0, 1, [], 0), (35, .istore 4, 2, [], 0), (37, .iconst 0, 1, [], 0), (38, .istore 5, 2, [], 0), (40, .nop, 0, [3], 0)],
  [(40, .iload 5, 2, [], 0), (42, .bipush 6, 2, [], 6), (44, .if_icmp .ge 157, 3, [12], 0), (47, .aload_n 0, 1, [], 0), (48, .iload 5, 2, [], 0), (50, .invokevirtual 193, 3, [76, 2, 0, 7], 0), (53, .aload_n 0, 1, [], 0), (54, .getfield 45, 3, [7, 6], 0), (57, .getfield 197, 3, [5, 1], 0), (60, .bipush (-6), 2, [], (-6)), (62, .if_icmp .ne 7, 3, [4], 0), (65, .iconst 0, 1, [], 0), (66, .goto 10, 3, [5], 0)],
  [(69, .aload_n 0, 1, [], 0), (70, .getfield 45, 3, [7, 6], 0), (73, .getfield 200, 3, [5, 2], 0), (76, .nop, 0, [5], 0)],
  [(76, .istore 6, 2, [], 0), (78, .aload_n 0, 1, [], 0), (79, .getfield 45, 3, [7, 6], 0), (82, .getfield 197, 3, [5, 1], 0), (85, .bipush (-6), 2, [], (-6)), (87, .if_icmp .ne 7, 3, [6], 0), (90, .iconst 0, 1, [], 0), (91, .goto 10, 3, [7], 0)],
  [(94, .aload_n 0, 1, [], 0), (95, .getfield 45, 3, [7, 6], 0), (98, .getfield 203, 3, [5, 3], 0), (101, .nop, 0, [7], 0)],
  [(101, .istore 7, 2, [], 0), (103, .iload_n 1, 1, [], 0), (104, .istore 8, 2, [], 0), (106, .iconst 0, 1, [], 0), (107, .istore 9, 2, [], 0), (109, .nop, 0, [8], 0)],
  [(109, .iload 9, 2, [], 0), (111, .iload_n 2, 1, [], 0), (112, .if_icmp .ge 83, 3, [11], 0), (115, .bipush 75, 2, [], 75), (117, .iload 8, 2, [], 0), (119, .imul, 1, [], 0), (120, .bipush 74, 2, [], 74), (122, .iadd, 1, [], 0), (123, .ldc 248, 2, [], 65537), (125, .irem, 1, [], 0), (126, .istore 8, 2, [], 0), (128, .aload_n 0, 1, [], 0), (129, .getfield 38, 3, [7, 5], 0), (132, .iconst 0, 1, [], 0), (133, .aload_n 0, 1, [], 0), (134, .getfield 19, 3, [7, 1], 0), (137, .iconst 1, 1, [], 1), (138, .invokevirtual 156, 3, [39, 2, 1, 6], 0), (141, .iload 8, 2, [], 0), (143, .sipush 200, 3, [], 200), (146, .irem, 1, [], 0), (147, .isub, 1, [], 0), (148, .invokestatic 249, 3, [0], 0), (151, .iload 5, 2, [], 0), (153, .iload 6, 2, [], 0), (155, .iload 7, 2, [], 0), (157, .invokevirtual 159, 3, [3, 5, 0, 0], 0), (160, .iload 4, 2, [], 0), (162, .iload_n 3, 1, [], 0), (163, .ifCond .ne 13, 3, [9], 0), (166, .aload_n 0, 1, [], 0), (167, .getfield 38, 3, [7, 5], 0), (170, .invokevirtual 254, 3, [5, 1, 1, 0], 0), (173, .goto 13, 3, [10], 0)],
  [(176, .aload_n 0, 1, [], 0), (177, .getfield 38, 3, [7, 5], 0), (180, .getfield 172, 3, [0, 1], 0), (183, .invokestatic 257, 3, [128, 1, 1], 0), (186, .nop, 0, [10], 0)],
  [(186, .iadd, 1, [], 0), (187, .istore 4, 2, [], 0), (189, .iinc 9 1, 3, [], 1), (192, .goto (-83), 3, [8], 0)],
  [(195, .iinc 5 1, 3, [], 1), (198, .goto (-158), 3, [3], 0)],
  [(201, .iload 4, 2, [], 0), (203, .ireturn, 1, [0], 0)]]
def kB_X7_image : List (List mIns) := [[(0, .iload_n 1, 1, [], 0), (1, .ifCond .lt 8, 3, [1], 0), (4, .iload_n 1, 1, [], 0), (5, .iconst 2, 1, [], 2), (6, .if_icmp .lt 6, 3, [2], 0), (9, .nop, 0, [1], 0)],
  [(9, .bipush (-2), 2, [], (-2)), (11, .ireturn, 1, [0], 0)],
  [(12, .aload_n 0, 1, [], 0), (13, .iload_n 1, 1, [], 0), (14, .invokevirtual 262, 3, [75, 2, 2, 7], 0), (17, .aload_n 0, 1, [], 0), (18, .getfield 19, 3, [7, 1], 0), (21, .invokevirtual 266, 3, [45, 2, 0, 6], 0), (24, .aload_n 0, 1, [], 0), (25, .dup, 1, [], 0), (26, .getfield 29, 3, [7, 4], 0), (29, .iconst 1, 1, [], 1), (30, .iload_n 1, 1, [], 0), (31, .ishl, 1, [], 0), (32, .ior, 1, [], 0), (33, .putfield 29, 3, [7, 4], 0), (36, .iconst 1, 1, [], 1), (37, .ireturn, 1, [0], 0)]]
def kB_X7_restore : List (List mIns) := [[(0, .iload_n 1, 1, [], 0), (1, .ifCond .lt 8, 3, [1], 0), (4, .iload_n 1, 1, [], 0), (5, .iconst 2, 1, [], 2), (6, .if_icmp .lt 6, 3, [2], 0), (9, .nop, 0, [1], 0)],
  [(9, .bipush (-2), 2, [], (-2)), (11, .ireturn, 1, [0], 0)],
  [(12, .aload_n 0, 1, [], 0), (13, .getfield 29, 3, [7, 4], 0), (16, .iload_n 1, 1, [], 0), (17, .invokestatic 268, 3, [85, 2, 1], 0), (20, .ifCond .ne 6, 3, [3], 0), (23, .bipush (-3), 2, [], (-3)), (25, .ireturn, 1, [0], 0)],
  [(26, .aload_n 0, 1, [], 0), (27, .getfield 19, 3, [7, 1], 0), (30, .aload_n 0, 1, [], 0), (31, .iload_n 1, 1, [], 0), (32, .invokevirtual 262, 3, [75, 2, 2, 7], 0), (35, .invokevirtual 266, 3, [45, 2, 0, 6], 0), (38, .iconst 1, 1, [], 1), (39, .ireturn, 1, [0], 0)]]
def kB_X7_told : List (List mIns) := [[(0, .iload_n 1, 1, [], 0), (1, .bipush 10, 2, [], 10), (3, .if_icmp .lt 21, 3, [1], 0), (6, .iload_n 1, 1, [], 0), (7, .bipush 14, 2, [], 14), (9, .if_icmp .gt 15, 3, [1], 0), (12, .aload_n 0, 1, [], 0), (13, .getfield 19, 3, [7, 1], 0), (16, .iload_n 1, 1, [], 0), (17, .bipush 10, 2, [], 10), (19, .isub, 1, [], 0), (20, .invokevirtual 156, 3, [39, 2, 1, 6], 0), (23, .ireturn, 1, [0], 0)],
  [(24, .iload_n 1, 1, [], 0), (25, .bipush 20, 2, [], 20), (27, .if_icmp .lt 41, 3, [4], 0), (30, .iload_n 1, 1, [], 0), (31, .bipush 69, 2, [], 69), (33, .if_icmp .gt 35, 3, [4], 0), (36, .iload_n 1, 1, [], 0), (37, .bipush 10, 2, [], 10), (39, .irem, 1, [], 0), (40, .istore_n 2, 1, [], 0), (41, .iload_n 2, 1, [], 0), (42, .invokestatic 90, 3, [71, 1, 1], 0), (45, .ifCond .eq 8, 3, [2], 0), (48, .bipush (-2), 2, [], (-2)), (50, .goto 17, 3, [3], 0)],
  [(53, .aload_n 0, 1, [], 0), (54, .getfield 19, 3, [7, 1], 0), (57, .iload_n 1, 1, [], 0), (58, .bipush 10, 2, [], 10), (60, .idiv, 1, [], 0), (61, .iconst 2, 1, [], 2), (62, .isub, 1, [], 0), (63, .iload_n 2, 1, [], 0), (64, .invokevirtual 272, 3, [40, 3, 1, 6], 0), (67, .nop, 0, [3], 0)],
  [(67, .ireturn, 1, [0], 0)],
  [(68, .iload_n 1, 1, [], 0), (69, .tableswitch 72 0 3 #[31, 39, 50, 61], 31, [9, 5, 6, 7, 8], 0)],
  [(100, .aload_n 0, 1, [], 0), (101, .getfield 10, 3, [7, 0], 0), (104, .getfield 103, 3, [4, 0], 0), (107, .ireturn, 1, [0], 0)],
  [(108, .aload_n 0, 1, [], 0), (109, .getfield 19, 3, [7, 1], 0), (112, .getfield 63, 3, [6, 2], 0), (115, .getfield 131, 3, [2, 0], 0), (118, .ireturn, 1, [0], 0)],
  [(119, .aload_n 0, 1, [], 0), (120, .getfield 19, 3, [7, 1], 0), (123, .getfield 63, 3, [6, 2], 0), (126, .getfield 275, 3, [2, 1], 0), (129, .ireturn, 1, [0], 0)],
  [(130, .aload_n 0, 1, [], 0), (131, .getfield 19, 3, [7, 1], 0), (134, .getfield 124, 3, [6, 3], 0), (137, .getfield 241, 3, [1, 0], 0), (140, .ireturn, 1, [0], 0)],
  [(141, .bipush (-2), 2, [], (-2)), (143, .ireturn, 1, [0], 0)]]
def kB_X7_isNoHour : List (List mIns) := [[(0, .iload_n 0, 1, [], 0), (1, .ifCond .lt 9, 3, [1], 0), (4, .iload_n 0, 1, [], 0), (5, .bipush 6, 2, [], 6), (7, .if_icmp .lt 7, 3, [2], 0), (10, .nop, 0, [1], 0)],
  [(10, .iconst 1, 1, [], 1), (11, .goto 4, 3, [3], 0)],
  [(14, .iconst 0, 1, [], 0), (15, .nop, 0, [3], 0)],
  [(15, .ireturn, 1, [1], 0)]]
def kB_X7_isNoKind : List (List mIns) := [[(0, .iload_n 0, 1, [], 0), (1, .ifCond .lt 9, 3, [1], 0), (4, .iload_n 0, 1, [], 0), (5, .bipush 6, 2, [], 6), (7, .if_icmp .lt 7, 3, [2], 0), (10, .nop, 0, [1], 0)],
  [(10, .iconst 1, 1, [], 1), (11, .goto 4, 3, [3], 0)],
  [(14, .iconst 0, 1, [], 0), (15, .nop, 0, [3], 0)],
  [(15, .ireturn, 1, [1], 0)]]
def kB_X7_isNoHouse : List (List mIns) := [[(0, .iload_n 1, 1, [], 0), (1, .ifCond .lt 17, 3, [1], 0), (4, .iload_n 1, 1, [], 0), (5, .aload_n 0, 1, [], 0), (6, .getfield 19, 3, [7, 1], 0), (9, .getfield 63, 3, [6, 2], 0), (12, .getfield 131, 3, [2, 0], 0), (15, .if_icmp .lt 7, 3, [2], 0), (18, .nop, 0, [1], 0)],
  [(18, .iconst 1, 1, [], 1), (19, .goto 4, 3, [3], 0)],
  [(22, .iconst 0, 1, [], 0), (23, .nop, 0, [3], 0)],
  [(23, .ireturn, 1, [1], 0)]]
def kB_X7_areNoBrooks : List (List mIns) := [[(0, .iload_n 1, 1, [], 0), (1, .ifCond .lt 17, 3, [1], 0), (4, .iload_n 1, 1, [], 0), (5, .aload_n 0, 1, [], 0), (6, .getfield 19, 3, [7, 1], 0), (9, .getfield 63, 3, [6, 2], 0), (12, .invokevirtual 278, 3, [15, 1, 1, 2], 0), (15, .if_icmp .lt 7, 3, [2], 0), (18, .nop, 0, [1], 0)],
  [(18, .iconst 1, 1, [], 1), (19, .goto 4, 3, [3], 0)],
  [(22, .iconst 0, 1, [], 0), (23, .nop, 0, [3], 0)],
  [(23, .ireturn, 1, [1], 0)]]
def kB_X7_areNoDraws : List (List mIns) := [[(0, .iload_n 1, 1, [], 0), (1, .ifCond .lt 17, 3, [1], 0), (4, .iload_n 1, 1, [], 0), (5, .aload_n 0, 1, [], 0), (6, .getfield 19, 3, [7, 1], 0), (9, .getfield 63, 3, [6, 2], 0), (12, .invokevirtual 281, 3, [14, 1, 1, 2], 0), (15, .if_icmp .lt 7, 3, [2], 0), (18, .nop, 0, [1], 0)],
  [(18, .iconst 1, 1, [], 1), (19, .goto 4, 3, [3], 0)],
  [(22, .iconst 0, 1, [], 0), (23, .nop, 0, [3], 0)],
  [(23, .ireturn, 1, [1], 0)]]
def kB_X7_imageOf : List (List mIns) := [[(0, .iload_n 1, 1, [], 0), (1, .ifCond .ne 10, 3, [1], 0), (4, .aload_n 0, 1, [], 0), (5, .getfield 23, 3, [7, 2], 0), (8, .goto 7, 3, [2], 0)],
  [(11, .aload_n 0, 1, [], 0), (12, .getfield 26, 3, [7, 3], 0), (15, .nop, 0, [2], 0)],
  [(15, .areturn, 1, [], 0)]]
def kB_X7_planAsItIs : List (List mIns) := [[(0, .aload_n 0, 1, [], 0), (1, .getfield 45, 3, [7, 6], 0), (4, .invokevirtual 214, 3, [33, 1, 0, 5], 0), (7, .aload_n 0, 1, [], 0), (8, .getfield 45, 3, [7, 6], 0), (11, .getfield 217, 3, [5, 0], 0), (14, .aload_n 0, 1, [], 0), (15, .getfield 19, 3, [7, 1], 0), (18, .getfield 63, 3, [6, 2], 0), (21, .invokevirtual 120, 3, [21, 2, 0, 2], 0), (24, .aload_n 0, 1, [], 0), (25, .getfield 45, 3, [7, 6], 0), (28, .iload_n 1, 1, [], 0), (29, .invokevirtual 224, 3, [34, 2, 1, 5], 0), (32, .pop, 1, [], 0), (33, .return_, 1, [], 0)]]
def kB_X7_searchMoss : List (List mIns) := [[(0, .bipush (-6), 2, [], (-6)), (2, .istore_n 3, 1, [], 0), (3, .aload_n 0, 1, [], 0), (4, .getfield 19, 3, [7, 1], 0), (7, .getfield 63, 3, [6, 2], 0), (10, .invokevirtual 284, 3, [16, 1, 1, 2], 0), (13, .istore 4, 2, [], 0), (15, .iload_n 2, 1, [], 0), (16, .iload 4, 2, [], 0), (18, .invokestatic 257, 3, [128, 1, 1], 0), (21, .invokestatic 287, 3, [1], 0), (24, .istore 5, 2, [], 0), (26, .aload_n 0, 1, [], 0), (27, .getfield 45, 3, [7, 6], 0), (30, .invokevirtual 214, 3, [33, 1, 0, 5], 0), (33, .iconst 0, 1, [], 0), (34, .istore 6, 2, [], 0), (36, .nop, 0, [1], 0)],
  [(36, .iload 6, 2, [], 0), (38, .iload 5, 2, [], 0), (40, .if_icmp .gt 96, 3, [5], 0), (43, .iconst 0, 1, [], 0), (44, .istore 7, 2, [], 0), (46, .nop, 0, [2], 0)],
  [(46, .iload 7, 2, [], 0), (48, .aload_n 0, 1, [], 0), (49, .getfield 19, 3, [7, 1], 0), (52, .getfield 63, 3, [6, 2], 0), (55, .invokevirtual 281, 3, [14, 1, 1, 2], 0), (58, .if_icmp .ge 72, 3, [4], 0), (61, .iload 7, 2, [], 0), (63, .iload 4, 2, [], 0), (65, .iconst (-1), 1, [], (-1)), (66, .ixor, 1, [], 0), (67, .iand, 1, [], 0), (68, .ifCond .ne 56, 3, [3], 0), (71, .iload 7, 2, [], 0), (73, .invokestatic 257, 3, [128, 1, 1], 0), (76, .iload 6, 2, [], 0), (78, .if_icmp .ne 46, 3, [3], 0), (81, .aload_n 0, 1, [], 0), (82, .getfield 45, 3, [7, 6], 0), (85, .getfield 217, 3, [5, 0], 0), (88, .aload_n 0, 1, [], 0), (89, .getfield 19, 3, [7, 1], 0), (92, .getfield 63, 3, [6, 2], 0), (95, .invokevirtual 120, 3, [21, 2, 0, 2], 0), (98, .aload_n 0, 1, [], 0), (99, .getfield 45, 3, [7, 6], 0), (102, .getfield 217, 3, [5, 0], 0), (105, .iload 7, 2, [], 0), (107, .invokevirtual 290, 3, [20, 2, 0, 2], 0), (110, .aload_n 0, 1, [], 0), (111, .getfield 45, 3, [7, 6], 0), (114, .iload_n 1, 1, [], 0), (115, .invokevirtual 224, 3, [34, 2, 1, 5], 0), (118, .ifCond .eq 6, 3, [3], 0), (121, .iload 7, 2, [], 0), (123, .istore_n 3, 1, [], 0), (124, .nop, 0, [3], 0)],
  [(124, .iinc 7 1, 3, [], 1), (127, .goto (-81), 3, [2], 0)],
  [(130, .iinc 6 1, 3, [], 1), (133, .goto (-97), 3, [1], 0)],
  [(136, .iload_n 3, 1, [], 0), (137, .ireturn, 1, [0], 0)]]
def kB_X7_searchPlace : List (List mIns) := [[(0, .bipush (-6), 2, [], (-6)), (2, .istore_n 3, 1, [], 0), (3, .aload_n 0, 1, [], 0), (4, .getfield 45, 3, [7, 6], 0), (7, .invokevirtual 214, 3, [33, 1, 0, 5], 0), (10, .iconst 0, 1, [], 0), (11, .istore 4, 2, [], 0), (13, .nop, 0, [1], 0)],
  [(13, .iload 4, 2, [], 0), (15, .aload_n 0, 1, [], 0), (16, .getfield 19, 3, [7, 1], 0), (19, .getfield 63, 3, [6, 2], 0), (22, .getfield 131, 3, [2, 0], 0), (25, .if_icmp .gt 53, 3, [3], 0), (28, .aload_n 0, 1, [], 0), (29, .getfield 45, 3, [7, 6], 0), (32, .getfield 217, 3, [5, 0], 0), (35, .aload_n 0, 1, [], 0), (36, .getfield 19, 3, [7, 1], 0), (39, .getfield 63, 3, [6, 2], 0), (42, .invokevirtual 120, 3, [21, 2, 0, 2], 0), (45, .aload_n 0, 1, [], 0), (46, .getfield 45, 3, [7, 6], 0), (49, .getfield 217, 3, [5, 0], 0), (52, .iload_n 2, 1, [], 0), (53, .iload 4, 2, [], 0), (55, .invokevirtual 220, 3, [19, 3, 0, 2], 0), (58, .aload_n 0, 1, [], 0), (59, .getfield 45, 3, [7, 6], 0), (62, .iload_n 1, 1, [], 0), (63, .invokevirtual 224, 3, [34, 2, 1, 5], 0), (66, .ifCond .eq 6, 3, [2], 0), (69, .iload 4, 2, [], 0), (71, .istore_n 3, 1, [], 0), (72, .nop, 0, [2], 0)],
  [(72, .iinc 4 1, 3, [], 1), (75, .goto (-62), 3, [1], 0)],
  [(78, .iload_n 3, 1, [], 0), (79, .ireturn, 1, [0], 0)]]
def kB_X7_gatherFitting : List (List mIns) := [[(0, .iconst 0, 1, [], 0), (1, .istore_n 3, 1, [], 0), (2, .iconst 0, 1, [], 0), (3, .istore 4, 2, [], 0), (5, .nop, 0, [1], 0)],
  [(5, .iload 4, 2, [], 0), (7, .aload_n 0, 1, [], 0), (8, .getfield 19, 3, [7, 1], 0), (11, .getfield 63, 3, [6, 2], 0), (14, .invokevirtual 278, 3, [15, 1, 1, 2], 0), (17, .if_icmp .ge 105, 3, [5], 0), (20, .aload_n 0, 1, [], 0), (21, .getfield 38, 3, [7, 5], 0), (24, .aload_n 0, 1, [], 0), (25, .getfield 19, 3, [7, 1], 0), (28, .iconst 1, 1, [], 1), (29, .invokevirtual 156, 3, [39, 2, 1, 6], 0), (32, .iload_n 1, 1, [], 0), (33, .iload 4, 2, [], 0), (35, .iload_n 2, 1, [], 0), (36, .invokevirtual 159, 3, [3, 5, 0, 0], 0), (39, .aload_n 0, 1, [], 0), (40, .getfield 19, 3, [7, 1], 0), (43, .getfield 124, 3, [6, 3], 0), (46, .aload_n 0, 1, [], 0), (47, .getfield 38, 3, [7, 5], 0), (50, .invokevirtual 293, 3, [8, 2, 1, 1], 0), (53, .ifCond .eq 63, 3, [4], 0), (56, .aload_n 0, 1, [], 0), (57, .getfield 56, 3, [7, 8], 0), (60, .iload_n 3, 1, [], 0), (61, .iload 4, 2, [], 0), (63, .invokestatic 297, 3, [82, 3, 0], 0), (66, .iconst 0, 1, [], 0), (67, .istore 5, 2, [], 0), (69, .nop, 0, [2], 0)],
  [(69, .iload 5, 2, [], 0), (71, .aload_n 0, 1, [], 0), (72, .getfield 19, 3, [7, 1], 0), (75, .getfield 63, 3, [6, 2], 0), (78, .getfield 131, 3, [2, 0], 0), (81, .if_icmp .ge 32, 3, [3], 0), (84, .aload_n 0, 1, [], 0), (85, .getfield 60, 3, [7, 9], 0), (88, .iload_n 3, 1, [], 0), (89, .bipush 8, 2, [], 8), (91, .imul, 1, [], 0), (92, .iload 5, 2, [], 0), (94, .iadd, 1, [], 0), (95, .aload_n 0, 1, [], 0), (96, .getfield 38, 3, [7, 5], 0), (99, .iload 5, 2, [], 0), (101, .invokevirtual 301, 3, [2, 2, 1, 0], 0), (104, .invokestatic 297, 3, [82, 3, 0], 0), (107, .iinc 5 1, 3, [], 1), (110, .goto (-41), 3, [2], 0)],
  [(113, .iinc 3 1, 3, [], 1), (116, .nop, 0, [4], 0)],
  [(116, .iinc 4 1, 3, [], 1), (119, .goto (-114), 3, [1], 0)],
  [(122, .iload_n 3, 1, [], 0), (123, .ireturn, 1, [0], 0)]]
def kB_X7_mostAlike : List (List mIns) := [[(0, .iconst 0, 1, [], 0), (1, .istore_n 3, 1, [], 0), (2, .iconst 0, 1, [], 0), (3, .istore 4, 2, [], 0), (5, .nop, 0, [1], 0)],
  [(5, .iload 4, 2, [], 0), (7, .iload_n 2, 1, [], 0), (8, .if_icmp .ge 72, 3, [5], 0), (11, .aload_n 0, 1, [], 0), (12, .getfield 60, 3, [7, 9], 0), (15, .iload 4, 2, [], 0), (17, .bipush 8, 2, [], 8), (19, .imul, 1, [], 0), (20, .iload_n 1, 1, [], 0), (21, .iadd, 1, [], 0), (22, .invokestatic 76, 3, [81, 2, 1], 0), (25, .istore 5, 2, [], 0), (27, .iconst 0, 1, [], 0), (28, .istore 6, 2, [], 0), (30, .iconst 0, 1, [], 0), (31, .istore 7, 2, [], 0), (33, .nop, 0, [2], 0)],
  [(33, .iload 7, 2, [], 0), (35, .iload_n 2, 1, [], 0), (36, .if_icmp .ge 31, 3, [4], 0), (39, .aload_n 0, 1, [], 0), (40, .getfield 60, 3, [7, 9], 0), (43, .iload 7, 2, [], 0), (45, .bipush 8, 2, [], 8), (47, .imul, 1, [], 0), (48, .iload_n 1, 1, [], 0), (49, .iadd, 1, [], 0), (50, .invokestatic 76, 3, [81, 2, 1], 0), (53, .iload 5, 2, [], 0), (55, .if_icmp .ne 6, 3, [3], 0), (58, .iinc 6 1, 3, [], 1), (61, .nop, 0, [3], 0)],
  [(61, .iinc 7 1, 3, [], 1), (64, .goto (-31), 3, [2], 0)],
  [(67, .iload_n 3, 1, [], 0), (68, .iload 6, 2, [], 0), (70, .invokestatic 249, 3, [0], 0), (73, .istore_n 3, 1, [], 0), (74, .iinc 4 1, 3, [], 1), (77, .goto (-72), 3, [1], 0)],
  [(80, .iload_n 3, 1, [], 0), (81, .ireturn, 1, [0], 0)]]
def kB_X7_cell : List (List mIns) := [[(0, .iload_n 1, 1, [], 0), (1, .ifCond .lt 15, 3, [1], 0), (4, .iload_n 1, 1, [], 0), (5, .aload_n 0, 1, [], 0), (6, .arraylength, 1, [], 0), (7, .if_icmp .ge 9, 3, [1], 0), (10, .aload_n 0, 1, [], 0), (11, .iload_n 1, 1, [], 0), (12, .iaload, 1, [], 0), (13, .goto 4, 3, [2], 0)],
  [(16, .iconst 0, 1, [], 0), (17, .nop, 0, [2], 0)],
  [(17, .ireturn, 1, [0], 0)]]
def kB_X7_setCell : List (List mIns) := [[(0, .iload_n 1, 1, [], 0), (1, .ifCond .lt 13, 3, [1], 0), (4, .iload_n 1, 1, [], 0), (5, .aload_n 0, 1, [], 0), (6, .arraylength, 1, [], 0), (7, .if_icmp .ge 7, 3, [1], 0), (10, .aload_n 0, 1, [], 0), (11, .iload_n 1, 1, [], 0), (12, .iload_n 2, 1, [], 0), (13, .iastore, 1, [], 0), (14, .nop, 0, [1], 0)],
  [(14, .return_, 1, [], 0)]]
def kB_X7_exchange : List (List mIns) := [[(0, .aload_n 0, 1, [], 0), (1, .iload_n 1, 1, [], 0), (2, .invokestatic 76, 3, [81, 2, 1], 0), (5, .istore_n 3, 1, [], 0), (6, .aload_n 0, 1, [], 0), (7, .iload_n 1, 1, [], 0), (8, .iload_n 2, 1, [], 0), (9, .invokestatic 297, 3, [82, 3, 0], 0), (12, .iload_n 3, 1, [], 0), (13, .ireturn, 1, [0], 0)]]
def kB_X7_copyRow : List (List mIns) := [[(0, .iconst 0, 1, [], 0), (1, .istore_n 2, 1, [], 0), (2, .nop, 0, [1], 0)],
  [(2, .iload_n 2, 1, [], 0), (3, .aload_n 0, 1, [], 0), (4, .arraylength, 1, [], 0), (5, .if_icmp .ge 21, 3, [2], 0), (8, .iload_n 2, 1, [], 0), (9, .aload_n 1, 1, [], 0), (10, .arraylength, 1, [], 0), (11, .if_icmp .ge 15, 3, [2], 0), (14, .aload_n 1, 1, [], 0), (15, .iload_n 2, 1, [], 0), (16, .aload_n 0, 1, [], 0), (17, .iload_n 2, 1, [], 0), (18, .iaload, 1, [], 0), (19, .iastore, 1, [], 0), (20, .iinc 2 1, 3, [], 1), (23, .goto (-21), 3, [1], 0)],
  [(26, .return_, 1, [], 0)]]
def kB_X7_hasBit : List (List mIns) := [[(0, .iload_n 1, 1, [], 0), (1, .ifCond .lt 21, 3, [1], 0), (4, .iload_n 1, 1, [], 0), (5, .bipush 32, 2, [], 32), (7, .if_icmp .ge 15, 3, [1], 0), (10, .iload_n 0, 1, [], 0), (11, .iload_n 1, 1, [], 0), (12, .ishr, 1, [], 0), (13, .iconst 1, 1, [], 1), (14, .iand, 1, [], 0), (15, .ifCond .eq 7, 3, [1], 0), (18, .iconst 1, 1, [], 1), (19, .goto 4, 3, [2], 0)],
  [(22, .iconst 0, 1, [], 0), (23, .nop, 0, [2], 0)],
  [(23, .ireturn, 1, [1], 0)]]
def kB_X7_lowestBit : List (List mIns) := [[(0, .iconst 0, 1, [], 0), (1, .istore_n 1, 1, [], 0), (2, .nop, 0, [1], 0)],
  [(2, .iload_n 1, 1, [], 0), (3, .bipush 32, 2, [], 32), (5, .if_icmp .ge 19, 3, [3], 0), (8, .iload_n 0, 1, [], 0), (9, .iload_n 1, 1, [], 0), (10, .invokestatic 268, 3, [85, 2, 1], 0), (13, .ifCond .eq 5, 3, [2], 0), (16, .iload_n 1, 1, [], 0), (17, .ireturn, 1, [0], 0)],
  [(18, .iinc 1 1, 3, [], 1), (21, .goto (-19), 3, [1], 0)],
  [(24, .bipush (-6), 2, [], (-6)), (26, .ireturn, 1, [0], 0)]]
def kB_X8_layKind : List (List mIns) := [[(0, .aload_n 0, 1, [], 0), (1, .getfield 13, 3, [8, 1], 0), (4, .iload_n 1, 1, [], 0), (5, .iload_n 2, 1, [], 0), (6, .iastore, 1, [], 0), (7, .aload_n 0, 1, [], 0), (8, .getfield 13, 3, [8, 1], 0), (11, .bipush 6, 2, [], 6), (13, .iload_n 1, 1, [], 0), (14, .iadd, 1, [], 0), (15, .iload_n 3, 1, [], 0), (16, .iastore, 1, [], 0), (17, .aload_n 0, 1, [], 0), (18, .getfield 13, 3, [8, 1], 0), (21, .bipush 12, 2, [], 12), (23, .iload_n 1, 1, [], 0), (24, .iadd, 1, [], 0), (25, .iload 4, 2, [], 0), (27, .iastore, 1, [], 0), (28, .aload_n 0, 1, [], 0), (29, .getfield 13, 3, [8, 1], 0), (32, .bipush 18, 2, [], 18), (34, .iload_n 1, 1, [], 0), (35, .iadd, 1, [], 0), (36, .iload 5, 2, [], 0), (38, .iastore, 1, [], 0), (39, .aload_n 0, 1, [], 0), (40, .getfield 13, 3, [8, 1], 0), (43, .bipush 24, 2, [], 24), (45, .iload_n 1, 1, [], 0), (46, .iadd, 1, [], 0), (47, .bipush 63, 2, [], 63), (49, .iastore, 1, [], 0), (50, .return_, 1, [], 0)]]
def kB_X8_in : List (List mIns) := [[(0, .iload_n 0, 1, [], 0), (1, .iload_n 1, 1, [], 0), (2, .if_icmp .lt 12, 3, [1], 0), (5, .iload_n 0, 1, [], 0), (6, .iload_n 2, 1, [], 0), (7, .if_icmp .gt 7, 3, [1], 0), (10, .iconst 1, 1, [], 1), (11, .goto 4, 3, [2], 0)],
  [(14, .iconst 0, 1, [], 0), (15, .nop, 0, [2], 0)],
  [(15, .ireturn, 1, [1], 0)]]
def kB_X8_has : List (List mIns) := [[(0, .iload_n 0, 1, [], 0), (1, .iload_n 1, 1, [], 0), (2, .ishr, 1, [], 0), (3, .iconst 1, 1, [], 1), (4, .iand, 1, [], 0), (5, .iconst 1, 1, [], 1), (6, .if_icmp .ne 7, 3, [1], 0), (9, .iconst 1, 1, [], 1), (10, .goto 4, 3, [2], 0)],
  [(13, .iconst 0, 1, [], 0), (14, .nop, 0, [2], 0)],
  [(14, .ireturn, 1, [1], 0)]]
def kB_X8_bits : List (List mIns) := [[(0, .iconst 0, 1, [], 0), (1, .istore_n 1, 1, [], 0), (2, .iconst 0, 1, [], 0), (3, .istore_n 2, 1, [], 0), (4, .nop, 0, [1], 0)],
  [(4, .iload_n 2, 1, [], 0), (5, .bipush 8, 2, [], 8), (7, .if_icmp .ge 17, 3, [2], 0), (10, .iload_n 1, 1, [], 0), (11, .iload_n 0, 1, [], 0), (12, .iload_n 2, 1, [], 0), (13, .ishr, 1, [], 0), (14, .iconst 1, 1, [], 1), (15, .iand, 1, [], 0), (16, .iadd, 1, [], 0), (17, .istore_n 1, 1, [], 0), (18, .iinc 2 1, 3, [], 1), (21, .goto (-17), 3, [1], 0)],
  [(24, .iload_n 1, 1, [], 0), (25, .ireturn, 1, [0], 0)]]
def kB_X8_spring : List (List mIns) := [[(0, .iload_n 1, 1, [], 0), (1, .iconst 0, 1, [], 0), (2, .iconst 4, 1, [], 4), (3, .invokestatic 58, 3, [88, 3, 1], 0), (6, .ifCond .ne 5, 3, [1], 0), (9, .iconst (-1), 1, [], (-1)), (10, .ireturn, 1, [0], 0)],
  [(11, .iload_n 1, 1, [], 0), (12, .ifCond .eq 8, 3, [2], 0), (15, .iload_n 1, 1, [], 0), (16, .iconst 3, 1, [], 3), (17, .if_icmp .ne 7, 3, [3], 0), (20, .nop, 0, [2], 0)],
  [(20, .iconst 1, 1, [], 1), (21, .goto 4, 3, [4], 0)],
  [(24, .iconst 0, 1, [], 0), (25, .nop, 0, [4], 0)],
  [(25, .istore_n 3, 1, [], 0), (26, .iload_n 1, 1, [], 0), (27, .ifCond .ne 8, 3, [5], 0), (30, .bipush 50, 2, [], 50), (32, .goto 27, 3, [8], 0)],
  [(35, .iload_n 1, 1, [], 0), (36, .iconst 1, 1, [], 1), (37, .if_icmp .ne 9, 3, [6], 0), (40, .sipush 1000, 3, [], 1000), (43, .goto 16, 3, [8], 0)],
  [(46, .iload_n 1, 1, [], 0), (47, .iconst 3, 1, [], 3), (48, .if_icmp .ne 8, 3, [7], 0), (51, .bipush 30, 2, [], 30), (53, .goto 6, 3, [8], 0)],
  [(56, .sipush 300, 3, [], 300), (59, .nop, 0, [8], 0)],
  [(59, .istore 4, 2, [], 0), (61, .iload_n 2, 1, [], 0), (62, .iload_n 3, 1, [], 0), (63, .iload 4, 2, [], 0), (65, .invokestatic 58, 3, [88, 3, 1], 0), (68, .ifCond .ne 6, 3, [9], 0), (71, .bipush (-2), 2, [], (-2)), (73, .ireturn, 1, [0], 0)],
  [(74, .aload_n 0, 1, [], 0), (75, .getfield 7, 3, [8, 0], 0), (78, .iload_n 1, 1, [], 0), (79, .iaload, 1, [], 0), (80, .istore 5, 2, [], 0), (82, .aload_n 0, 1, [], 0), (83, .getfield 7, 3, [8, 0], 0), (86, .iload_n 1, 1, [], 0), (87, .iload_n 2, 1, [], 0), (88, .iastore, 1, [], 0), (89, .iload 5, 2, [], 0), (91, .ireturn, 1, [0], 0)]]
def kB_X8_mostOf : List (List mIns) := [[(0, .iload_n 0, 1, [], 0), (1, .iconst 2, 1, [], 2), (2, .if_icmp .ge 9, 3, [1], 0), (5, .sipush 1000, 3, [], 1000), (8, .goto 26, 3, [4], 0)],
  [(11, .iload_n 0, 1, [], 0), (12, .iconst 2, 1, [], 2), (13, .if_icmp .ne 9, 3, [2], 0), (16, .sipush 9999, 3, [], 9999), (19, .goto 15, 3, [4], 0)],
  [(22, .iload_n 0, 1, [], 0), (23, .iconst 3, 1, [], 3), (24, .if_icmp .ne 8, 3, [3], 0), (27, .bipush 99, 2, [], 99), (29, .goto 5, 3, [4], 0)],
  [(32, .bipush 63, 2, [], 63), (34, .nop, 0, [4], 0)],
  [(34, .ireturn, 1, [0], 0)]]
def kB_X8_kind : List (List mIns) := [[(0, .iload_n 1, 1, [], 0), (1, .iconst 0, 1, [], 0), (2, .iconst 5, 1, [], 5), (3, .invokestatic 58, 3, [88, 3, 1], 0), (6, .ifCond .ne 5, 3, [1], 0), (9, .iconst (-1), 1, [], (-1)), (10, .ireturn, 1, [0], 0)],
  [(11, .iload_n 2, 1, [], 0), (12, .iconst 0, 1, [], 0), (13, .iconst 4, 1, [], 4), (14, .invokestatic 58, 3, [88, 3, 1], 0), (17, .ifCond .eq 15, 3, [2], 0), (20, .iload_n 3, 1, [], 0), (21, .iconst 0, 1, [], 0), (22, .iload_n 2, 1, [], 0), (23, .invokestatic 62, 3, [92, 1, 1], 0), (26, .invokestatic 58, 3, [88, 3, 1], 0), (29, .ifCond .ne 6, 3, [3], 0), (32, .nop, 0, [2], 0)],
  [(32, .bipush (-2), 2, [], (-2)), (34, .ireturn, 1, [0], 0)],
  [(35, .aload_n 0, 1, [], 0), (36, .getfield 13, 3, [8, 1], 0), (39, .bipush 6, 2, [], 6), (41, .iload_n 2, 1, [], 0), (42, .imul, 1, [], 0), (43, .iload_n 1, 1, [], 0), (44, .iadd, 1, [], 0), (45, .iaload, 1, [], 0), (46, .istore 4, 2, [], 0), (48, .aload_n 0, 1, [], 0), (49, .getfield 13, 3, [8, 1], 0), (52, .bipush 6, 2, [], 6), (54, .iload_n 2, 1, [], 0), (55, .imul, 1, [], 0), (56, .iload_n 1, 1, [], 0), (57, .iadd, 1, [], 0), (58, .iload_n 3, 1, [], 0), (59, .iastore, 1, [], 0), (60, .iload 4, 2, [], 0), (62, .ireturn, 1, [0], 0)]]
def kB_X8_say : List (List mIns) := [[(0, .iload_n 1, 1, [], 0), (1, .bipush 33, 2, [], 33), (3, .bipush 126, 2, [], 126), (5, .invokestatic 58, 3, [88, 3, 1], 0), (8, .ifCond .ne 6, 3, [1], 0), (11, .bipush (-2), 2, [], (-2)), (13, .ireturn, 1, [0], 0)],
  [(14, .aload_n 0, 1, [], 0), (15, .getfield 66, 3, [8, 2], 0), (18, .bipush 48, 2, [], 48), (20, .if_icmp .ne 6, 3, [2], 0), (23, .bipush (-4), 2, [], (-4)), (25, .ireturn, 1, [0], 0)],
  [(26, .aload_n 0, 1, [], 0), (27, .getfield 16, 3, [8, 3], 0), (30, .aload_n 0, 1, [], 0), (31, .getfield 66, 3, [8, 2], 0), (34, .iload_n 1, 1, [], 0), (35, .iastore, 1, [], 0), (36, .aload_n 0, 1, [], 0), (37, .dup, 1, [], 0), (38, .getfield 66, 3, [8, 2], 0), (41, .iconst 1, 1, [], 1), (42, .iadd, 1, [], 0), (43, .putfield 66, 3, [8, 2], 0), (46, .aload_n 0, 1, [], 0), (47, .getfield 66, 3, [8, 2], 0), (50, .ireturn, 1, [0], 0)]]
def kB_X8_wipe : List (List mIns) := [[(0, .aload_n 0, 1, [], 0), (1, .getfield 66, 3, [8, 2], 0), (4, .istore_n 1, 1, [], 0), (5, .aload_n 0, 1, [], 0), (6, .iconst 0, 1, [], 0), (7, .putfield 66, 3, [8, 2], 0), (10, .iload_n 1, 1, [], 0), (11, .ireturn, 1, [0], 0)]]
def kB_X8_kindOf : List (List mIns) := [[(0, .iload_n 0, 1, [], 0), (1, .tableswitch 95 98 114 #[83, 89, 85, 95, 95, 95, 91, 95, 95, 95, 93, 95, 95, 95, 95, 95, 87], 83, [7, 1, 4, 2, 7, 7, 7, 5, 7, 7, 7, 6, 7, 7, 7, 7, 7, 3], 0)],
  [(84, .iconst 0, 1, [], 0), (85, .ireturn, 1, [0], 0)],
  [(86, .iconst 1, 1, [], 1), (87, .ireturn, 1, [0], 0)],
  [(88, .iconst 2, 1, [], 2), (89, .ireturn, 1, [0], 0)],
  [(90, .iconst 3, 1, [], 3), (91, .ireturn, 1, [0], 0)],
  [(92, .iconst 4, 1, [], 4), (93, .ireturn, 1, [0], 0)],
  [(94, .iconst 5, 1, [], 5), (95, .ireturn, 1, [0], 0)],
  [(96, .bipush (-6), 2, [], (-6)), (98, .ireturn, 1, [0], 0)]]
def kB_X8_laneFault : List (List mIns) := [[(0, .iconst 0, 1, [], 0), (1, .istore_n 1, 1, [], 0), (2, .iconst 0, 1, [], 0), (3, .istore_n 2, 1, [], 0), (4, .iconst 0, 1, [], 0), (5, .istore_n 3, 1, [], 0), (6, .iconst 0, 1, [], 0), (7, .istore 4, 2, [], 0), (9, .nop, 0, [1], 0)],
  [(9, .iload 4, 2, [], 0), (11, .aload_n 0, 1, [], 0), (12, .getfield 66, 3, [8, 2], 0), (15, .if_icmp .ge 150, 3, [17], 0), (18, .aload_n 0, 1, [], 0), (19, .getfield 16, 3, [8, 3], 0), (22, .iload 4, 2, [], 0), (24, .iaload, 1, [], 0), (25, .istore 5, 2, [], 0), (27, .iload 5, 2, [], 0), (29, .bipush 49, 2, [], 49), (31, .bipush 57, 2, [], 57), (33, .invokestatic 58, 3, [88, 3, 1], 0), (36, .ifCond .eq 11, 3, [2], 0), (39, .iload_n 3, 1, [], 0), (40, .ifCond .ne 7, 3, [2], 0), (43, .iconst 1, 1, [], 1), (44, .goto 4, 3, [3], 0)],
  [(47, .iconst 0, 1, [], 0), (48, .nop, 0, [3], 0)],
  [(48, .istore 6, 2, [], 0), (50, .iload 5, 2, [], 0), (52, .bipush 42, 2, [], 42), (54, .if_icmp .ne 17, 3, [4], 0), (57, .iload_n 3, 1, [], 0), (58, .iconst 2, 1, [], 2), (59, .if_icmp .ge 12, 3, [4], 0), (62, .iload_n 2, 1, [], 0), (63, .iconst 4, 1, [], 4), (64, .if_icmp .ge 7, 3, [4], 0), (67, .iconst 1, 1, [], 1), (68, .goto 4, 3, [5], 0)],
  [(71, .iconst 0, 1, [], 0), (72, .nop, 0, [5], 0)],
  [(72, .istore 7, 2, [], 0), (74, .iload 5, 2, [], 0), (76, .invokestatic 69, 3, [96, 1, 1], 0), (79, .ifCond .lt 7, 3, [6], 0), (82, .iconst 1, 1, [], 1), (83, .goto 4, 3, [7], 0)],
  [(86, .iconst 0, 1, [], 0), (87, .nop, 0, [7], 0)],
  [(87, .istore 8, 2, [], 0), (89, .iload_n 1, 1, [], 0), (90, .bipush 8, 2, [], 8), (92, .if_icmp .eq 18, 3, [8], 0), (95, .iload 6, 2, [], 0), (97, .ifCond .ne 16, 3, [9], 0), (100, .iload 7, 2, [], 0), (102, .ifCond .ne 11, 3, [9], 0), (105, .iload 8, 2, [], 0), (107, .ifCond .ne 6, 3, [9], 0), (110, .nop, 0, [8], 0)],
  [(110, .iload 4, 2, [], 0), (112, .ireturn, 1, [0], 0)],
  [(113, .iload_n 1, 1, [], 0), (114, .iload 8, 2, [], 0), (116, .ifCond .eq 7, 3, [10], 0), (119, .iconst 1, 1, [], 1), (120, .goto 4, 3, [11], 0)],
  [(123, .iconst 0, 1, [], 0), (124, .nop, 0, [11], 0)],
  [(124, .iadd, 1, [], 0), (125, .istore_n 1, 1, [], 0), (126, .iload_n 2, 1, [], 0), (127, .iload 7, 2, [], 0), (129, .ifCond .eq 7, 3, [12], 0), (132, .iconst 1, 1, [], 1), (133, .goto 4, 3, [13], 0)],
  [(136, .iconst 0, 1, [], 0), (137, .nop, 0, [13], 0)],
  [(137, .iadd, 1, [], 0), (138, .istore_n 2, 1, [], 0), (139, .iload 8, 2, [], 0), (141, .ifCond .eq 7, 3, [14], 0), (144, .iconst 0, 1, [], 0), (145, .goto 13, 3, [16], 0)],
  [(148, .iload 6, 2, [], 0), (150, .ifCond .eq 7, 3, [15], 0), (153, .iconst 1, 1, [], 1), (154, .goto 4, 3, [16], 0)],
  [(157, .iconst 2, 1, [], 2), (158, .nop, 0, [16], 0)],
  [(158, .istore_n 3, 1, [], 0), (159, .iinc 4 1, 3, [], 1), (162, .goto (-153), 3, [1], 0)],
  [(165, .iload_n 1, 1, [], 0), (166, .ifCond .eq 7, 3, [18], 0), (169, .iload_n 3, 1, [], 0), (170, .ifCond .le 10, 3, [19], 0), (173, .nop, 0, [18], 0)],
  [(173, .aload_n 0, 1, [], 0), (174, .getfield 66, 3, [8, 2], 0), (177, .goto 5, 3, [20], 0)],
  [(180, .bipush (-6), 2, [], (-6)), (182, .nop, 0, [20], 0)],
  [(182, .ireturn, 1, [0], 0)]]
def kB_X8_dayFault : List (List mIns) := [[(0, .iconst 1, 1, [], 1), (1, .istore_n 1, 1, [], 0), (2, .iconst 0, 1, [], 0), (3, .istore_n 2, 1, [], 0), (4, .iconst 0, 1, [], 0), (5, .istore_n 3, 1, [], 0), (6, .nop, 0, [1], 0)],
  [(6, .iload_n 3, 1, [], 0), (7, .aload_n 0, 1, [], 0), (8, .getfield 66, 3, [8, 2], 0), (11, .if_icmp .ge 123, 3, [10], 0), (14, .aload_n 0, 1, [], 0), (15, .getfield 16, 3, [8, 3], 0), (18, .iload_n 3, 1, [], 0), (19, .iaload, 1, [], 0), (20, .istore 4, 2, [], 0), (22, .iload 4, 2, [], 0), (24, .bipush 47, 2, [], 47), (26, .if_icmp .ne 19, 3, [3], 0), (29, .iload_n 1, 1, [], 0), (30, .bipush 6, 2, [], 6), (32, .if_icmp .ne 5, 3, [2], 0), (35, .iload_n 3, 1, [], 0), (36, .ireturn, 1, [0], 0)],
  [(37, .iinc 1 1, 3, [], 1), (40, .iconst 0, 1, [], 0), (41, .istore_n 2, 1, [], 0), (42, .goto 86, 3, [9], 0)],
  [(45, .iload 4, 2, [], 0), (47, .bipush 49, 2, [], 49), (49, .isub, 1, [], 0), (50, .istore 5, 2, [], 0), (52, .iload 4, 2, [], 0), (54, .bipush 65, 2, [], 65), (56, .isub, 1, [], 0), (57, .istore 6, 2, [], 0), (59, .iload 5, 2, [], 0), (61, .iconst 0, 1, [], 0), (62, .aload_n 0, 1, [], 0), (63, .getfield 72, 3, [8, 6], 0), (66, .iconst 1, 1, [], 1), (67, .isub, 1, [], 0), (68, .invokestatic 58, 3, [88, 3, 1], 0), (71, .ifCond .eq 8, 3, [4], 0), (74, .iload 5, 2, [], 0), (76, .goto 27, 3, [6], 0)],
  [(79, .iload 6, 2, [], 0), (81, .iconst 0, 1, [], 0), (82, .aload_n 0, 1, [], 0), (83, .getfield 19, 3, [8, 4], 0), (86, .iconst 1, 1, [], 1), (87, .isub, 1, [], 0), (88, .invokestatic 58, 3, [88, 3, 1], 0), (91, .ifCond .eq 10, 3, [5], 0), (94, .iconst 4, 1, [], 4), (95, .iload 6, 2, [], 0), (97, .iadd, 1, [], 0), (98, .goto 5, 3, [6], 0)],
  [(101, .bipush (-6), 2, [], (-6)), (103, .nop, 0, [6], 0)],
  [(103, .istore 7, 2, [], 0), (105, .iload 7, 2, [], 0), (107, .ifCond .lt 12, 3, [7], 0), (110, .iload_n 2, 1, [], 0), (111, .iload 7, 2, [], 0), (113, .invokestatic 75, 3, [89, 2, 1], 0), (116, .ifCond .eq 5, 3, [8], 0), (119, .nop, 0, [7], 0)],
  [(119, .iload_n 3, 1, [], 0), (120, .ireturn, 1, [0], 0)],
  [(121, .iload_n 2, 1, [], 0), (122, .iconst 1, 1, [], 1), (123, .iload 7, 2, [], 0), (125, .ishl, 1, [], 0), (126, .ior, 1, [], 0), (127, .istore_n 2, 1, [], 0), (128, .nop, 0, [9], 0)],
  [(128, .iinc 3 1, 3, [], 1), (131, .goto (-125), 3, [1], 0)],
  [(134, .iload_n 1, 1, [], 0), (135, .bipush 6, 2, [], 6), (137, .if_icmp .ne 8, 3, [11], 0), (140, .bipush (-6), 2, [], (-6)), (142, .goto 7, 3, [12], 0)],
  [(145, .aload_n 0, 1, [], 0), (146, .getfield 66, 3, [8, 2], 0), (149, .nop, 0, [12], 0)],
  [(149, .ireturn, 1, [0], 0)]]
def kB_X8_fault : List (List mIns) := [[(0, .iload_n 1, 1, [], 0), (1, .ifCond .ne 10, 3, [1], 0), (4, .aload_n 0, 1, [], 0), (5, .invokevirtual 79, 3, [97, 1, 1, 8], 0), (8, .goto 17, 3, [3], 0)],
  [(11, .iload_n 1, 1, [], 0), (12, .iconst 1, 1, [], 1), (13, .if_icmp .ne 10, 3, [2], 0), (16, .aload_n 0, 1, [], 0), (17, .invokevirtual 83, 3, [98, 1, 1, 8], 0), (20, .goto 5, 3, [3], 0)],
  [(23, .bipush (-2), 2, [], (-2)), (25, .nop, 0, [3], 0)],
  [(25, .ireturn, 1, [0], 0)]]
def kB_X8_lane : List (List mIns) := [[(0, .aload_n 0, 1, [], 0), (1, .invokevirtual 79, 3, [97, 1, 1, 8], 0), (4, .ifCond .lt 6, 3, [1], 0), (7, .bipush (-5), 2, [], (-5)), (9, .ireturn, 1, [0], 0)],
  [(10, .aload_n 0, 1, [], 0), (11, .iconst 0, 1, [], 0), (12, .putfield 19, 3, [8, 4], 0), (15, .aload_n 0, 1, [], 0), (16, .iconst 0, 1, [], 0), (17, .putfield 72, 3, [8, 6], 0), (20, .aload_n 0, 1, [], 0), (21, .iconst 0, 1, [], 0), (22, .putfield 86, 3, [8, 7], 0), (25, .iconst 0, 1, [], 0), (26, .istore_n 1, 1, [], 0), (27, .bipush (-6), 2, [], (-6)), (29, .istore_n 2, 1, [], 0), (30, .iconst 0, 1, [], 0), (31, .istore_n 3, 1, [], 0), (32, .nop, 0, [2], 0)],
  [(32, .iload_n 3, 1, [], 0), (33, .aload_n 0, 1, [], 0), (34, .getfield 66, 3, [8, 2], 0), (37, .if_icmp .ge 118, 3, [6], 0), (40, .aload_n 0, 1, [], 0), (41, .getfield 16, 3, [8, 3], 0), (44, .iload_n 3, 1, [], 0), (45, .iaload, 1, [], 0), (46, .istore 4, 2, [], 0), (48, .iload 4, 2, [], 0), (50, .bipush 42, 2, [], 42), (52, .if_icmp .ne 21, 3, [3], 0), (55, .aload_n 0, 1, [], 0), (56, .getfield 72, 3, [8, 6], 0), (59, .istore_n 2, 1, [], 0), (60, .aload_n 0, 1, [], 0), (61, .dup, 1, [], 0), (62, .getfield 72, 3, [8, 6], 0), (65, .iconst 1, 1, [], 1), (66, .iadd, 1, [], 0), (67, .putfield 72, 3, [8, 6], 0), (70, .goto 79, 3, [5], 0)],
  [(73, .iload 4, 2, [], 0), (75, .invokestatic 69, 3, [96, 1, 1], 0), (78, .ifCond .lt 65, 3, [4], 0), (81, .aload_n 0, 1, [], 0), (82, .getfield 23, 3, [8, 5], 0), (85, .iconst 3, 1, [], 3), (86, .aload_n 0, 1, [], 0), (87, .getfield 19, 3, [8, 4], 0), (90, .imul, 1, [], 0), (91, .iload 4, 2, [], 0), (93, .invokestatic 69, 3, [96, 1, 1], 0), (96, .iastore, 1, [], 0), (97, .aload_n 0, 1, [], 0), (98, .getfield 23, 3, [8, 5], 0), (101, .iconst 3, 1, [], 3), (102, .aload_n 0, 1, [], 0), (103, .getfield 19, 3, [8, 4], 0), (106, .imul, 1, [], 0), (107, .iconst 1, 1, [], 1), (108, .iadd, 1, [], 0), (109, .iload_n 1, 1, [], 0), (110, .iastore, 1, [], 0), (111, .aload_n 0, 1, [], 0), (112, .getfield 23, 3, [8, 5], 0), (115, .iconst 3, 1, [], 3), (116, .aload_n 0, 1, [], 0), (117, .getfield 19, 3, [8, 4], 0), (120, .imul, 1, [], 0), (121, .iconst 2, 1, [], 2), (122, .iadd, 1, [], 0), (123, .iload_n 2, 1, [], 0), (124, .iastore, 1, [], 0), (125, .aload_n 0, 1, [], 0), (126, .dup, 1, [], 0), (127, .getfield 19, 3, [8, 4], 0), (130, .iconst 1, 1, [], 1), (131, .iadd, 1, [], 0), (132, .putfield 19, 3, [8, 4], 0), (135, .iconst 0, 1, [], 0), (136, .istore_n 1, 1, [], 0), (137, .bipush (-6), 2, [], (-6)), (139, .istore_n 2, 1, [], 0), (140, .goto 9, 3, [5], 0)],
  [(143, .iload 4, 2, [], 0), (145, .bipush 48, 2, [], 48), (147, .isub, 1, [], 0), (148, .istore_n 1, 1, [], 0), (149, .nop, 0, [5], 0)],
  [(149, .iinc 3 1, 3, [], 1), (152, .goto (-120), 3, [2], 0)],
  [(155, .aload_n 0, 1, [], 0), (156, .iconst 0, 1, [], 0), (157, .putfield 66, 3, [8, 2], 0), (160, .aload_n 0, 1, [], 0), (161, .getfield 19, 3, [8, 4], 0), (164, .ireturn, 1, [0], 0)]]
def kB_X8_house : List (List mIns) := [[(0, .iload_n 1, 1, [], 0), (1, .iconst 0, 1, [], 0), (2, .aload_n 0, 1, [], 0), (3, .getfield 19, 3, [8, 4], 0), (6, .iconst 1, 1, [], 1), (7, .isub, 1, [], 0), (8, .invokestatic 58, 3, [88, 3, 1], 0), (11, .ifCond .ne 5, 3, [1], 0), (14, .iconst (-1), 1, [], (-1)), (15, .ireturn, 1, [0], 0)],
  [(16, .iload_n 2, 1, [], 0), (17, .iconst 0, 1, [], 0), (18, .iconst 2, 1, [], 2), (19, .invokestatic 58, 3, [88, 3, 1], 0), (22, .ifCond .eq 16, 3, [2], 0), (25, .aload_n 0, 1, [], 0), (26, .getfield 23, 3, [8, 5], 0), (29, .iconst 3, 1, [], 3), (30, .iload_n 1, 1, [], 0), (31, .imul, 1, [], 0), (32, .iload_n 2, 1, [], 0), (33, .iadd, 1, [], 0), (34, .iaload, 1, [], 0), (35, .goto 5, 3, [3], 0)],
  [(38, .bipush (-2), 2, [], (-2)), (40, .nop, 0, [3], 0)],
  [(40, .ireturn, 1, [0], 0)]]
def kB_X8_asLane : List (List mIns) := [[(0, .aload_n 0, 1, [], 0), (1, .aload_n 0, 1, [], 0), (2, .getfield 19, 3, [8, 4], 0), (5, .putfield 89, 3, [8, 9], 0), (8, .iconst 0, 1, [], 0), (9, .istore_n 1, 1, [], 0), (10, .nop, 0, [1], 0)],
  [(10, .iload_n 1, 1, [], 0), (11, .iconst 3, 1, [], 3), (12, .aload_n 0, 1, [], 0), (13, .getfield 19, 3, [8, 4], 0), (16, .imul, 1, [], 0), (17, .if_icmp .ge 21, 3, [2], 0), (20, .aload_n 0, 1, [], 0), (21, .getfield 29, 3, [8, 10], 0), (24, .iload_n 1, 1, [], 0), (25, .aload_n 0, 1, [], 0), (26, .getfield 23, 3, [8, 5], 0), (29, .iload_n 1, 1, [], 0), (30, .iaload, 1, [], 0), (31, .iastore, 1, [], 0), (32, .iinc 1 1, 3, [], 1), (35, .goto (-25), 3, [1], 0)],
  [(38, .return_, 1, [], 0)]]
def kB_X8_go : List (List mIns) := [[(0, .aload_n 0, 1, [], 0), (1, .getfield 7, 3, [8, 0], 0), (4, .iconst 2, 1, [], 2), (5, .iaload, 1, [], 0), (6, .istore 5, 2, [], 0), (8, .aload_n 0, 1, [], 0), (9, .getfield 7, 3, [8, 0], 0), (12, .iconst 0, 1, [], 0), (13, .iaload, 1, [], 0), (14, .istore 6, 2, [], 0), (16, .iload 6, 2, [], 0), (18, .iload 4, 2, [], 0), (20, .imul, 1, [], 0), (21, .istore 7, 2, [], 0), (23, .aload_n 0, 1, [], 0), (24, .iconst 0, 1, [], 0), (25, .putfield 92, 3, [8, 13], 0), (28, .aload_n 0, 1, [], 0), (29, .iconst 0, 1, [], 0), (30, .putfield 95, 3, [8, 14], 0), (33, .aload_n 0, 1, [], 0), (34, .iconst 0, 1, [], 0), (35, .putfield 98, 3, [8, 15], 0), (38, .aload_n 0, 1, [], 0), (39, .iconst 0, 1, [], 0), (40, .putfield 101, 3, [8, 16], 0), (43, .iconst 0, 1, [], 0), (44, .istore 8, 2, [], 0), (46, .nop, 0, [1], 0)],
  [(46, .iload 8, 2, [], 0), (48, .aload_n 0, 1, [], 0), (49, .getfield 89, 3, [8, 9], 0), (52, .if_icmp .ge 327, 3, [13], 0), (55, .aload_n 0, 1, [], 0), (56, .getfield 29, 3, [8, 10], 0), (59, .iconst 3, 1, [], 3), (60, .iload 8, 2, [], 0), (62, .imul, 1, [], 0), (63, .iaload, 1, [], 0), (64, .istore 9, 2, [], 0), (66, .aload_n 0, 1, [], 0), (67, .getfield 29, 3, [8, 10], 0), (70, .iconst 3, 1, [], 3), (71, .iload 8, 2, [], 0), (73, .imul, 1, [], 0), (74, .iconst 2, 1, [], 2), (75, .iadd, 1, [], 0), (76, .iaload, 1, [], 0), (77, .istore 10, 2, [], 0), (79, .iload 7, 2, [], 0), (81, .iload 5, 2, [], 0), (83, .iload 6, 2, [], 0), (85, .imul, 1, [], 0), (86, .if_icmp .le 65, 3, [4], 0), (89, .iload 7, 2, [], 0), (91, .bipush 10, 2, [], 10), (93, .aload_n 0, 1, [], 0), (94, .getfield 29, 3, [8, 10], 0), (97, .iconst 3, 1, [], 3), (98, .iload 8, 2, [], 0), (100, .imul, 1, [], 0), (101, .iconst 1, 1, [], 1), (102, .iadd, 1, [], 0), (103, .iaload, 1, [], 0), (104, .imul, 1, [], 0), (105, .iload 6, 2, [], 0), (107, .imul, 1, [], 0), (108, .isub, 1, [], 0), (109, .istore 11, 2, [], 0), (111, .iload 11, 2, [], 0), (113, .iload 5, 2, [], 0), (115, .iload 6, 2, [], 0), (117, .imul, 1, [], 0), (118, .if_icmp .ge 11, 3, [2], 0), (121, .iload 5, 2, [], 0), (123, .iload 6, 2, [], 0), (125, .imul, 1, [], 0), (126, .goto 5, 3, [3], 0)],
  [(129, .iload 11, 2, [], 0), (131, .nop, 0, [3], 0)],
  [(131, .istore 11, 2, [], 0), (133, .aload_n 0, 1, [], 0), (134, .dup, 1, [], 0), (135, .getfield 98, 3, [8, 15], 0), (138, .iload 7, 2, [], 0), (140, .iload 11, 2, [], 0), (142, .isub, 1, [], 0), (143, .iadd, 1, [], 0), (144, .putfield 98, 3, [8, 15], 0), (147, .iload 11, 2, [], 0), (149, .istore 7, 2, [], 0), (151, .nop, 0, [4], 0)],
  [(151, .iload 10, 2, [], 0), (153, .ifCond .lt 41, 3, [5], 0), (156, .iload_n 2, 1, [], 0), (157, .iload 10, 2, [], 0), (159, .invokestatic 75, 3, [89, 2, 1], 0), (162, .ifCond .eq 32, 3, [5], 0), (165, .iload 6, 2, [], 0), (167, .aload_n 0, 1, [], 0), (168, .getfield 7, 3, [8, 0], 0), (171, .iconst 3, 1, [], 3), (172, .iaload, 1, [], 0), (173, .iadd, 1, [], 0), (174, .istore 6, 2, [], 0), (176, .iload 7, 2, [], 0), (178, .aload_n 0, 1, [], 0), (179, .getfield 7, 3, [8, 0], 0), (182, .iconst 3, 1, [], 3), (183, .iaload, 1, [], 0), (184, .aload_n 0, 1, [], 0), (185, .getfield 7, 3, [8, 0], 0), (188, .iconst 4, 1, [], 4), (189, .iaload, 1, [], 0), (190, .imul, 1, [], 0), (191, .iadd, 1, [], 0), (192, .istore 7, 2, [], 0), (194, .nop, 0, [5], 0)],
  [(194, .aload_n 0, 1, [], 0), (195, .getfield 32, 3, [8, 11], 0), (198, .iload 8, 2, [], 0), (200, .iload 6, 2, [], 0), (202, .iastore, 1, [], 0), (203, .aload_n 0, 1, [], 0), (204, .getfield 35, 3, [8, 12], 0), (207, .iload 8, 2, [], 0), (209, .iload 7, 2, [], 0), (211, .iastore, 1, [], 0), (212, .iload 7, 2, [], 0), (214, .aload_n 0, 1, [], 0), (215, .getfield 13, 3, [8, 1], 0), (218, .bipush 6, 2, [], 6), (220, .iload 9, 2, [], 0), (222, .iadd, 1, [], 0), (223, .iaload, 1, [], 0), (224, .iload 6, 2, [], 0), (226, .imul, 1, [], 0), (227, .if_icmp .le 7, 3, [6], 0), (230, .iconst 1, 1, [], 1), (231, .goto 4, 3, [7], 0)],
  [(234, .iconst 0, 1, [], 0), (235, .nop, 0, [7], 0)],
  [(235, .istore 11, 2, [], 0), (237, .aload_n 0, 1, [], 0), (238, .getfield 13, 3, [8, 1], 0), (241, .bipush 12, 2, [], 12), (243, .iload 9, 2, [], 0), (245, .iadd, 1, [], 0), (246, .iaload, 1, [], 0), (247, .istore 12, 2, [], 0), (249, .aload_n 0, 1, [], 0), (250, .dup, 1, [], 0), (251, .getfield 95, 3, [8, 14], 0), (254, .iload 11, 2, [], 0), (256, .ifCond .eq 10, 3, [8], 0), (259, .iconst 1, 1, [], 1), (260, .iload 8, 2, [], 0), (262, .ishl, 1, [], 0), (263, .goto 4, 3, [9], 0)],
  [(266, .iconst 0, 1, [], 0), (267, .nop, 0, [9], 0)],
  [(267, .ior, 1, [], 0), (268, .putfield 95, 3, [8, 14], 0), (271, .iload_n 3, 1, [], 0), (272, .iload 8, 2, [], 0), (274, .invokestatic 75, 3, [89, 2, 1], 0), (277, .ifCond .eq 24, 3, [10], 0), (280, .aload_n 0, 1, [], 0), (281, .getfield 13, 3, [8, 1], 0), (284, .bipush 24, 2, [], 24), (286, .iload 9, 2, [], 0), (288, .iadd, 1, [], 0), (289, .iaload, 1, [], 0), (290, .iload_n 1, 1, [], 0), (291, .invokestatic 75, 3, [89, 2, 1], 0), (294, .ifCond .eq 7, 3, [10], 0), (297, .iconst 1, 1, [], 1), (298, .goto 4, 3, [11], 0)],
  [(301, .iconst 0, 1, [], 0), (302, .nop, 0, [11], 0)],
  [(302, .istore 13, 2, [], 0), (304, .iload 13, 2, [], 0), (306, .ifCond .eq 67, 3, [12], 0), (309, .iload 11, 2, [], 0), (311, .ifCond .ne 62, 3, [12], 0), (314, .iload 7, 2, [], 0), (316, .aload_n 0, 1, [], 0), (317, .getfield 13, 3, [8, 1], 0), (320, .iload 9, 2, [], 0), (322, .iaload, 1, [], 0), (323, .iload 6, 2, [], 0), (325, .imul, 1, [], 0), (326, .if_icmp .lt 47, 3, [12], 0), (329, .iload 7, 2, [], 0), (331, .iload 12, 2, [], 0), (333, .isub, 1, [], 0), (334, .iload 5, 2, [], 0), (336, .iload 6, 2, [], 0), (338, .imul, 1, [], 0), (339, .if_icmp .lt 34, 3, [12], 0), (342, .aload_n 0, 1, [], 0), (343, .dup, 1, [], 0), (344, .getfield 92, 3, [8, 13], 0), (347, .iconst 1, 1, [], 1), (348, .iload 8, 2, [], 0), (350, .ishl, 1, [], 0), (351, .ior, 1, [], 0), (352, .putfield 92, 3, [8, 13], 0), (355, .iload 7, 2, [], 0), (357, .iload 12, 2, [], 0), (359, .isub, 1, [], 0), (360, .istore 7, 2, [], 0), (362, .aload_n 0, 1, [], 0), (363, .dup, 1, [], 0), (364, .getfield 101, 3, [8, 16], 0), (367, .iload 12, 2, [], 0), (369, .iadd, 1, [], 0), (370, .putfield 101, 3, [8, 16], 0), (373, .nop, 0, [12], 0)],
  [(373, .iinc 8 1, 3, [], 1), (376, .goto (-330), 3, [1], 0)],
  [(379, .aload_n 0, 1, [], 0), (380, .getfield 32, 3, [8, 11], 0), (383, .aload_n 0, 1, [], 0), (384, .getfield 89, 3, [8, 9], 0), (387, .iload 6, 2, [], 0), (389, .iastore, 1, [], 0), (390, .aload_n 0, 1, [], 0), (391, .getfield 35, 3, [8, 12], 0), (394, .aload_n 0, 1, [], 0), (395, .getfield 89, 3, [8, 9], 0), (398, .iload 7, 2, [], 0), (400, .iastore, 1, [], 0), (401, .return_, 1, [], 0)]]
def kB_X8_areBits : List (List mIns) := [[(0, .iload_n 1, 1, [], 0), (1, .iconst 0, 1, [], 0), (2, .iconst 5, 1, [], 5), (3, .invokestatic 58, 3, [88, 3, 1], 0), (6, .ifCond .eq 39, 3, [1], 0), (9, .iload_n 2, 1, [], 0), (10, .iconst 0, 1, [], 0), (11, .iconst 1, 1, [], 1), (12, .aload_n 0, 1, [], 0), (13, .getfield 72, 3, [8, 6], 0), (16, .ishl, 1, [], 0), (17, .iconst 1, 1, [], 1), (18, .isub, 1, [], 0), (19, .invokestatic 58, 3, [88, 3, 1], 0), (22, .ifCond .eq 23, 3, [1], 0), (25, .iload_n 3, 1, [], 0), (26, .iconst 0, 1, [], 0), (27, .iconst 1, 1, [], 1), (28, .aload_n 0, 1, [], 0), (29, .getfield 19, 3, [8, 4], 0), (32, .ishl, 1, [], 0), (33, .iconst 1, 1, [], 1), (34, .isub, 1, [], 0), (35, .invokestatic 58, 3, [88, 3, 1], 0), (38, .ifCond .eq 7, 3, [1], 0), (41, .iconst 1, 1, [], 1), (42, .goto 4, 3, [2], 0)],
  [(45, .iconst 0, 1, [], 0), (46, .nop, 0, [2], 0)],
  [(46, .ireturn, 1, [1], 0)]]
def kB_X8_at : List (List mIns) := [[(0, .iload 4, 2, [], 0), (2, .iconst 0, 1, [], 0), (3, .aload_n 0, 1, [], 0), (4, .getfield 19, 3, [8, 4], 0), (7, .invokestatic 58, 3, [88, 3, 1], 0), (10, .ifCond .ne 5, 3, [1], 0), (13, .iconst (-1), 1, [], (-1)), (14, .ireturn, 1, [0], 0)],
  [(15, .aload_n 0, 1, [], 0), (16, .iload_n 1, 1, [], 0), (17, .iload_n 2, 1, [], 0), (18, .iload_n 3, 1, [], 0), (19, .invokevirtual 104, 3, [104, 4, 1, 8], 0), (22, .ifCond .eq 13, 3, [2], 0), (25, .iload 5, 2, [], 0), (27, .iconst 0, 1, [], 0), (28, .iconst 1, 1, [], 1), (29, .invokestatic 58, 3, [88, 3, 1], 0), (32, .ifCond .ne 6, 3, [3], 0), (35, .nop, 0, [2], 0)],
  [(35, .bipush (-2), 2, [], (-2)), (37, .ireturn, 1, [0], 0)],
  [(38, .aload_n 0, 1, [], 0), (39, .invokevirtual 107, 3, [102, 1, 0, 8], 0), (42, .aload_n 0, 1, [], 0), (43, .iload_n 1, 1, [], 0), (44, .iload_n 2, 1, [], 0), (45, .iload_n 3, 1, [], 0), (46, .aload_n 0, 1, [], 0), (47, .getfield 7, 3, [8, 0], 0), (50, .iconst 1, 1, [], 1), (51, .iaload, 1, [], 0), (52, .invokevirtual 110, 3, [103, 5, 0, 8], 0), (55, .iload 5, 2, [], 0), (57, .ifCond .ne 13, 3, [4], 0), (60, .aload_n 0, 1, [], 0), (61, .getfield 32, 3, [8, 11], 0), (64, .iload 4, 2, [], 0), (66, .iaload, 1, [], 0), (67, .goto 10, 3, [5], 0)],
  [(70, .aload_n 0, 1, [], 0), (71, .getfield 35, 3, [8, 12], 0), (74, .iload 4, 2, [], 0), (76, .iaload, 1, [], 0), (77, .nop, 0, [5], 0)],
  [(77, .ireturn, 1, [0], 0)]]
def kB_X8_run : List (List mIns) := [[(0, .aload_n 0, 1, [], 0), (1, .iload_n 1, 1, [], 0), (2, .iload_n 2, 1, [], 0), (3, .iload_n 3, 1, [], 0), (4, .invokevirtual 104, 3, [104, 4, 1, 8], 0), (7, .ifCond .eq 13, 3, [1], 0), (10, .iload 4, 2, [], 0), (12, .iconst 0, 1, [], 0), (13, .iconst 3, 1, [], 3), (14, .invokestatic 58, 3, [88, 3, 1], 0), (17, .ifCond .ne 6, 3, [2], 0), (20, .nop, 0, [1], 0)],
  [(20, .bipush (-2), 2, [], (-2)), (22, .ireturn, 1, [0], 0)],
  [(23, .aload_n 0, 1, [], 0), (24, .invokevirtual 107, 3, [102, 1, 0, 8], 0), (27, .aload_n 0, 1, [], 0), (28, .iload_n 1, 1, [], 0), (29, .iload_n 2, 1, [], 0), (30, .iload_n 3, 1, [], 0), (31, .aload_n 0, 1, [], 0), (32, .getfield 7, 3, [8, 0], 0), (35, .iconst 1, 1, [], 1), (36, .iaload, 1, [], 0), (37, .invokevirtual 110, 3, [103, 5, 0, 8], 0), (40, .iload 4, 2, [], 0), (42, .ifCond .ne 10, 3, [3], 0), (45, .aload_n 0, 1, [], 0), (46, .getfield 92, 3, [8, 13], 0), (49, .goto 33, 3, [6], 0)],
  [(52, .iload 4, 2, [], 0), (54, .iconst 1, 1, [], 1), (55, .if_icmp .ne 10, 3, [4], 0), (58, .aload_n 0, 1, [], 0), (59, .getfield 95, 3, [8, 14], 0), (62, .goto 20, 3, [6], 0)],
  [(65, .iload 4, 2, [], 0), (67, .iconst 2, 1, [], 2), (68, .if_icmp .ne 10, 3, [5], 0), (71, .aload_n 0, 1, [], 0), (72, .getfield 98, 3, [8, 15], 0), (75, .goto 7, 3, [6], 0)],
  [(78, .aload_n 0, 1, [], 0), (79, .getfield 101, 3, [8, 16], 0), (82, .nop, 0, [6], 0)],
  [(82, .ireturn, 1, [0], 0)]]
def kB_X8_judge : List (List mIns) := [[(0, .iload_n 1, 1, [], 0), (1, .iconst 0, 1, [], 0), (2, .iconst 1, 1, [], 1), (3, .invokestatic 58, 3, [88, 3, 1], 0), (6, .ifCond .ne 6, 3, [1], 0), (9, .bipush (-2), 2, [], (-2)), (11, .ireturn, 1, [0], 0)],
  [(12, .aload_n 0, 1, [], 0), (13, .invokevirtual 83, 3, [98, 1, 1, 8], 0), (16, .ifCond .lt 6, 3, [2], 0), (19, .bipush (-5), 2, [], (-5)), (21, .ireturn, 1, [0], 0)],
  [(22, .aload_n 0, 1, [], 0), (23, .invokevirtual 107, 3, [102, 1, 0, 8], 0), (26, .iconst 0, 1, [], 0), (27, .istore_n 2, 1, [], 0), (28, .iconst 0, 1, [], 0), (29, .istore_n 3, 1, [], 0), (30, .nop, 0, [3], 0)],
  [(30, .iload_n 3, 1, [], 0), (31, .bipush 6, 2, [], 6), (33, .if_icmp .ge 185, 3, [15], 0), (36, .iconst 0, 1, [], 0), (37, .istore 4, 2, [], 0), (39, .iconst 0, 1, [], 0), (40, .istore 5, 2, [], 0), (42, .nop, 0, [4], 0)],
  [(42, .iload_n 2, 1, [], 0), (43, .aload_n 0, 1, [], 0), (44, .getfield 66, 3, [8, 2], 0), (47, .if_icmp .ge 92, 3, [9], 0), (50, .aload_n 0, 1, [], 0), (51, .getfield 16, 3, [8, 3], 0), (54, .iload_n 2, 1, [], 0), (55, .iaload, 1, [], 0), (56, .bipush 47, 2, [], 47), (58, .if_icmp .eq 81, 3, [9], 0), (61, .iload 4, 2, [], 0), (63, .aload_n 0, 1, [], 0), (64, .getfield 16, 3, [8, 3], 0), (67, .iload_n 2, 1, [], 0), (68, .iaload, 1, [], 0), (69, .bipush 49, 2, [], 49), (71, .bipush 52, 2, [], 52), (73, .invokestatic 58, 3, [88, 3, 1], 0), (76, .ifCond .eq 17, 3, [5], 0), (79, .iconst 1, 1, [], 1), (80, .aload_n 0, 1, [], 0), (81, .getfield 16, 3, [8, 3], 0), (84, .iload_n 2, 1, [], 0), (85, .iaload, 1, [], 0), (86, .bipush 49, 2, [], 49), (88, .isub, 1, [], 0), (89, .ishl, 1, [], 0), (90, .goto 4, 3, [6], 0)],
  [(93, .iconst 0, 1, [], 0), (94, .nop, 0, [6], 0)],
  [(94, .ior, 1, [], 0), (95, .istore 4, 2, [], 0), (97, .iload 5, 2, [], 0), (99, .aload_n 0, 1, [], 0), (100, .getfield 16, 3, [8, 3], 0), (103, .iload_n 2, 1, [], 0), (104, .iaload, 1, [], 0), (105, .bipush 65, 2, [], 65), (107, .bipush 72, 2, [], 72), (109, .invokestatic 58, 3, [88, 3, 1], 0), (112, .ifCond .eq 17, 3, [7], 0), (115, .iconst 1, 1, [], 1), (116, .aload_n 0, 1, [], 0), (117, .getfield 16, 3, [8, 3], 0), (120, .iload_n 2, 1, [], 0), (121, .iaload, 1, [], 0), (122, .bipush 65, 2, [], 65), (124, .isub, 1, [], 0), (125, .ishl, 1, [], 0), (126, .goto 4, 3, [8], 0)],
  [(129, .iconst 0, 1, [], 0), (130, .nop, 0, [8], 0)],
  [(130, .ior, 1, [], 0), (131, .istore 5, 2, [], 0), (133, .iinc 2 1, 3, [], 1), (136, .goto (-94), 3, [4], 0)],
  [(139, .iinc 2 1, 3, [], 1), (142, .aload_n 0, 1, [], 0), (143, .iload_n 3, 1, [], 0), (144, .iload 4, 2, [], 0), (146, .iload 5, 2, [], 0), (148, .aload_n 0, 1, [], 0), (149, .getfield 7, 3, [8, 0], 0), (152, .iconst 1, 1, [], 1), (153, .iaload, 1, [], 0), (154, .invokevirtual 110, 3, [103, 5, 0, 8], 0), (157, .aload_n 0, 1, [], 0), (158, .getfield 95, 3, [8, 14], 0), (161, .iload 5, 2, [], 0), (163, .aload_n 0, 1, [], 0), (164, .getfield 92, 3, [8, 13], 0), (167, .iconst (-1), 1, [], (-1)), (168, .ixor, 1, [], 0), (169, .iand, 1, [], 0), (170, .ior, 1, [], 0), (171, .istore 6, 2, [], 0), (173, .iconst 0, 1, [], 0), (174, .istore 7, 2, [], 0), (176, .nop, 0, [10], 0)],
  [(176, .iload 7, 2, [], 0), (178, .aload_n 0, 1, [], 0), (179, .getfield 89, 3, [8, 9], 0), (182, .if_icmp .ge 30, 3, [14], 0), (185, .iload 6, 2, [], 0), (187, .iload 7, 2, [], 0), (189, .invokestatic 75, 3, [89, 2, 1], 0), (192, .ifCond .eq 14, 3, [13], 0), (195, .iload_n 1, 1, [], 0), (196, .ifCond .ne 7, 3, [11], 0), (199, .iload_n 3, 1, [], 0), (200, .goto 5, 3, [12], 0)],
  [(203, .iload 7, 2, [], 0), (205, .nop, 0, [12], 0)],
  [(205, .ireturn, 1, [0], 0)],
  [(206, .iinc 7 1, 3, [], 1), (209, .goto (-33), 3, [10], 0)],
  [(212, .iinc 3 1, 3, [], 1), (215, .goto (-185), 3, [3], 0)],
  [(218, .bipush (-6), 2, [], (-6)), (220, .ireturn, 1, [0], 0)]]
def kB_X8_worthOf : List (List mIns) := [[(0, .iconst 0, 1, [], 0), (1, .istore_n 2, 1, [], 0), (2, .iconst 0, 1, [], 0), (3, .istore_n 3, 1, [], 0), (4, .nop, 0, [1], 0)],
  [(4, .iload_n 3, 1, [], 0), (5, .aload_n 0, 1, [], 0), (6, .getfield 89, 3, [8, 9], 0), (9, .if_icmp .ge 40, 3, [4], 0), (12, .iload_n 2, 1, [], 0), (13, .iload_n 1, 1, [], 0), (14, .iload_n 3, 1, [], 0), (15, .invokestatic 75, 3, [89, 2, 1], 0), (18, .ifCond .eq 22, 3, [2], 0), (21, .aload_n 0, 1, [], 0), (22, .getfield 13, 3, [8, 1], 0), (25, .bipush 18, 2, [], 18), (27, .aload_n 0, 1, [], 0), (28, .getfield 29, 3, [8, 10], 0), (31, .iconst 3, 1, [], 3), (32, .iload_n 3, 1, [], 0), (33, .imul, 1, [], 0), (34, .iaload, 1, [], 0), (35, .iadd, 1, [], 0), (36, .iaload, 1, [], 0), (37, .goto 4, 3, [3], 0)],
  [(40, .iconst 0, 1, [], 0), (41, .nop, 0, [3], 0)],
  [(41, .iadd, 1, [], 0), (42, .istore_n 2, 1, [], 0), (43, .iinc 3 1, 3, [], 1), (46, .goto (-42), 3, [1], 0)],
  [(49, .iload_n 2, 1, [], 0), (50, .ireturn, 1, [0], 0)]]
def kB_X8_layBest : List (List mIns) := [[(0, .bipush (-6), 2, [], (-6)), (2, .istore_n 2, 1, [], 0), (3, .aload_n 0, 1, [], 0), (4, .iconst 0, 1, [], 0), (5, .putfield 114, 3, [8, 17], 0), (8, .iconst 0, 1, [], 0), (9, .istore_n 3, 1, [], 0), (10, .nop, 0, [1], 0)],
  [(10, .iload_n 3, 1, [], 0), (11, .iconst 1, 1, [], 1), (12, .aload_n 0, 1, [], 0), (13, .getfield 72, 3, [8, 6], 0), (16, .ishl, 1, [], 0), (17, .if_icmp .ge 91, 3, [5], 0), (20, .iconst 0, 1, [], 0), (21, .istore 4, 2, [], 0), (23, .nop, 0, [2], 0)],
  [(23, .iload 4, 2, [], 0), (25, .iconst 1, 1, [], 1), (26, .aload_n 0, 1, [], 0), (27, .getfield 89, 3, [8, 9], 0), (30, .ishl, 1, [], 0), (31, .if_icmp .ge 71, 3, [4], 0), (34, .aload_n 0, 1, [], 0), (35, .iload_n 1, 1, [], 0), (36, .iload_n 3, 1, [], 0), (37, .iload 4, 2, [], 0), (39, .aload_n 0, 1, [], 0), (40, .getfield 7, 3, [8, 0], 0), (43, .iconst 1, 1, [], 1), (44, .iaload, 1, [], 0), (45, .invokevirtual 110, 3, [103, 5, 0, 8], 0), (48, .aload_n 0, 1, [], 0), (49, .getfield 95, 3, [8, 14], 0), (52, .ifCond .ne 44, 3, [3], 0), (55, .aload_n 0, 1, [], 0), (56, .getfield 92, 3, [8, 13], 0), (59, .iload 4, 2, [], 0), (61, .if_icmp .ne 35, 3, [3], 0), (64, .aload_n 0, 1, [], 0), (65, .aload_n 0, 1, [], 0), (66, .getfield 92, 3, [8, 13], 0), (69, .invokevirtual 117, 3, [108, 2, 1, 8], 0), (72, .iload_n 2, 1, [], 0), (73, .if_icmp .le 23, 3, [3], 0), (76, .aload_n 0, 1, [], 0), (77, .aload_n 0, 1, [], 0), (78, .getfield 92, 3, [8, 13], 0), (81, .invokevirtual 117, 3, [108, 2, 1, 8], 0), (84, .istore_n 2, 1, [], 0), (85, .aload_n 0, 1, [], 0), (86, .iload_n 3, 1, [], 0), (87, .bipush 9, 2, [], 9), (89, .ishl, 1, [], 0), (90, .iload 4, 2, [], 0), (92, .iadd, 1, [], 0), (93, .putfield 114, 3, [8, 17], 0), (96, .nop, 0, [3], 0)],
  [(96, .iinc 4 1, 3, [], 1), (99, .goto (-76), 3, [2], 0)],
  [(102, .iinc 3 1, 3, [], 1), (105, .goto (-95), 3, [1], 0)],
  [(108, .iload_n 2, 1, [], 0), (109, .ireturn, 1, [0], 0)]]
def kB_X8_best : List (List mIns) := [[(0, .iload_n 1, 1, [], 0), (1, .iconst 0, 1, [], 0), (2, .iconst 5, 1, [], 5), (3, .invokestatic 58, 3, [88, 3, 1], 0), (6, .ifCond .eq 12, 3, [1], 0), (9, .iload_n 2, 1, [], 0), (10, .iconst 0, 1, [], 0), (11, .iconst 2, 1, [], 2), (12, .invokestatic 58, 3, [88, 3, 1], 0), (15, .ifCond .ne 6, 3, [2], 0), (18, .nop, 0, [1], 0)],
  [(18, .bipush (-2), 2, [], (-2)), (20, .ireturn, 1, [0], 0)],
  [(21, .aload_n 0, 1, [], 0), (22, .invokevirtual 107, 3, [102, 1, 0, 8], 0), (25, .aload_n 0, 1, [], 0), (26, .iload_n 1, 1, [], 0), (27, .invokevirtual 120, 3, [109, 2, 1, 8], 0), (30, .istore_n 3, 1, [], 0), (31, .iload_n 3, 1, [], 0), (32, .ifCond .lt 7, 3, [3], 0), (35, .iload_n 2, 1, [], 0), (36, .ifCond .ne 7, 3, [4], 0), (39, .nop, 0, [3], 0)],
  [(39, .iload_n 3, 1, [], 0), (40, .goto 26, 3, [6], 0)],
  [(43, .iload_n 2, 1, [], 0), (44, .iconst 1, 1, [], 1), (45, .if_icmp .ne 13, 3, [5], 0), (48, .aload_n 0, 1, [], 0), (49, .getfield 114, 3, [8, 17], 0), (52, .bipush 9, 2, [], 9), (54, .ishr, 1, [], 0), (55, .goto 11, 3, [6], 0)],
  [(58, .aload_n 0, 1, [], 0), (59, .getfield 114, 3, [8, 17], 0), (62, .sipush 511, 3, [], 511), (65, .iand, 1, [], 0), (66, .nop, 0, [6], 0)],
  [(66, .ireturn, 1, [0], 0)]]
def kB_X8_moss : List (List mIns) := [[(0, .iload_n 1, 1, [], 0), (1, .iconst 0, 1, [], 0), (2, .iconst 5, 1, [], 5), (3, .invokestatic 58, 3, [88, 3, 1], 0), (6, .ifCond .eq 22, 3, [1], 0), (9, .iload_n 2, 1, [], 0), (10, .iconst 0, 1, [], 0), (11, .bipush 8, 2, [], 8), (13, .invokestatic 58, 3, [88, 3, 1], 0), (16, .ifCond .eq 12, 3, [1], 0), (19, .iload_n 3, 1, [], 0), (20, .iconst 0, 1, [], 0), (21, .iconst 1, 1, [], 1), (22, .invokestatic 58, 3, [88, 3, 1], 0), (25, .ifCond .ne 6, 3, [2], 0), (28, .nop, 0, [1], 0)],
  [(28, .bipush (-2), 2, [], (-2)), (30, .ireturn, 1, [0], 0)],
  [(31, .bipush (-6), 2, [], (-6)), (33, .istore 4, 2, [], 0), (35, .bipush (-6), 2, [], (-6)), (37, .istore 5, 2, [], 0), (39, .iconst 0, 1, [], 0), (40, .istore 6, 2, [], 0), (42, .nop, 0, [3], 0)],
  [(42, .iload 6, 2, [], 0), (44, .iconst 1, 1, [], 1), (45, .aload_n 0, 1, [], 0), (46, .getfield 19, 3, [8, 4], 0), (49, .ishl, 1, [], 0), (50, .if_icmp .ge 133, 3, [12], 0), (53, .iload 6, 2, [], 0), (55, .invokestatic 123, 3, [90, 1, 1], 0), (58, .iload_n 2, 1, [], 0), (59, .if_icmp .gt 118, 3, [11], 0), (62, .aload_n 0, 1, [], 0), (63, .invokevirtual 107, 3, [102, 1, 0, 8], 0), (66, .iconst 0, 1, [], 0), (67, .istore 7, 2, [], 0), (69, .nop, 0, [4], 0)],
  [(69, .iload 7, 2, [], 0), (71, .aload_n 0, 1, [], 0), (72, .getfield 19, 3, [8, 4], 0), (75, .if_icmp .ge 45, 3, [7], 0), (78, .aload_n 0, 1, [], 0), (79, .getfield 29, 3, [8, 10], 0), (82, .iconst 3, 1, [], 3), (83, .iload 7, 2, [], 0), (85, .imul, 1, [], 0), (86, .iconst 1, 1, [], 1), (87, .iadd, 1, [], 0), (88, .iload 6, 2, [], 0), (90, .iload 7, 2, [], 0), (92, .invokestatic 75, 3, [89, 2, 1], 0), (95, .ifCond .eq 7, 3, [5], 0), (98, .iconst 0, 1, [], 0), (99, .goto 14, 3, [6], 0)],
  [(102, .aload_n 0, 1, [], 0), (103, .getfield 23, 3, [8, 5], 0), (106, .iconst 3, 1, [], 3), (107, .iload 7, 2, [], 0), (109, .imul, 1, [], 0), (110, .iconst 1, 1, [], 1), (111, .iadd, 1, [], 0), (112, .iaload, 1, [], 0), (113, .nop, 0, [6], 0)],
  [(113, .iastore, 1, [], 0), (114, .iinc 7 1, 3, [], 1), (117, .goto (-48), 3, [4], 0)],
  [(120, .aload_n 0, 1, [], 0), (121, .iload_n 1, 1, [], 0), (122, .invokevirtual 120, 3, [109, 2, 1, 8], 0), (125, .istore 7, 2, [], 0), (127, .iload 7, 2, [], 0), (129, .iload 5, 2, [], 0), (131, .if_icmp .gt 28, 3, [8], 0), (134, .iload 7, 2, [], 0), (136, .iload 5, 2, [], 0), (138, .if_icmp .ne 39, 3, [11], 0), (141, .iload 4, 2, [], 0), (143, .ifCond .lt 34, 3, [11], 0), (146, .iload 6, 2, [], 0), (148, .invokestatic 123, 3, [90, 1, 1], 0), (151, .iload 4, 2, [], 0), (153, .invokestatic 123, 3, [90, 1, 1], 0), (156, .if_icmp .ge 21, 3, [11], 0), (159, .nop, 0, [8], 0)],
  [(159, .iload 7, 2, [], 0), (161, .istore 5, 2, [], 0), (163, .iload 7, 2, [], 0), (165, .ifCond .ge 8, 3, [9], 0), (168, .bipush (-6), 2, [], (-6)), (170, .goto 5, 3, [10], 0)],
  [(173, .iload 6, 2, [], 0), (175, .nop, 0, [10], 0)],
  [(175, .istore 4, 2, [], 0), (177, .nop, 0, [11], 0)],
  [(177, .iinc 6 1, 3, [], 1), (180, .goto (-138), 3, [3], 0)],
  [(183, .iload_n 3, 1, [], 0), (184, .ifCond .ne 8, 3, [13], 0), (187, .iload 4, 2, [], 0), (189, .goto 5, 3, [14], 0)],
  [(192, .iload 5, 2, [], 0), (194, .nop, 0, [14], 0)],
  [(194, .ireturn, 1, [0], 0)]]
def kB_X8_cools : List (List mIns) := [[(0, .aload_n 0, 1, [], 0), (1, .iload_n 1, 1, [], 0), (2, .iload_n 2, 1, [], 0), (3, .iload_n 3, 1, [], 0), (4, .invokevirtual 104, 3, [104, 4, 1, 8], 0), (7, .ifCond .ne 6, 3, [1], 0), (10, .bipush (-2), 2, [], (-2)), (12, .ireturn, 1, [0], 0)],
  [(13, .aload_n 0, 1, [], 0), (14, .invokevirtual 107, 3, [102, 1, 0, 8], 0), (17, .iconst 0, 1, [], 0), (18, .istore 4, 2, [], 0), (20, .nop, 0, [2], 0)],
  [(20, .iload 4, 2, [], 0), (22, .sipush 1000, 3, [], 1000), (25, .if_icmp .gt 36, 3, [4], 0), (28, .aload_n 0, 1, [], 0), (29, .iload_n 1, 1, [], 0), (30, .iload_n 2, 1, [], 0), (31, .iload_n 3, 1, [], 0), (32, .iload 4, 2, [], 0), (34, .invokevirtual 110, 3, [103, 5, 0, 8], 0), (37, .aload_n 0, 1, [], 0), (38, .getfield 95, 3, [8, 14], 0), (41, .ifCond .ne 14, 3, [3], 0), (44, .aload_n 0, 1, [], 0), (45, .getfield 92, 3, [8, 13], 0), (48, .iload_n 3, 1, [], 0), (49, .if_icmp .ne 6, 3, [3], 0), (52, .iload 4, 2, [], 0), (54, .ireturn, 1, [0], 0)],
  [(55, .iinc 4 1, 3, [], 1), (58, .goto (-38), 3, [2], 0)],
  [(61, .bipush (-6), 2, [], (-6)), (63, .ireturn, 1, [0], 0)]]
def kB_X8_putAt : List (List mIns) := [[(0, .aload_n 0, 1, [], 0), (1, .invokevirtual 107, 3, [102, 1, 0, 8], 0), (4, .iconst 3, 1, [], 3), (5, .aload_n 0, 1, [], 0), (6, .getfield 19, 3, [8, 4], 0), (9, .imul, 1, [], 0), (10, .iconst 1, 1, [], 1), (11, .isub, 1, [], 0), (12, .istore_n 3, 1, [], 0), (13, .nop, 0, [1], 0)],
  [(13, .iload_n 3, 1, [], 0), (14, .iconst 3, 1, [], 3), (15, .iload_n 2, 1, [], 0), (16, .imul, 1, [], 0), (17, .if_icmp .lt 23, 3, [2], 0), (20, .aload_n 0, 1, [], 0), (21, .getfield 29, 3, [8, 10], 0), (24, .iload_n 3, 1, [], 0), (25, .iconst 3, 1, [], 3), (26, .iadd, 1, [], 0), (27, .aload_n 0, 1, [], 0), (28, .getfield 29, 3, [8, 10], 0), (31, .iload_n 3, 1, [], 0), (32, .iaload, 1, [], 0), (33, .iastore, 1, [], 0), (34, .iinc 3 (-1), 3, [], (-1)), (37, .goto (-24), 3, [1], 0)],
  [(40, .aload_n 0, 1, [], 0), (41, .getfield 29, 3, [8, 10], 0), (44, .iconst 3, 1, [], 3), (45, .iload_n 2, 1, [], 0), (46, .imul, 1, [], 0), (47, .iload_n 1, 1, [], 0), (48, .iastore, 1, [], 0), (49, .aload_n 0, 1, [], 0), (50, .getfield 29, 3, [8, 10], 0), (53, .iconst 3, 1, [], 3), (54, .iload_n 2, 1, [], 0), (55, .imul, 1, [], 0), (56, .iconst 1, 1, [], 1), (57, .iadd, 1, [], 0), (58, .iconst 0, 1, [], 0), (59, .iastore, 1, [], 0), (60, .aload_n 0, 1, [], 0), (61, .getfield 29, 3, [8, 10], 0), (64, .iconst 3, 1, [], 3), (65, .iload_n 2, 1, [], 0), (66, .imul, 1, [], 0), (67, .iconst 2, 1, [], 2), (68, .iadd, 1, [], 0), (69, .bipush (-6), 2, [], (-6)), (71, .iastore, 1, [], 0), (72, .aload_n 0, 1, [], 0), (73, .aload_n 0, 1, [], 0), (74, .getfield 19, 3, [8, 4], 0), (77, .iconst 1, 1, [], 1), (78, .iadd, 1, [], 0), (79, .putfield 89, 3, [8, 9], 0), (82, .return_, 1, [], 0)]]
def kB_X8_put : List (List mIns) := [[(0, .iload_n 2, 1, [], 0), (1, .iconst 0, 1, [], 0), (2, .iconst 5, 1, [], 5), (3, .invokestatic 58, 3, [88, 3, 1], 0), (6, .ifCond .eq 15, 3, [1], 0), (9, .iload_n 3, 1, [], 0), (10, .iconst 0, 1, [], 0), (11, .aload_n 0, 1, [], 0), (12, .getfield 19, 3, [8, 4], 0), (15, .invokestatic 58, 3, [88, 3, 1], 0), (18, .ifCond .ne 5, 3, [2], 0), (21, .nop, 0, [1], 0)],
  [(21, .iconst (-1), 1, [], (-1)), (22, .ireturn, 1, [0], 0)],
  [(23, .iload_n 1, 1, [], 0), (24, .iconst 0, 1, [], 0), (25, .iconst 5, 1, [], 5), (26, .invokestatic 58, 3, [88, 3, 1], 0), (29, .ifCond .ne 6, 3, [3], 0), (32, .bipush (-2), 2, [], (-2)), (34, .ireturn, 1, [0], 0)],
  [(35, .aload_n 0, 1, [], 0), (36, .getfield 19, 3, [8, 4], 0), (39, .bipush 8, 2, [], 8), (41, .if_icmp .ne 6, 3, [4], 0), (44, .bipush (-4), 2, [], (-4)), (46, .ireturn, 1, [0], 0)],
  [(47, .aload_n 0, 1, [], 0), (48, .iload_n 2, 1, [], 0), (49, .iload_n 3, 1, [], 0), (50, .invokevirtual 126, 3, [113, 3, 0, 8], 0), (53, .aload_n 0, 1, [], 0), (54, .iload_n 1, 1, [], 0), (55, .invokevirtual 120, 3, [109, 2, 1, 8], 0), (58, .ireturn, 1, [0], 0)]]
def kB_X8_where : List (List mIns) := [[(0, .iload_n 2, 1, [], 0), (1, .iconst 0, 1, [], 0), (2, .iconst 5, 1, [], 5), (3, .invokestatic 58, 3, [88, 3, 1], 0), (6, .ifCond .ne 5, 3, [1], 0), (9, .iconst (-1), 1, [], (-1)), (10, .ireturn, 1, [0], 0)],
  [(11, .iload_n 1, 1, [], 0), (12, .iconst 0, 1, [], 0), (13, .iconst 5, 1, [], 5), (14, .invokestatic 58, 3, [88, 3, 1], 0), (17, .ifCond .eq 12, 3, [2], 0), (20, .iload_n 3, 1, [], 0), (21, .iconst 0, 1, [], 0), (22, .iconst 1, 1, [], 1), (23, .invokestatic 58, 3, [88, 3, 1], 0), (26, .ifCond .ne 6, 3, [3], 0), (29, .nop, 0, [2], 0)],
  [(29, .bipush (-2), 2, [], (-2)), (31, .ireturn, 1, [0], 0)],
  [(32, .aload_n 0, 1, [], 0), (33, .getfield 19, 3, [8, 4], 0), (36, .bipush 8, 2, [], 8), (38, .if_icmp .ne 6, 3, [4], 0), (41, .bipush (-4), 2, [], (-4)), (43, .ireturn, 1, [0], 0)],
  [(44, .bipush (-6), 2, [], (-6)), (46, .istore 4, 2, [], 0), (48, .bipush (-6), 2, [], (-6)), (50, .istore 5, 2, [], 0), (52, .iconst 0, 1, [], 0), (53, .istore 6, 2, [], 0), (55, .nop, 0, [5], 0)],
  [(55, .iload 6, 2, [], 0), (57, .aload_n 0, 1, [], 0), (58, .getfield 19, 3, [8, 4], 0), (61, .if_icmp .gt 38, 3, [7], 0), (64, .aload_n 0, 1, [], 0), (65, .iload_n 2, 1, [], 0), (66, .iload 6, 2, [], 0), (68, .invokevirtual 126, 3, [113, 3, 0, 8], 0), (71, .aload_n 0, 1, [], 0), (72, .iload_n 1, 1, [], 0), (73, .invokevirtual 120, 3, [109, 2, 1, 8], 0), (76, .istore 7, 2, [], 0), (78, .iload 7, 2, [], 0), (80, .iload 5, 2, [], 0), (82, .if_icmp .le 11, 3, [6], 0), (85, .iload 7, 2, [], 0), (87, .istore 5, 2, [], 0), (89, .iload 6, 2, [], 0), (91, .istore 4, 2, [], 0), (93, .nop, 0, [6], 0)],
  [(93, .iinc 6 1, 3, [], 1), (96, .goto (-41), 3, [5], 0)],
  [(99, .iload_n 3, 1, [], 0), (100, .ifCond .ne 8, 3, [8], 0), (103, .iload 4, 2, [], 0), (105, .goto 5, 3, [9], 0)],
  [(108, .iload 5, 2, [], 0), (110, .nop, 0, [9], 0)],
  [(110, .ireturn, 1, [0], 0)]]
def kB_X8_nextOrder : List (List mIns) := [[(0, .aload_n 0, 1, [], 0), (1, .getfield 19, 3, [8, 4], 0), (4, .iconst 2, 1, [], 2), (5, .isub, 1, [], 0), (6, .istore_n 1, 1, [], 0), (7, .nop, 0, [1], 0)],
  [(7, .iload_n 1, 1, [], 0), (8, .ifCond .lt 26, 3, [2], 0), (11, .aload_n 0, 1, [], 0), (12, .getfield 38, 3, [8, 18], 0), (15, .iload_n 1, 1, [], 0), (16, .iaload, 1, [], 0), (17, .aload_n 0, 1, [], 0), (18, .getfield 38, 3, [8, 18], 0), (21, .iload_n 1, 1, [], 0), (22, .iconst 1, 1, [], 1), (23, .iadd, 1, [], 0), (24, .iaload, 1, [], 0), (25, .if_icmp .le 9, 3, [2], 0), (28, .iinc 1 (-1), 3, [], (-1)), (31, .goto (-24), 3, [1], 0)],
  [(34, .iload_n 1, 1, [], 0), (35, .ifCond .ge 5, 3, [3], 0), (38, .iconst 0, 1, [], 0), (39, .ireturn, 1, [1], 0)],
  [(40, .aload_n 0, 1, [], 0), (41, .getfield 19, 3, [8, 4], 0), (44, .iconst 1, 1, [], 1), (45, .isub, 1, [], 0), (46, .istore_n 2, 1, [], 0), (47, .nop, 0, [4], 0)],
  [(47, .aload_n 0, 1, [], 0), (48, .getfield 38, 3, [8, 18], 0), (51, .iload_n 2, 1, [], 0), (52, .iaload, 1, [], 0), (53, .aload_n 0, 1, [], 0), (54, .getfield 38, 3, [8, 18], 0), (57, .iload_n 1, 1, [], 0), (58, .iaload, 1, [], 0), (59, .if_icmp .ge 9, 3, [5], 0), (62, .iinc 2 (-1), 3, [], (-1)), (65, .goto (-18), 3, [4], 0)],
  [(68, .aload_n 0, 1, [], 0), (69, .iload_n 1, 1, [], 0), (70, .iload_n 2, 1, [], 0), (71, .invokevirtual 130, 3, [117, 3, 0, 8], 0), (74, .iload_n 1, 1, [], 0), (75, .iconst 1, 1, [], 1), (76, .iadd, 1, [], 0), (77, .istore_n 3, 1, [], 0), (78, .aload_n 0, 1, [], 0), (79, .getfield 19, 3, [8, 4], 0), (82, .iconst 1, 1, [], 1), (83, .isub, 1, [], 0), (84, .istore 4, 2, [], 0), (86, .nop, 0, [6], 0)],
  [(86, .iload_n 3, 1, [], 0), (87, .iload 4, 2, [], 0), (89, .if_icmp .ge 19, 3, [7], 0), (92, .aload_n 0, 1, [], 0), (93, .iload_n 3, 1, [], 0), (94, .iload 4, 2, [], 0), (96, .invokevirtual 130, 3, [117, 3, 0, 8], 0), (99, .iinc 3 1, 3, [], 1), (102, .iinc 4 (-1), 3, [], (-1)), (105, .goto (-19), 3, [6], 0)],
  [(108, .iconst 1, 1, [], 1), (109, .ireturn, 1, [1], 0)]]
def kB_X8_change : List (List mIns) := [[(0, .aload_n 0, 1, [], 0), (1, .getfield 38, 3, [8, 18], 0), (4, .iload_n 1, 1, [], 0), (5, .iaload, 1, [], 0), (6, .istore_n 3, 1, [], 0), (7, .aload_n 0, 1, [], 0), (8, .getfield 38, 3, [8, 18], 0), (11, .iload_n 1, 1, [], 0), (12, .aload_n 0, 1, [], 0), (13, .getfield 38, 3, [8, 18], 0), (16, .iload_n 2, 1, [], 0), (17, .iaload, 1, [], 0), (18, .iastore, 1, [], 0), (19, .aload_n 0, 1, [], 0), (20, .getfield 38, 3, [8, 18], 0), (23, .iload_n 2, 1, [], 0), (24, .iload_n 3, 1, [], 0), (25, .iastore, 1, [], 0), (26, .return_, 1, [], 0)]]
def kB_X8_order : List (List mIns) := [[(0, .iload_n 1, 1, [], 0), (1, .iconst 0, 1, [], 0), (2, .iconst 5, 1, [], 5), (3, .invokestatic 58, 3, [88, 3, 1], 0), (6, .ifCond .eq 17, 3, [1], 0), (9, .iload_n 2, 1, [], 0), (10, .iconst (-1), 1, [], (-1)), (11, .aload_n 0, 1, [], 0), (12, .getfield 19, 3, [8, 4], 0), (15, .iconst 1, 1, [], 1), (16, .isub, 1, [], 0), (17, .invokestatic 58, 3, [88, 3, 1], 0), (20, .ifCond .ne 6, 3, [2], 0), (23, .nop, 0, [1], 0)],
  [(23, .bipush (-2), 2, [], (-2)), (25, .ireturn, 1, [0], 0)],
  [(26, .aload_n 0, 1, [], 0), (27, .getfield 19, 3, [8, 4], 0), (30, .bipush 7, 2, [], 7), (32, .if_icmp .le 6, 3, [3], 0), (35, .bipush (-4), 2, [], (-4)), (37, .ireturn, 1, [0], 0)],
  [(38, .aload_n 0, 1, [], 0), (39, .invokevirtual 107, 3, [102, 1, 0, 8], 0), (42, .iconst 0, 1, [], 0), (43, .istore_n 3, 1, [], 0), (44, .nop, 0, [4], 0)],
  [(44, .iload_n 3, 1, [], 0), (45, .aload_n 0, 1, [], 0), (46, .getfield 19, 3, [8, 4], 0), (49, .if_icmp .ge 16, 3, [5], 0), (52, .aload_n 0, 1, [], 0), (53, .getfield 38, 3, [8, 18], 0), (56, .iload_n 3, 1, [], 0), (57, .iload_n 3, 1, [], 0), (58, .iastore, 1, [], 0), (59, .iinc 3 1, 3, [], 1), (62, .goto (-18), 3, [4], 0)],
  [(65, .bipush (-6), 2, [], (-6)), (67, .istore_n 3, 1, [], 0), (68, .bipush (-6), 2, [], (-6)), (70, .istore 4, 2, [], 0), (72, .iconst 1, 1, [], 1), (73, .istore 5, 2, [], 0), (75, .nop, 0, [6], 0)],
  [(75, .iload 5, 2, [], 0), (77, .ifCond .eq 117, 3, [12], 0), (80, .iconst 0, 1, [], 0), (81, .istore 6, 2, [], 0), (83, .nop, 0, [7], 0)],
  [(83, .iload 6, 2, [], 0), (85, .aload_n 0, 1, [], 0), (86, .getfield 19, 3, [8, 4], 0), (89, .if_icmp .ge 32, 3, [8], 0), (92, .aload_n 0, 1, [], 0), (93, .getfield 29, 3, [8, 10], 0), (96, .iconst 3, 1, [], 3), (97, .iload 6, 2, [], 0), (99, .imul, 1, [], 0), (100, .aload_n 0, 1, [], 0), (101, .getfield 23, 3, [8, 5], 0), (104, .iconst 3, 1, [], 3), (105, .aload_n 0, 1, [], 0), (106, .getfield 38, 3, [8, 18], 0), (109, .iload 6, 2, [], 0), (111, .iaload, 1, [], 0), (112, .imul, 1, [], 0), (113, .iaload, 1, [], 0), (114, .iastore, 1, [], 0), (115, .iinc 6 1, 3, [], 1), (118, .goto (-35), 3, [7], 0)],
  [(121, .aload_n 0, 1, [], 0), (122, .iload_n 1, 1, [], 0), (123, .iconst 0, 1, [], 0), (124, .iconst 1, 1, [], 1), (125, .aload_n 0, 1, [], 0), (126, .getfield 19, 3, [8, 4], 0), (129, .ishl, 1, [], 0), (130, .iconst 1, 1, [], 1), (131, .isub, 1, [], 0), (132, .aload_n 0, 1, [], 0), (133, .getfield 7, 3, [8, 0], 0), (136, .iconst 1, 1, [], 1), (137, .iaload, 1, [], 0), (138, .invokevirtual 110, 3, [103, 5, 0, 8], 0), (141, .aload_n 0, 1, [], 0), (142, .getfield 95, 3, [8, 14], 0), (145, .ifCond .ne 40, 3, [11], 0), (148, .aload_n 0, 1, [], 0), (149, .aload_n 0, 1, [], 0), (150, .getfield 92, 3, [8, 13], 0), (153, .invokevirtual 117, 3, [108, 2, 1, 8], 0), (156, .iload_n 3, 1, [], 0), (157, .if_icmp .le 28, 3, [11], 0), (160, .aload_n 0, 1, [], 0), (161, .aload_n 0, 1, [], 0), (162, .getfield 92, 3, [8, 13], 0), (165, .invokevirtual 117, 3, [108, 2, 1, 8], 0), (168, .istore_n 3, 1, [], 0), (169, .iload_n 2, 1, [], 0), (170, .ifCond .ge 7, 3, [9], 0), (173, .iload_n 3, 1, [], 0), (174, .goto 9, 3, [10], 0)],
  [(177, .aload_n 0, 1, [], 0), (178, .getfield 38, 3, [8, 18], 0), (181, .iload_n 2, 1, [], 0), (182, .iaload, 1, [], 0), (183, .nop, 0, [10], 0)],
  [(183, .istore 4, 2, [], 0), (185, .nop, 0, [11], 0)],
  [(185, .aload_n 0, 1, [], 0), (186, .invokevirtual 133, 3, [116, 1, 1, 8], 0), (189, .istore 5, 2, [], 0), (191, .goto (-116), 3, [6], 0)],
  [(194, .iload 4, 2, [], 0), (196, .ireturn, 1, [0], 0)]]
def kB_X8_felt : List (List mIns) := [[(0, .iload_n 1, 1, [], 0), (1, .iconst 0, 1, [], 0), (2, .aload_n 0, 1, [], 0), (3, .getfield 19, 3, [8, 4], 0), (6, .iconst 1, 1, [], 1), (7, .isub, 1, [], 0), (8, .invokestatic 58, 3, [88, 3, 1], 0), (11, .ifCond .ne 5, 3, [1], 0), (14, .iconst (-1), 1, [], (-1)), (15, .ireturn, 1, [0], 0)],
  [(16, .iload_n 2, 1, [], 0), (17, .iconst 0, 1, [], 0), (18, .sipush 1000, 3, [], 1000), (21, .invokestatic 58, 3, [88, 3, 1], 0), (24, .ifCond .eq 14, 3, [2], 0), (27, .iload_n 3, 1, [], 0), (28, .iload_n 2, 1, [], 0), (29, .sipush 1000, 3, [], 1000), (32, .invokestatic 58, 3, [88, 3, 1], 0), (35, .ifCond .ne 6, 3, [3], 0), (38, .nop, 0, [2], 0)],
  [(38, .bipush (-2), 2, [], (-2)), (40, .ireturn, 1, [0], 0)],
  [(41, .aload_n 0, 1, [], 0), (42, .getfield 86, 3, [8, 7], 0), (45, .bipush 6, 2, [], 6), (47, .if_icmp .ne 6, 3, [4], 0), (50, .bipush (-4), 2, [], (-4)), (52, .ireturn, 1, [0], 0)],
  [(53, .aload_n 0, 1, [], 0), (54, .getfield 26, 3, [8, 8], 0), (57, .iconst 3, 1, [], 3), (58, .aload_n 0, 1, [], 0), (59, .getfield 86, 3, [8, 7], 0), (62, .imul, 1, [], 0), (63, .iload_n 1, 1, [], 0), (64, .iastore, 1, [], 0), (65, .aload_n 0, 1, [], 0), (66, .getfield 26, 3, [8, 8], 0), (69, .iconst 3, 1, [], 3), (70, .aload_n 0, 1, [], 0), (71, .getfield 86, 3, [8, 7], 0), (74, .imul, 1, [], 0), (75, .iconst 1, 1, [], 1), (76, .iadd, 1, [], 0), (77, .iload_n 2, 1, [], 0), (78, .iastore, 1, [], 0), (79, .aload_n 0, 1, [], 0), (80, .getfield 26, 3, [8, 8], 0), (83, .iconst 3, 1, [], 3), (84, .aload_n 0, 1, [], 0), (85, .getfield 86, 3, [8, 7], 0), (88, .imul, 1, [], 0), (89, .iconst 2, 1, [], 2), (90, .iadd, 1, [], 0), (91, .iload_n 3, 1, [], 0), (92, .iastore, 1, [], 0), (93, .aload_n 0, 1, [], 0), (94, .dup, 1, [], 0), (95, .getfield 86, 3, [8, 7], 0), (98, .iconst 1, 1, [], 1), (99, .iadd, 1, [], 0), (100, .putfield 86, 3, [8, 7], 0), (103, .aload_n 0, 1, [], 0), (104, .getfield 86, 3, [8, 7], 0), (107, .ireturn, 1, [0], 0)]]
def kB_X8_forget : List (List mIns) := [[(0, .aload_n 0, 1, [], 0), (1, .getfield 86, 3, [8, 7], 0), (4, .istore_n 1, 1, [], 0), (5, .aload_n 0, 1, [], 0), (6, .iconst 0, 1, [], 0), (7, .putfield 86, 3, [8, 7], 0), (10, .iload_n 1, 1, [], 0), (11, .ireturn, 1, [0], 0)]]
def kB_X8_isFelt : List (List mIns) := [[(0, .aload_n 0, 1, [], 0), (1, .iload_n 1, 1, [], 0), (2, .iload_n 2, 1, [], 0), (3, .iload_n 3, 1, [], 0), (4, .aload_n 0, 1, [], 0), (5, .getfield 7, 3, [8, 0], 0), (8, .iconst 1, 1, [], 1), (9, .iaload, 1, [], 0), (10, .invokevirtual 110, 3, [103, 5, 0, 8], 0), (13, .iconst 1, 1, [], 1), (14, .istore 4, 2, [], 0), (16, .iconst 0, 1, [], 0), (17, .istore 5, 2, [], 0), (19, .nop, 0, [1], 0)],
  [(19, .iload 5, 2, [], 0), (21, .aload_n 0, 1, [], 0), (22, .getfield 86, 3, [8, 7], 0), (25, .if_icmp .ge 75, 3, [4], 0), (28, .aload_n 0, 1, [], 0), (29, .getfield 26, 3, [8, 8], 0), (32, .iconst 3, 1, [], 3), (33, .iload 5, 2, [], 0), (35, .imul, 1, [], 0), (36, .iaload, 1, [], 0), (37, .istore 6, 2, [], 0), (39, .iload 4, 2, [], 0), (41, .ifCond .eq 50, 3, [2], 0), (44, .aload_n 0, 1, [], 0), (45, .getfield 35, 3, [8, 12], 0), (48, .iload 6, 2, [], 0), (50, .iaload, 1, [], 0), (51, .aload_n 0, 1, [], 0), (52, .getfield 32, 3, [8, 11], 0), (55, .iload 6, 2, [], 0), (57, .iaload, 1, [], 0), (58, .idiv, 1, [], 0), (59, .aload_n 0, 1, [], 0), (60, .getfield 26, 3, [8, 8], 0), (63, .iconst 3, 1, [], 3), (64, .iload 5, 2, [], 0), (66, .imul, 1, [], 0), (67, .iconst 1, 1, [], 1), (68, .iadd, 1, [], 0), (69, .iaload, 1, [], 0), (70, .aload_n 0, 1, [], 0), (71, .getfield 26, 3, [8, 8], 0), (74, .iconst 3, 1, [], 3), (75, .iload 5, 2, [], 0), (77, .imul, 1, [], 0), (78, .iconst 2, 1, [], 2), (79, .iadd, 1, [], 0), (80, .iaload, 1, [], 0), (81, .invokestatic 58, 3, [88, 3, 1], 0), (84, .ifCond .eq 7, 3, [2], 0), (87, .iconst 1, 1, [], 1), (88, .goto 4, 3, [3], 0)],
  [(91, .iconst 0, 1, [], 0), (92, .nop, 0, [3], 0)],
  [(92, .istore 4, 2, [], 0), (94, .iinc 5 1, 3, [], 1), (97, .goto (-78), 3, [1], 0)],
  [(100, .iload 4, 2, [], 0), (102, .ireturn, 1, [1], 0)]]
def kB_X8_fits : List (List mIns) := [[(0, .aload_n 0, 1, [], 0), (1, .iload_n 1, 1, [], 0), (2, .iconst 0, 1, [], 0), (3, .iload_n 2, 1, [], 0), (4, .invokevirtual 104, 3, [104, 4, 1, 8], 0), (7, .ifCond .ne 6, 3, [1], 0), (10, .bipush (-2), 2, [], (-2)), (12, .ireturn, 1, [0], 0)],
  [(13, .aload_n 0, 1, [], 0), (14, .invokevirtual 107, 3, [102, 1, 0, 8], 0), (17, .iconst 0, 1, [], 0), (18, .istore 4, 2, [], 0), (20, .iconst 0, 1, [], 0), (21, .istore 5, 2, [], 0), (23, .nop, 0, [2], 0)],
  [(23, .iload 5, 2, [], 0), (25, .iconst 1, 1, [], 1), (26, .aload_n 0, 1, [], 0), (27, .getfield 72, 3, [8, 6], 0), (30, .ishl, 1, [], 0), (31, .if_icmp .ge 32, 3, [5], 0), (34, .aload_n 0, 1, [], 0), (35, .iload_n 1, 1, [], 0), (36, .iload 5, 2, [], 0), (38, .iload_n 2, 1, [], 0), (39, .invokevirtual 137, 3, [121, 4, 1, 8], 0), (42, .ifCond .eq 15, 3, [4], 0), (45, .iload 4, 2, [], 0), (47, .iload_n 3, 1, [], 0), (48, .if_icmp .ne 6, 3, [3], 0), (51, .iload 5, 2, [], 0), (53, .ireturn, 1, [0], 0)],
  [(54, .iinc 4 1, 3, [], 1), (57, .nop, 0, [4], 0)],
  [(57, .iinc 5 1, 3, [], 1), (60, .goto (-37), 3, [2], 0)],
  [(63, .iload_n 3, 1, [], 0), (64, .iconst (-1), 1, [], (-1)), (65, .if_icmp .ne 8, 3, [6], 0), (68, .iload 4, 2, [], 0), (70, .goto 5, 3, [7], 0)],
  [(73, .bipush (-6), 2, [], (-6)), (75, .nop, 0, [7], 0)],
  [(75, .ireturn, 1, [0], 0)]]
def kB_X8_door : List (List mIns) := [[(0, .aload_n 0, 1, [], 0), (1, .iload_n 1, 1, [], 0), (2, .iconst 0, 1, [], 0), (3, .iload_n 2, 1, [], 0), (4, .invokevirtual 104, 3, [104, 4, 1, 8], 0), (7, .ifCond .eq 12, 3, [1], 0), (10, .iload_n 3, 1, [], 0), (11, .iconst 0, 1, [], 0), (12, .iconst 1, 1, [], 1), (13, .invokestatic 58, 3, [88, 3, 1], 0), (16, .ifCond .ne 6, 3, [2], 0), (19, .nop, 0, [1], 0)],
  [(19, .bipush (-2), 2, [], (-2)), (21, .ireturn, 1, [0], 0)],
  [(22, .aload_n 0, 1, [], 0), (23, .invokevirtual 107, 3, [102, 1, 0, 8], 0), (26, .bipush (-6), 2, [], (-6)), (28, .istore 4, 2, [], 0), (30, .bipush (-6), 2, [], (-6)), (32, .istore 5, 2, [], 0), (34, .iconst 0, 1, [], 0), (35, .istore 6, 2, [], 0), (37, .nop, 0, [3], 0)],
  [(37, .iload 6, 2, [], 0), (39, .aload_n 0, 1, [], 0), (40, .getfield 19, 3, [8, 4], 0), (43, .if_icmp .ge 191, 3, [18], 0), (46, .iconst 0, 1, [], 0), (47, .istore 7, 2, [], 0), (49, .iconst 0, 1, [], 0), (50, .istore 8, 2, [], 0), (52, .nop, 0, [4], 0)],
  [(52, .iload 8, 2, [], 0), (54, .iconst 1, 1, [], 1), (55, .aload_n 0, 1, [], 0), (56, .getfield 72, 3, [8, 6], 0), (59, .ishl, 1, [], 0), (60, .if_icmp .ge 47, 3, [7], 0), (63, .aload_n 0, 1, [], 0), (64, .getfield 41, 3, [8, 19], 0), (67, .iload 8, 2, [], 0), (69, .aload_n 0, 1, [], 0), (70, .iload_n 1, 1, [], 0), (71, .iload 8, 2, [], 0), (73, .iload_n 2, 1, [], 0), (74, .invokevirtual 137, 3, [121, 4, 1, 8], 0), (77, .ifCond .eq 21, 3, [5], 0), (80, .aload_n 0, 1, [], 0), (81, .getfield 35, 3, [8, 12], 0), (84, .iload 6, 2, [], 0), (86, .iaload, 1, [], 0), (87, .aload_n 0, 1, [], 0), (88, .getfield 32, 3, [8, 11], 0), (91, .iload 6, 2, [], 0), (93, .iaload, 1, [], 0), (94, .idiv, 1, [], 0), (95, .goto 5, 3, [6], 0)],
  [(98, .bipush (-6), 2, [], (-6)), (100, .nop, 0, [6], 0)],
  [(100, .iastore, 1, [], 0), (101, .iinc 8 1, 3, [], 1), (104, .goto (-52), 3, [4], 0)],
  [(107, .iconst 0, 1, [], 0), (108, .istore 8, 2, [], 0), (110, .nop, 0, [8], 0)],
  [(110, .iload 8, 2, [], 0), (112, .iconst 1, 1, [], 1), (113, .aload_n 0, 1, [], 0), (114, .getfield 72, 3, [8, 6], 0), (117, .ishl, 1, [], 0), (118, .if_icmp .ge 85, 3, [15], 0), (121, .iconst 0, 1, [], 0), (122, .istore 9, 2, [], 0), (124, .iconst 0, 1, [], 0), (125, .istore 10, 2, [], 0), (127, .nop, 0, [9], 0)],
  [(127, .iload 10, 2, [], 0), (129, .iconst 1, 1, [], 1), (130, .aload_n 0, 1, [], 0), (131, .getfield 72, 3, [8, 6], 0), (134, .ishl, 1, [], 0), (135, .if_icmp .ge 46, 3, [12], 0), (138, .iload 9, 2, [], 0), (140, .aload_n 0, 1, [], 0), (141, .getfield 41, 3, [8, 19], 0), (144, .iload 8, 2, [], 0), (146, .iaload, 1, [], 0), (147, .ifCond .lt 24, 3, [10], 0), (150, .aload_n 0, 1, [], 0), (151, .getfield 41, 3, [8, 19], 0), (154, .iload 10, 2, [], 0), (156, .iaload, 1, [], 0), (157, .aload_n 0, 1, [], 0), (158, .getfield 41, 3, [8, 19], 0), (161, .iload 8, 2, [], 0), (163, .iaload, 1, [], 0), (164, .if_icmp .ne 7, 3, [10], 0), (167, .iconst 1, 1, [], 1), (168, .goto 4, 3, [11], 0)],
  [(171, .iconst 0, 1, [], 0), (172, .nop, 0, [11], 0)],
  [(172, .iadd, 1, [], 0), (173, .istore 9, 2, [], 0), (175, .iinc 10 1, 3, [], 1), (178, .goto (-51), 3, [9], 0)],
  [(181, .iload 9, 2, [], 0), (183, .iload 7, 2, [], 0), (185, .if_icmp .le 8, 3, [13], 0), (188, .iload 9, 2, [], 0), (190, .goto 5, 3, [14], 0)],
  [(193, .iload 7, 2, [], 0), (195, .nop, 0, [14], 0)],
  [(195, .istore 7, 2, [], 0), (197, .iinc 8 1, 3, [], 1), (200, .goto (-90), 3, [8], 0)],
  [(203, .iload 7, 2, [], 0), (205, .ifCond .le 23, 3, [17], 0), (208, .iload 4, 2, [], 0), (210, .ifCond .lt 10, 3, [16], 0), (213, .iload 7, 2, [], 0), (215, .iload 5, 2, [], 0), (217, .if_icmp .ge 11, 3, [17], 0), (220, .nop, 0, [16], 0)],
  [(220, .iload 6, 2, [], 0), (222, .istore 4, 2, [], 0), (224, .iload 7, 2, [], 0), (226, .istore 5, 2, [], 0), (228, .nop, 0, [17], 0)],
  [(228, .iinc 6 1, 3, [], 1), (231, .goto (-194), 3, [3], 0)],
  [(234, .iload_n 3, 1, [], 0), (235, .ifCond .ne 8, 3, [19], 0), (238, .iload 4, 2, [], 0), (240, .goto 5, 3, [20], 0)],
  [(243, .iload 5, 2, [], 0), (245, .nop, 0, [20], 0)],
  [(245, .ireturn, 1, [0], 0)]]
def kB_X8_winter : List (List mIns) := [[(0, .iload_n 1, 1, [], 0), (1, .iconst 0, 1, [], 0), (2, .sipush 9999, 3, [], 9999), (5, .invokestatic 58, 3, [88, 3, 1], 0), (8, .ifCond .eq 22, 3, [1], 0), (11, .iload_n 2, 1, [], 0), (12, .iconst 1, 1, [], 1), (13, .bipush 30, 2, [], 30), (15, .invokestatic 58, 3, [88, 3, 1], 0), (18, .ifCond .eq 12, 3, [1], 0), (21, .iload_n 3, 1, [], 0), (22, .iconst 0, 1, [], 0), (23, .iconst 1, 1, [], 1), (24, .invokestatic 58, 3, [88, 3, 1], 0), (27, .ifCond .ne 6, 3, [2], 0), (30, .nop, 0, [1], 0)],
  [(30, .bipush (-2), 2, [], (-2)), (32, .ireturn, 1, [0], 0)],
  [(33, .aload_n 0, 1, [], 0), (34, .invokevirtual 107, 3, [102, 1, 0, 8], 0), (37, .iconst 0, 1, [], 0), (38, .istore 4, 2, [], 0), (40, .nop, 0, [3], 0)],
  [(40, .iload 4, 2, [], 0), (42, .bipush 6, 2, [], 6), (44, .if_icmp .ge 33, 3, [6], 0), (47, .aload_n 0, 1, [], 0), (48, .getfield 44, 3, [8, 20], 0), (51, .iload 4, 2, [], 0), (53, .aload_n 0, 1, [], 0), (54, .iload 4, 2, [], 0), (56, .invokevirtual 120, 3, [109, 2, 1, 8], 0), (59, .ifCond .ge 7, 3, [4], 0), (62, .iconst 0, 1, [], 0), (63, .goto 7, 3, [5], 0)],
  [(66, .aload_n 0, 1, [], 0), (67, .getfield 114, 3, [8, 17], 0), (70, .nop, 0, [5], 0)],
  [(70, .iastore, 1, [], 0), (71, .iinc 4 1, 3, [], 1), (74, .goto (-34), 3, [3], 0)],
  [(77, .iload_n 1, 1, [], 0), (78, .istore 4, 2, [], 0), (80, .iconst 0, 1, [], 0), (81, .istore 5, 2, [], 0), (83, .iconst 0, 1, [], 0), (84, .istore 6, 2, [], 0), (86, .iconst 0, 1, [], 0), (87, .istore 7, 2, [], 0), (89, .nop, 0, [7], 0)],
  [(89, .iload 7, 2, [], 0), (91, .iload_n 2, 1, [], 0), (92, .if_icmp .ge 116, 3, [12], 0), (95, .bipush 75, 2, [], 75), (97, .iload 4, 2, [], 0), (99, .imul, 1, [], 0), (100, .bipush 74, 2, [], 74), (102, .iadd, 1, [], 0), (103, .ldc 140, 2, [], 65537), (105, .irem, 1, [], 0), (106, .istore 4, 2, [], 0), (108, .aload_n 0, 1, [], 0), (109, .getfield 7, 3, [8, 0], 0), (112, .iconst 1, 1, [], 1), (113, .iaload, 1, [], 0), (114, .iload 4, 2, [], 0), (116, .sipush 200, 3, [], 200), (119, .irem, 1, [], 0), (120, .isub, 1, [], 0), (121, .istore 8, 2, [], 0), (123, .iconst 0, 1, [], 0), (124, .istore 9, 2, [], 0), (126, .nop, 0, [8], 0)],
  [(126, .iload 9, 2, [], 0), (128, .bipush 6, 2, [], 6), (130, .if_icmp .ge 72, 3, [11], 0), (133, .aload_n 0, 1, [], 0), (134, .iload 9, 2, [], 0), (136, .aload_n 0, 1, [], 0), (137, .getfield 44, 3, [8, 20], 0), (140, .iload 9, 2, [], 0), (142, .iaload, 1, [], 0), (143, .bipush 9, 2, [], 9), (145, .ishr, 1, [], 0), (146, .aload_n 0, 1, [], 0), (147, .getfield 44, 3, [8, 20], 0), (150, .iload 9, 2, [], 0), (152, .iaload, 1, [], 0), (153, .sipush 511, 3, [], 511), (156, .iand, 1, [], 0), (157, .iload 8, 2, [], 0), (159, .ifCond .ge 7, 3, [9], 0), (162, .iconst 0, 1, [], 0), (163, .goto 5, 3, [10], 0)],
  [(166, .iload 8, 2, [], 0), (168, .nop, 0, [10], 0)],
  [(168, .invokevirtual 110, 3, [103, 5, 0, 8], 0), (171, .iload 5, 2, [], 0), (173, .aload_n 0, 1, [], 0), (174, .aload_n 0, 1, [], 0), (175, .getfield 92, 3, [8, 13], 0), (178, .invokevirtual 117, 3, [108, 2, 1, 8], 0), (181, .iadd, 1, [], 0), (182, .istore 5, 2, [], 0), (184, .iload 6, 2, [], 0), (186, .aload_n 0, 1, [], 0), (187, .getfield 95, 3, [8, 14], 0), (190, .invokestatic 123, 3, [90, 1, 1], 0), (193, .iadd, 1, [], 0), (194, .istore 6, 2, [], 0), (196, .iinc 9 1, 3, [], 1), (199, .goto (-73), 3, [8], 0)],
  [(202, .iinc 7 1, 3, [], 1), (205, .goto (-116), 3, [7], 0)],
  [(208, .iload_n 3, 1, [], 0), (209, .ifCond .ne 8, 3, [13], 0), (212, .iload 5, 2, [], 0), (214, .goto 5, 3, [14], 0)],
  [(217, .iload 6, 2, [], 0), (219, .nop, 0, [14], 0)],
  [(219, .ireturn, 1, [0], 0)]]
def kB_X8_image : List (List mIns) := [[(0, .iload_n 1, 1, [], 0), (1, .iconst 0, 1, [], 0), (2, .iconst 1, 1, [], 1), (3, .invokestatic 58, 3, [88, 3, 1], 0), (6, .ifCond .ne 6, 3, [1], 0), (9, .bipush (-2), 2, [], (-2)), (11, .ireturn, 1, [0], 0)],
  [(12, .bipush 80, 2, [], 80), (14, .iload_n 1, 1, [], 0), (15, .imul, 1, [], 0), (16, .istore_n 2, 1, [], 0), (17, .iconst 0, 1, [], 0), (18, .istore_n 3, 1, [], 0), (19, .nop, 0, [2], 0)],
  [(19, .iload_n 3, 1, [], 0), (20, .iconst 5, 1, [], 5), (21, .if_icmp .ge 23, 3, [3], 0), (24, .aload_n 0, 1, [], 0), (25, .getfield 47, 3, [8, 21], 0), (28, .iload_n 2, 1, [], 0), (29, .iload_n 3, 1, [], 0), (30, .iadd, 1, [], 0), (31, .aload_n 0, 1, [], 0), (32, .getfield 7, 3, [8, 0], 0), (35, .iload_n 3, 1, [], 0), (36, .iaload, 1, [], 0), (37, .iastore, 1, [], 0), (38, .iinc 3 1, 3, [], 1), (41, .goto (-22), 3, [2], 0)],
  [(44, .iconst 0, 1, [], 0), (45, .istore_n 3, 1, [], 0), (46, .nop, 0, [4], 0)],
  [(46, .iload_n 3, 1, [], 0), (47, .bipush 30, 2, [], 30), (49, .if_icmp .ge 25, 3, [5], 0), (52, .aload_n 0, 1, [], 0), (53, .getfield 47, 3, [8, 21], 0), (56, .iload_n 2, 1, [], 0), (57, .iconst 5, 1, [], 5), (58, .iadd, 1, [], 0), (59, .iload_n 3, 1, [], 0), (60, .iadd, 1, [], 0), (61, .aload_n 0, 1, [], 0), (62, .getfield 13, 3, [8, 1], 0), (65, .iload_n 3, 1, [], 0), (66, .iaload, 1, [], 0), (67, .iastore, 1, [], 0), (68, .iinc 3 1, 3, [], 1), (71, .goto (-25), 3, [4], 0)],
  [(74, .iconst 0, 1, [], 0), (75, .istore_n 3, 1, [], 0), (76, .nop, 0, [6], 0)],
  [(76, .iload_n 3, 1, [], 0), (77, .bipush 24, 2, [], 24), (79, .if_icmp .ge 26, 3, [7], 0), (82, .aload_n 0, 1, [], 0), (83, .getfield 47, 3, [8, 21], 0), (86, .iload_n 2, 1, [], 0), (87, .bipush 35, 2, [], 35), (89, .iadd, 1, [], 0), (90, .iload_n 3, 1, [], 0), (91, .iadd, 1, [], 0), (92, .aload_n 0, 1, [], 0), (93, .getfield 23, 3, [8, 5], 0), (96, .iload_n 3, 1, [], 0), (97, .iaload, 1, [], 0), (98, .iastore, 1, [], 0), (99, .iinc 3 1, 3, [], 1), (102, .goto (-26), 3, [6], 0)],
  [(105, .iconst 0, 1, [], 0), (106, .istore_n 3, 1, [], 0), (107, .nop, 0, [8], 0)],
  [(107, .iload_n 3, 1, [], 0), (108, .bipush 18, 2, [], 18), (110, .if_icmp .ge 26, 3, [9], 0), (113, .aload_n 0, 1, [], 0), (114, .getfield 47, 3, [8, 21], 0), (117, .iload_n 2, 1, [], 0), (118, .bipush 59, 2, [], 59), (120, .iadd, 1, [], 0), (121, .iload_n 3, 1, [], 0), (122, .iadd, 1, [], 0), (123, .aload_n 0, 1, [], 0), (124, .getfield 26, 3, [8, 8], 0), (127, .iload_n 3, 1, [], 0), (128, .iaload, 1, [], 0), (129, .iastore, 1, [], 0), (130, .iinc 3 1, 3, [], 1), (133, .goto (-26), 3, [8], 0)],
  [(136, .aload_n 0, 1, [], 0), (137, .getfield 47, 3, [8, 21], 0), (140, .iload_n 2, 1, [], 0), (141, .bipush 77, 2, [], 77), (143, .iadd, 1, [], 0), (144, .aload_n 0, 1, [], 0), (145, .getfield 19, 3, [8, 4], 0), (148, .iastore, 1, [], 0), (149, .aload_n 0, 1, [], 0), (150, .getfield 47, 3, [8, 21], 0), (153, .iload_n 2, 1, [], 0), (154, .bipush 78, 2, [], 78), (156, .iadd, 1, [], 0), (157, .aload_n 0, 1, [], 0), (158, .getfield 72, 3, [8, 6], 0), (161, .iastore, 1, [], 0), (162, .aload_n 0, 1, [], 0), (163, .getfield 47, 3, [8, 21], 0), (166, .iload_n 2, 1, [], 0), (167, .bipush 79, 2, [], 79), (169, .iadd, 1, [], 0), (170, .aload_n 0, 1, [], 0), (171, .getfield 86, 3, [8, 7], 0), (174, .iastore, 1, [], 0), (175, .aload_n 0, 1, [], 0), (176, .getfield 50, 3, [8, 22], 0), (179, .iload_n 1, 1, [], 0), (180, .iconst 1, 1, [], 1), (181, .bastore, 1, [], 0), (182, .iconst 1, 1, [], 1), (183, .ireturn, 1, [0], 0)]]
def kB_X8_restore : List (List mIns) := [[(0, .iload_n 1, 1, [], 0), (1, .iconst 0, 1, [], 0), (2, .iconst 1, 1, [], 1), (3, .invokestatic 58, 3, [88, 3, 1], 0), (6, .ifCond .ne 6, 3, [1], 0), (9, .bipush (-2), 2, [], (-2)), (11, .ireturn, 1, [0], 0)],
  [(12, .aload_n 0, 1, [], 0), (13, .getfield 50, 3, [8, 22], 0), (16, .iload_n 1, 1, [], 0), (17, .baload, 1, [], 0), (18, .ifCond .ne 6, 3, [2], 0), (21, .bipush (-3), 2, [], (-3)), (23, .ireturn, 1, [0], 0)],
  [(24, .bipush 80, 2, [], 80), (26, .iload_n 1, 1, [], 0), (27, .imul, 1, [], 0), (28, .istore_n 2, 1, [], 0), (29, .iconst 0, 1, [], 0), (30, .istore_n 3, 1, [], 0), (31, .nop, 0, [3], 0)],
  [(31, .iload_n 3, 1, [], 0), (32, .iconst 5, 1, [], 5), (33, .if_icmp .ge 23, 3, [4], 0), (36, .aload_n 0, 1, [], 0), (37, .getfield 7, 3, [8, 0], 0), (40, .iload_n 3, 1, [], 0), (41, .aload_n 0, 1, [], 0), (42, .getfield 47, 3, [8, 21], 0), (45, .iload_n 2, 1, [], 0), (46, .iload_n 3, 1, [], 0), (47, .iadd, 1, [], 0), (48, .iaload, 1, [], 0), (49, .iastore, 1, [], 0), (50, .iinc 3 1, 3, [], 1), (53, .goto (-22), 3, [3], 0)],
  [(56, .iconst 0, 1, [], 0), (57, .istore_n 3, 1, [], 0), (58, .nop, 0, [5], 0)],
  [(58, .iload_n 3, 1, [], 0), (59, .bipush 30, 2, [], 30), (61, .if_icmp .ge 25, 3, [6], 0), (64, .aload_n 0, 1, [], 0), (65, .getfield 13, 3, [8, 1], 0), (68, .iload_n 3, 1, [], 0), (69, .aload_n 0, 1, [], 0), (70, .getfield 47, 3, [8, 21], 0), (73, .iload_n 2, 1, [], 0), (74, .iconst 5, 1, [], 5), (75, .iadd, 1, [], 0), (76, .iload_n 3, 1, [], 0), (77, .iadd, 1, [], 0), (78, .iaload, 1, [], 0), (79, .iastore, 1, [], 0), (80, .iinc 3 1, 3, [], 1), (83, .goto (-25), 3, [5], 0)],
  [(86, .iconst 0, 1, [], 0), (87, .istore_n 3, 1, [], 0), (88, .nop, 0, [7], 0)],
  [(88, .iload_n 3, 1, [], 0), (89, .bipush 24, 2, [], 24), (91, .if_icmp .ge 26, 3, [8], 0), (94, .aload_n 0, 1, [], 0), (95, .getfield 23, 3, [8, 5], 0), (98, .iload_n 3, 1, [], 0), (99, .aload_n 0, 1, [], 0), (100, .getfield 47, 3, [8, 21], 0), (103, .iload_n 2, 1, [], 0), (104, .bipush 35, 2, [], 35), (106, .iadd, 1, [], 0), (107, .iload_n 3, 1, [], 0), (108, .iadd, 1, [], 0), (109, .iaload, 1, [], 0), (110, .iastore, 1, [], 0), (111, .iinc 3 1, 3, [], 1), (114, .goto (-26), 3, [7], 0)],
  [(117, .iconst 0, 1, [], 0), (118, .istore_n 3, 1, [], 0), (119, .nop, 0, [9], 0)],
  [(119, .iload_n 3, 1, [], 0), (120, .bipush 18, 2, [], 18), (122, .if_icmp .ge 26, 3, [10], 0), (125, .aload_n 0, 1, [], 0), (126, .getfield 26, 3, [8, 8], 0), (129, .iload_n 3, 1, [], 0), (130, .aload_n 0, 1, [], 0), (131, .getfield 47, 3, [8, 21], 0), (134, .iload_n 2, 1, [], 0), (135, .bipush 59, 2, [], 59), (137, .iadd, 1, [], 0), (138, .iload_n 3, 1, [], 0), (139, .iadd, 1, [], 0), (140, .iaload, 1, [], 0), (141, .iastore, 1, [], 0), (142, .iinc 3 1, 3, [], 1), (145, .goto (-26), 3, [9], 0)],
  [(148, .aload_n 0, 1, [], 0), (149, .aload_n 0, 1, [], 0), (150, .getfield 47, 3, [8, 21], 0), (153, .iload_n 2, 1, [], 0), (154, .bipush 77, 2, [], 77), (156, .iadd, 1, [], 0), (157, .iaload, 1, [], 0), (158, .putfield 19, 3, [8, 4], 0), (161, .aload_n 0, 1, [], 0), (162, .aload_n 0, 1, [], 0), (163, .getfield 47, 3, [8, 21], 0), (166, .iload_n 2, 1, [], 0), (167, .bipush 78, 2, [], 78), (169, .iadd, 1, [], 0), (170, .iaload, 1, [], 0), (171, .putfield 72, 3, [8, 6], 0), (174, .aload_n 0, 1, [], 0), (175, .aload_n 0, 1, [], 0), (176, .getfield 47, 3, [8, 21], 0), (179, .iload_n 2, 1, [], 0), (180, .bipush 79, 2, [], 79), (182, .iadd, 1, [], 0), (183, .iaload, 1, [], 0), (184, .putfield 86, 3, [8, 7], 0), (187, .iconst 1, 1, [], 1), (188, .ireturn, 1, [0], 0)]]
def kB_X8_told : List (List mIns) := [[(0, .iload_n 1, 1, [], 0), (1, .bipush 10, 2, [], 10), (3, .irem, 1, [], 0), (4, .istore_n 2, 1, [], 0), (5, .iload_n 1, 1, [], 0), (6, .bipush 10, 2, [], 10), (8, .bipush 14, 2, [], 14), (10, .invokestatic 58, 3, [88, 3, 1], 0), (13, .ifCond .eq 10, 3, [1], 0), (16, .aload_n 0, 1, [], 0), (17, .getfield 7, 3, [8, 0], 0), (20, .iload_n 2, 1, [], 0), (21, .iaload, 1, [], 0), (22, .ireturn, 1, [0], 0)],
  [(23, .iload_n 1, 1, [], 0), (24, .bipush 20, 2, [], 20), (26, .bipush 69, 2, [], 69), (28, .invokestatic 58, 3, [88, 3, 1], 0), (31, .ifCond .eq 29, 3, [2], 0), (34, .iload_n 2, 1, [], 0), (35, .iconst 0, 1, [], 0), (36, .iconst 5, 1, [], 5), (37, .invokestatic 58, 3, [88, 3, 1], 0), (40, .ifCond .eq 20, 3, [2], 0), (43, .aload_n 0, 1, [], 0), (44, .getfield 13, 3, [8, 1], 0), (47, .bipush 6, 2, [], 6), (49, .iload_n 1, 1, [], 0), (50, .bipush 10, 2, [], 10), (52, .idiv, 1, [], 0), (53, .iconst 2, 1, [], 2), (54, .isub, 1, [], 0), (55, .imul, 1, [], 0), (56, .iload_n 2, 1, [], 0), (57, .iadd, 1, [], 0), (58, .iaload, 1, [], 0), (59, .ireturn, 1, [0], 0)],
  [(60, .iload_n 1, 1, [], 0), (61, .ifCond .ne 10, 3, [3], 0), (64, .aload_n 0, 1, [], 0), (65, .getfield 66, 3, [8, 2], 0), (68, .goto 41, 3, [7], 0)],
  [(71, .iload_n 1, 1, [], 0), (72, .iconst 1, 1, [], 1), (73, .if_icmp .ne 10, 3, [4], 0), (76, .aload_n 0, 1, [], 0), (77, .getfield 19, 3, [8, 4], 0), (80, .goto 29, 3, [7], 0)],
  [(83, .iload_n 1, 1, [], 0), (84, .iconst 2, 1, [], 2), (85, .if_icmp .ne 10, 3, [5], 0), (88, .aload_n 0, 1, [], 0), (89, .getfield 72, 3, [8, 6], 0), (92, .goto 17, 3, [7], 0)],
  [(95, .iload_n 1, 1, [], 0), (96, .iconst 3, 1, [], 3), (97, .if_icmp .ne 10, 3, [6], 0), (100, .aload_n 0, 1, [], 0), (101, .getfield 86, 3, [8, 7], 0), (104, .goto 5, 3, [7], 0)],
  [(107, .bipush (-2), 2, [], (-2)), (109, .nop, 0, [7], 0)],
  [(109, .ireturn, 1, [0], 0)]]
def kB_J6_bitCount_0f7a4 : List (List mIns) := [[(0, .iload_n 0, 1, [], 0), (1, .iload_n 0, 1, [], 0), (2, .iconst 1, 1, [], 1), (3, .iushr, 1, [], 0), (4, .ldc_w 265, 3, [], 1431655765), (7, .iand, 1, [], 0), (8, .isub, 1, [], 0), (9, .istore_n 0, 1, [], 0), (10, .iload_n 0, 1, [], 0), (11, .ldc_w 266, 3, [], 858993459), (14, .iand, 1, [], 0), (15, .iload_n 0, 1, [], 0), (16, .iconst 2, 1, [], 2), (17, .iushr, 1, [], 0), (18, .ldc_w 266, 3, [], 858993459), (21, .iand, 1, [], 0), (22, .iadd, 1, [], 0), (23, .istore_n 0, 1, [], 0), (24, .iload_n 0, 1, [], 0), (25, .iload_n 0, 1, [], 0), (26, .iconst 4, 1, [], 4), (27, .iushr, 1, [], 0), (28, .iadd, 1, [], 0), (29, .ldc_w 267, 3, [], 252645135), (32, .iand, 1, [], 0), (33, .istore_n 0, 1, [], 0), (34, .iload_n 0, 1, [], 0), (35, .iload_n 0, 1, [], 0), (36, .bipush 8, 2, [], 8), (38, .iushr, 1, [], 0), (39, .iadd, 1, [], 0), (40, .istore_n 0, 1, [], 0), (41, .iload_n 0, 1, [], 0), (42, .iload_n 0, 1, [], 0), (43, .bipush 16, 2, [], 16), (45, .iushr, 1, [], 0), (46, .iadd, 1, [], 0), (47, .istore_n 0, 1, [], 0), (48, .iload_n 0, 1, [], 0), (49, .bipush 63, 2, [], 63), (51, .iand, 1, [], 0), (52, .ireturn, 1, [0], 0)]]
def kB_L_law : List (List mIns) := [[(0, .new 7, 3, [], 0), (3, .dup, 1, [], 0), (4, .invokespecial 9, 3, [999], 0), (7, .astore_n 1, 1, [], 0), (8, .new 10, 3, [], 0), (11, .dup, 1, [], 0), (12, .invokespecial 12, 3, [999], 0), (15, .astore_n 2, 1, [], 0), (16, .iconst 0, 1, [], 0), (17, .istore_n 3, 1, [], 0), (18, .nop, 0, [1], 0)],
  [(18, .iload_n 3, 1, [], 0), (19, .aload_n 0, 1, [], 0), (20, .arraylength, 1, [], 0), (21, .bipush 6, 2, [], 6), (23, .isub, 1, [], 0), (24, .if_icmp .gt 938, 3, [27], 0), (27, .aload_n 0, 1, [], 0), (28, .iload_n 3, 1, [], 0), (29, .iaload, 1, [], 0), (30, .bipush 31, 2, [], 31), (32, .iand, 1, [], 0), (33, .tableswitch 923 0 23 #[111, 144, 187, 210, 223, 246, 259, 292, 355, 408, 431, 464, 507, 550, 593, 636, 669, 712, 725, 768, 811, 854, 877, 900], 111, [26, 2, 3, 4, 5, 6, 7, 8, 9, 10, 11, 12, 13, 14, 15, 16, 17, 18, 19, 20, 21, 22, 23, 24, 25], 0)],
  [(144, .aload_n 1, 1, [], 0), (145, .aload_n 0, 1, [], 0), (146, .iload_n 3, 1, [], 0), (147, .iconst 1, 1, [], 1), (148, .iadd, 1, [], 0), (149, .iaload, 1, [], 0), (150, .aload_n 0, 1, [], 0), (151, .iload_n 3, 1, [], 0), (152, .iconst 2, 1, [], 2), (153, .iadd, 1, [], 0), (154, .iaload, 1, [], 0), (155, .invokevirtual 13, 3, [46, 3, 1, 7], 0), (158, .aload_n 2, 1, [], 0), (159, .aload_n 0, 1, [], 0), (160, .iload_n 3, 1, [], 0), (161, .iconst 1, 1, [], 1), (162, .iadd, 1, [], 0), (163, .iaload, 1, [], 0), (164, .aload_n 0, 1, [], 0), (165, .iload_n 3, 1, [], 0), (166, .iconst 2, 1, [], 2), (167, .iadd, 1, [], 0), (168, .iaload, 1, [], 0), (169, .invokevirtual 17, 3, [91, 3, 1, 8], 0), (172, .if_icmp .eq 784, 3, [26], 0), (175, .iconst 0, 1, [], 0), (176, .ireturn, 1, [1], 0)],
  [(177, .aload_n 1, 1, [], 0), (178, .aload_n 0, 1, [], 0), (179, .iload_n 3, 1, [], 0), (180, .iconst 1, 1, [], 1), (181, .iadd, 1, [], 0), (182, .iaload, 1, [], 0), (183, .aload_n 0, 1, [], 0), (184, .iload_n 3, 1, [], 0), (185, .iconst 2, 1, [], 2), (186, .iadd, 1, [], 0), (187, .iaload, 1, [], 0), (188, .aload_n 0, 1, [], 0), (189, .iload_n 3, 1, [], 0), (190, .iconst 3, 1, [], 3), (191, .iadd, 1, [], 0), (192, .iaload, 1, [], 0), (193, .invokevirtual 18, 3, [47, 4, 1, 7], 0), (196, .aload_n 2, 1, [], 0), (197, .aload_n 0, 1, [], 0), (198, .iload_n 3, 1, [], 0), (199, .iconst 1, 1, [], 1), (200, .iadd, 1, [], 0), (201, .iaload, 1, [], 0), (202, .aload_n 0, 1, [], 0), (203, .iload_n 3, 1, [], 0), (204, .iconst 2, 1, [], 2), (205, .iadd, 1, [], 0), (206, .iaload, 1, [], 0), (207, .aload_n 0, 1, [], 0), (208, .iload_n 3, 1, [], 0), (209, .iconst 3, 1, [], 3), (210, .iadd, 1, [], 0), (211, .iaload, 1, [], 0), (212, .invokevirtual 22, 3, [93, 4, 1, 8], 0), (215, .if_icmp .eq 741, 3, [26], 0), (218, .iconst 0, 1, [], 0), (219, .ireturn, 1, [1], 0)],
  [(220, .aload_n 1, 1, [], 0), (221, .aload_n 0, 1, [], 0), (222, .iload_n 3, 1, [], 0), (223, .iconst 1, 1, [], 1), (224, .iadd, 1, [], 0), (225, .iaload, 1, [], 0), (226, .invokevirtual 23, 3, [48, 2, 1, 7], 0), (229, .aload_n 2, 1, [], 0), (230, .aload_n 0, 1, [], 0), (231, .iload_n 3, 1, [], 0), (232, .iconst 1, 1, [], 1), (233, .iadd, 1, [], 0), (234, .iaload, 1, [], 0), (235, .invokevirtual 27, 3, [94, 2, 1, 8], 0), (238, .if_icmp .eq 718, 3, [26], 0), (241, .iconst 0, 1, [], 0), (242, .ireturn, 1, [1], 0)],
  [(243, .aload_n 1, 1, [], 0), (244, .invokevirtual 28, 3, [49, 1, 1, 7], 0), (247, .aload_n 2, 1, [], 0), (248, .invokevirtual 32, 3, [95, 1, 1, 8], 0), (251, .if_icmp .eq 705, 3, [26], 0), (254, .iconst 0, 1, [], 0), (255, .ireturn, 1, [1], 0)],
  [(256, .aload_n 1, 1, [], 0), (257, .aload_n 0, 1, [], 0), (258, .iload_n 3, 1, [], 0), (259, .iconst 1, 1, [], 1), (260, .iadd, 1, [], 0), (261, .iaload, 1, [], 0), (262, .invokevirtual 33, 3, [50, 2, 1, 7], 0), (265, .aload_n 2, 1, [], 0), (266, .aload_n 0, 1, [], 0), (267, .iload_n 3, 1, [], 0), (268, .iconst 1, 1, [], 1), (269, .iadd, 1, [], 0), (270, .iaload, 1, [], 0), (271, .invokevirtual 36, 3, [99, 2, 1, 8], 0), (274, .if_icmp .eq 682, 3, [26], 0), (277, .iconst 0, 1, [], 0), (278, .ireturn, 1, [1], 0)],
  [(279, .aload_n 1, 1, [], 0), (280, .invokevirtual 37, 3, [51, 1, 1, 7], 0), (283, .aload_n 2, 1, [], 0), (284, .invokevirtual 40, 3, [100, 1, 1, 8], 0), (287, .if_icmp .eq 669, 3, [26], 0), (290, .iconst 0, 1, [], 0), (291, .ireturn, 1, [1], 0)],
  [(292, .aload_n 1, 1, [], 0), (293, .aload_n 0, 1, [], 0), (294, .iload_n 3, 1, [], 0), (295, .iconst 1, 1, [], 1), (296, .iadd, 1, [], 0), (297, .iaload, 1, [], 0), (298, .aload_n 0, 1, [], 0), (299, .iload_n 3, 1, [], 0), (300, .iconst 2, 1, [], 2), (301, .iadd, 1, [], 0), (302, .iaload, 1, [], 0), (303, .invokevirtual 41, 3, [52, 3, 1, 7], 0), (306, .aload_n 2, 1, [], 0), (307, .aload_n 0, 1, [], 0), (308, .iload_n 3, 1, [], 0), (309, .iconst 1, 1, [], 1), (310, .iadd, 1, [], 0), (311, .iaload, 1, [], 0), (312, .aload_n 0, 1, [], 0), (313, .iload_n 3, 1, [], 0), (314, .iconst 2, 1, [], 2), (315, .iadd, 1, [], 0), (316, .iaload, 1, [], 0), (317, .invokevirtual 44, 3, [101, 3, 1, 8], 0), (320, .if_icmp .eq 636, 3, [26], 0), (323, .iconst 0, 1, [], 0), (324, .ireturn, 1, [1], 0)],
  [(325, .aload_n 1, 1, [], 0), (326, .aload_n 0, 1, [], 0), (327, .iload_n 3, 1, [], 0), (328, .iconst 1, 1, [], 1), (329, .iadd, 1, [], 0), (330, .iaload, 1, [], 0), (331, .aload_n 0, 1, [], 0), (332, .iload_n 3, 1, [], 0), (333, .iconst 2, 1, [], 2), (334, .iadd, 1, [], 0), (335, .iaload, 1, [], 0), (336, .aload_n 0, 1, [], 0), (337, .iload_n 3, 1, [], 0), (338, .iconst 3, 1, [], 3), (339, .iadd, 1, [], 0), (340, .iaload, 1, [], 0), (341, .aload_n 0, 1, [], 0), (342, .iload_n 3, 1, [], 0), (343, .iconst 4, 1, [], 4), (344, .iadd, 1, [], 0), (345, .iaload, 1, [], 0), (346, .aload_n 0, 1, [], 0), (347, .iload_n 3, 1, [], 0), (348, .iconst 5, 1, [], 5), (349, .iadd, 1, [], 0), (350, .iaload, 1, [], 0), (351, .invokevirtual 45, 3, [53, 6, 1, 7], 0), (354, .aload_n 2, 1, [], 0), (355, .aload_n 0, 1, [], 0), (356, .iload_n 3, 1, [], 0), (357, .iconst 1, 1, [], 1), (358, .iadd, 1, [], 0), (359, .iaload, 1, [], 0), (360, .aload_n 0, 1, [], 0), (361, .iload_n 3, 1, [], 0), (362, .iconst 2, 1, [], 2), (363, .iadd, 1, [], 0), (364, .iaload, 1, [], 0), (365, .aload_n 0, 1, [], 0), (366, .iload_n 3, 1, [], 0), (367, .iconst 3, 1, [], 3), (368, .iadd, 1, [], 0), (369, .iaload, 1, [], 0), (370, .aload_n 0, 1, [], 0), (371, .iload_n 3, 1, [], 0), (372, .iconst 4, 1, [], 4), (373, .iadd, 1, [], 0), (374, .iaload, 1, [], 0), (375, .aload_n 0, 1, [], 0), (376, .iload_n 3, 1, [], 0), (377, .iconst 5, 1, [], 5), (378, .iadd, 1, [], 0), (379, .iaload, 1, [], 0), (380, .invokevirtual 49, 3, [105, 6, 1, 8], 0), (383, .if_icmp .eq 573, 3, [26], 0), (386, .iconst 0, 1, [], 0), (387, .ireturn, 1, [1], 0)],
  [(388, .aload_n 1, 1, [], 0), (389, .aload_n 0, 1, [], 0), (390, .iload_n 3, 1, [], 0), (391, .iconst 1, 1, [], 1), (392, .iadd, 1, [], 0), (393, .iaload, 1, [], 0), (394, .aload_n 0, 1, [], 0), (395, .iload_n 3, 1, [], 0), (396, .iconst 2, 1, [], 2), (397, .iadd, 1, [], 0), (398, .iaload, 1, [], 0), (399, .aload_n 0, 1, [], 0), (400, .iload_n 3, 1, [], 0), (401, .iconst 3, 1, [], 3), (402, .iadd, 1, [], 0), (403, .iaload, 1, [], 0), (404, .aload_n 0, 1, [], 0), (405, .iload_n 3, 1, [], 0), (406, .iconst 4, 1, [], 4), (407, .iadd, 1, [], 0), (408, .iaload, 1, [], 0), (409, .invokevirtual 50, 3, [54, 5, 1, 7], 0), (412, .aload_n 2, 1, [], 0), (413, .aload_n 0, 1, [], 0), (414, .iload_n 3, 1, [], 0), (415, .iconst 1, 1, [], 1), (416, .iadd, 1, [], 0), (417, .iaload, 1, [], 0), (418, .aload_n 0, 1, [], 0), (419, .iload_n 3, 1, [], 0), (420, .iconst 2, 1, [], 2), (421, .iadd, 1, [], 0), (422, .iaload, 1, [], 0), (423, .aload_n 0, 1, [], 0), (424, .iload_n 3, 1, [], 0), (425, .iconst 3, 1, [], 3), (426, .iadd, 1, [], 0), (427, .iaload, 1, [], 0), (428, .aload_n 0, 1, [], 0), (429, .iload_n 3, 1, [], 0), (430, .iconst 4, 1, [], 4), (431, .iadd, 1, [], 0), (432, .iaload, 1, [], 0), (433, .invokevirtual 54, 3, [106, 5, 1, 8], 0), (436, .if_icmp .eq 520, 3, [26], 0), (439, .iconst 0, 1, [], 0), (440, .ireturn, 1, [1], 0)],
  [(441, .aload_n 1, 1, [], 0), (442, .aload_n 0, 1, [], 0), (443, .iload_n 3, 1, [], 0), (444, .iconst 1, 1, [], 1), (445, .iadd, 1, [], 0), (446, .iaload, 1, [], 0), (447, .invokevirtual 55, 3, [55, 2, 1, 7], 0), (450, .aload_n 2, 1, [], 0), (451, .aload_n 0, 1, [], 0), (452, .iload_n 3, 1, [], 0), (453, .iconst 1, 1, [], 1), (454, .iadd, 1, [], 0), (455, .iaload, 1, [], 0), (456, .invokevirtual 58, 3, [107, 2, 1, 8], 0), (459, .if_icmp .eq 497, 3, [26], 0), (462, .iconst 0, 1, [], 0), (463, .ireturn, 1, [1], 0)],
  [(464, .aload_n 1, 1, [], 0), (465, .aload_n 0, 1, [], 0), (466, .iload_n 3, 1, [], 0), (467, .iconst 1, 1, [], 1), (468, .iadd, 1, [], 0), (469, .iaload, 1, [], 0), (470, .aload_n 0, 1, [], 0), (471, .iload_n 3, 1, [], 0), (472, .iconst 2, 1, [], 2), (473, .iadd, 1, [], 0), (474, .iaload, 1, [], 0), (475, .invokevirtual 59, 3, [56, 3, 1, 7], 0), (478, .aload_n 2, 1, [], 0), (479, .aload_n 0, 1, [], 0), (480, .iload_n 3, 1, [], 0), (481, .iconst 1, 1, [], 1), (482, .iadd, 1, [], 0), (483, .iaload, 1, [], 0), (484, .aload_n 0, 1, [], 0), (485, .iload_n 3, 1, [], 0), (486, .iconst 2, 1, [], 2), (487, .iadd, 1, [], 0), (488, .iaload, 1, [], 0), (489, .invokevirtual 62, 3, [110, 3, 1, 8], 0), (492, .if_icmp .eq 464, 3, [26], 0), (495, .iconst 0, 1, [], 0), (496, .ireturn, 1, [1], 0)],
  [(497, .aload_n 1, 1, [], 0), (498, .aload_n 0, 1, [], 0), (499, .iload_n 3, 1, [], 0), (500, .iconst 1, 1, [], 1), (501, .iadd, 1, [], 0), (502, .iaload, 1, [], 0), (503, .aload_n 0, 1, [], 0), (504, .iload_n 3, 1, [], 0), (505, .iconst 2, 1, [], 2), (506, .iadd, 1, [], 0), (507, .iaload, 1, [], 0), (508, .aload_n 0, 1, [], 0), (509, .iload_n 3, 1, [], 0), (510, .iconst 3, 1, [], 3), (511, .iadd, 1, [], 0), (512, .iaload, 1, [], 0), (513, .invokevirtual 63, 3, [57, 4, 1, 7], 0), (516, .aload_n 2, 1, [], 0), (517, .aload_n 0, 1, [], 0), (518, .iload_n 3, 1, [], 0), (519, .iconst 1, 1, [], 1), (520, .iadd, 1, [], 0), (521, .iaload, 1, [], 0), (522, .aload_n 0, 1, [], 0), (523, .iload_n 3, 1, [], 0), (524, .iconst 2, 1, [], 2), (525, .iadd, 1, [], 0), (526, .iaload, 1, [], 0), (527, .aload_n 0, 1, [], 0), (528, .iload_n 3, 1, [], 0), (529, .iconst 3, 1, [], 3), (530, .iadd, 1, [], 0), (531, .iaload, 1, [], 0), (532, .invokevirtual 66, 3, [111, 4, 1, 8], 0), (535, .if_icmp .eq 421, 3, [26], 0), (538, .iconst 0, 1, [], 0), (539, .ireturn, 1, [1], 0)],
  [(540, .aload_n 1, 1, [], 0), (541, .aload_n 0, 1, [], 0), (542, .iload_n 3, 1, [], 0), (543, .iconst 1, 1, [], 1), (544, .iadd, 1, [], 0), (545, .iaload, 1, [], 0), (546, .aload_n 0, 1, [], 0), (547, .iload_n 3, 1, [], 0), (548, .iconst 2, 1, [], 2), (549, .iadd, 1, [], 0), (550, .iaload, 1, [], 0), (551, .aload_n 0, 1, [], 0), (552, .iload_n 3, 1, [], 0), (553, .iconst 3, 1, [], 3), (554, .iadd, 1, [], 0), (555, .iaload, 1, [], 0), (556, .invokevirtual 67, 3, [58, 4, 1, 7], 0), (559, .aload_n 2, 1, [], 0), (560, .aload_n 0, 1, [], 0), (561, .iload_n 3, 1, [], 0), (562, .iconst 1, 1, [], 1), (563, .iadd, 1, [], 0), (564, .iaload, 1, [], 0), (565, .aload_n 0, 1, [], 0), (566, .iload_n 3, 1, [], 0), (567, .iconst 2, 1, [], 2), (568, .iadd, 1, [], 0), (569, .iaload, 1, [], 0), (570, .aload_n 0, 1, [], 0), (571, .iload_n 3, 1, [], 0), (572, .iconst 3, 1, [], 3), (573, .iadd, 1, [], 0), (574, .iaload, 1, [], 0), (575, .invokevirtual 70, 3, [112, 4, 1, 8], 0), (578, .if_icmp .eq 378, 3, [26], 0), (581, .iconst 0, 1, [], 0), (582, .ireturn, 1, [1], 0)],
  [(583, .aload_n 1, 1, [], 0), (584, .aload_n 0, 1, [], 0), (585, .iload_n 3, 1, [], 0), (586, .iconst 1, 1, [], 1), (587, .iadd, 1, [], 0), (588, .iaload, 1, [], 0), (589, .aload_n 0, 1, [], 0), (590, .iload_n 3, 1, [], 0), (591, .iconst 2, 1, [], 2), (592, .iadd, 1, [], 0), (593, .iaload, 1, [], 0), (594, .aload_n 0, 1, [], 0), (595, .iload_n 3, 1, [], 0), (596, .iconst 3, 1, [], 3), (597, .iadd, 1, [], 0), (598, .iaload, 1, [], 0), (599, .invokevirtual 71, 3, [59, 4, 1, 7], 0), (602, .aload_n 2, 1, [], 0), (603, .aload_n 0, 1, [], 0), (604, .iload_n 3, 1, [], 0), (605, .iconst 1, 1, [], 1), (606, .iadd, 1, [], 0), (607, .iaload, 1, [], 0), (608, .aload_n 0, 1, [], 0), (609, .iload_n 3, 1, [], 0), (610, .iconst 2, 1, [], 2), (611, .iadd, 1, [], 0), (612, .iaload, 1, [], 0), (613, .aload_n 0, 1, [], 0), (614, .iload_n 3, 1, [], 0), (615, .iconst 3, 1, [], 3), (616, .iadd, 1, [], 0), (617, .iaload, 1, [], 0), (618, .invokevirtual 74, 3, [114, 4, 1, 8], 0), (621, .if_icmp .eq 335, 3, [26], 0), (624, .iconst 0, 1, [], 0), (625, .ireturn, 1, [1], 0)],
  [(626, .aload_n 1, 1, [], 0), (627, .aload_n 0, 1, [], 0), (628, .iload_n 3, 1, [], 0), (629, .iconst 1, 1, [], 1), (630, .iadd, 1, [], 0), (631, .iaload, 1, [], 0), (632, .aload_n 0, 1, [], 0), (633, .iload_n 3, 1, [], 0), (634, .iconst 2, 1, [], 2), (635, .iadd, 1, [], 0), (636, .iaload, 1, [], 0), (637, .aload_n 0, 1, [], 0), (638, .iload_n 3, 1, [], 0), (639, .iconst 3, 1, [], 3), (640, .iadd, 1, [], 0), (641, .iaload, 1, [], 0), (642, .invokevirtual 75, 3, [60, 4, 1, 7], 0), (645, .aload_n 2, 1, [], 0), (646, .aload_n 0, 1, [], 0), (647, .iload_n 3, 1, [], 0), (648, .iconst 1, 1, [], 1), (649, .iadd, 1, [], 0), (650, .iaload, 1, [], 0), (651, .aload_n 0, 1, [], 0), (652, .iload_n 3, 1, [], 0), (653, .iconst 2, 1, [], 2), (654, .iadd, 1, [], 0), (655, .iaload, 1, [], 0), (656, .aload_n 0, 1, [], 0), (657, .iload_n 3, 1, [], 0), (658, .iconst 3, 1, [], 3), (659, .iadd, 1, [], 0), (660, .iaload, 1, [], 0), (661, .invokevirtual 78, 3, [115, 4, 1, 8], 0), (664, .if_icmp .eq 292, 3, [26], 0), (667, .iconst 0, 1, [], 0), (668, .ireturn, 1, [1], 0)],
  [(669, .aload_n 1, 1, [], 0), (670, .aload_n 0, 1, [], 0), (671, .iload_n 3, 1, [], 0), (672, .iconst 1, 1, [], 1), (673, .iadd, 1, [], 0), (674, .iaload, 1, [], 0), (675, .aload_n 0, 1, [], 0), (676, .iload_n 3, 1, [], 0), (677, .iconst 2, 1, [], 2), (678, .iadd, 1, [], 0), (679, .iaload, 1, [], 0), (680, .invokevirtual 79, 3, [61, 3, 1, 7], 0), (683, .aload_n 2, 1, [], 0), (684, .aload_n 0, 1, [], 0), (685, .iload_n 3, 1, [], 0), (686, .iconst 1, 1, [], 1), (687, .iadd, 1, [], 0), (688, .iaload, 1, [], 0), (689, .aload_n 0, 1, [], 0), (690, .iload_n 3, 1, [], 0), (691, .iconst 2, 1, [], 2), (692, .iadd, 1, [], 0), (693, .iaload, 1, [], 0), (694, .invokevirtual 82, 3, [118, 3, 1, 8], 0), (697, .if_icmp .eq 259, 3, [26], 0), (700, .iconst 0, 1, [], 0), (701, .ireturn, 1, [1], 0)],
  [(702, .aload_n 1, 1, [], 0), (703, .aload_n 0, 1, [], 0), (704, .iload_n 3, 1, [], 0), (705, .iconst 1, 1, [], 1), (706, .iadd, 1, [], 0), (707, .iaload, 1, [], 0), (708, .aload_n 0, 1, [], 0), (709, .iload_n 3, 1, [], 0), (710, .iconst 2, 1, [], 2), (711, .iadd, 1, [], 0), (712, .iaload, 1, [], 0), (713, .aload_n 0, 1, [], 0), (714, .iload_n 3, 1, [], 0), (715, .iconst 3, 1, [], 3), (716, .iadd, 1, [], 0), (717, .iaload, 1, [], 0), (718, .invokevirtual 83, 3, [62, 4, 1, 7], 0), (721, .aload_n 2, 1, [], 0), (722, .aload_n 0, 1, [], 0), (723, .iload_n 3, 1, [], 0), (724, .iconst 1, 1, [], 1), (725, .iadd, 1, [], 0), (726, .iaload, 1, [], 0), (727, .aload_n 0, 1, [], 0), (728, .iload_n 3, 1, [], 0), (729, .iconst 2, 1, [], 2), (730, .iadd, 1, [], 0), (731, .iaload, 1, [], 0), (732, .aload_n 0, 1, [], 0), (733, .iload_n 3, 1, [], 0), (734, .iconst 3, 1, [], 3), (735, .iadd, 1, [], 0), (736, .iaload, 1, [], 0), (737, .invokevirtual 86, 3, [119, 4, 1, 8], 0), (740, .if_icmp .eq 216, 3, [26], 0), (743, .iconst 0, 1, [], 0), (744, .ireturn, 1, [1], 0)],
  [(745, .aload_n 1, 1, [], 0), (746, .invokevirtual 87, 3, [63, 1, 1, 7], 0), (749, .aload_n 2, 1, [], 0), (750, .invokevirtual 90, 3, [120, 1, 1, 8], 0), (753, .if_icmp .eq 203, 3, [26], 0), (756, .iconst 0, 1, [], 0), (757, .ireturn, 1, [1], 0)],
  [(758, .aload_n 1, 1, [], 0), (759, .aload_n 0, 1, [], 0), (760, .iload_n 3, 1, [], 0), (761, .iconst 1, 1, [], 1), (762, .iadd, 1, [], 0), (763, .iaload, 1, [], 0), (764, .aload_n 0, 1, [], 0), (765, .iload_n 3, 1, [], 0), (766, .iconst 2, 1, [], 2), (767, .iadd, 1, [], 0), (768, .iaload, 1, [], 0), (769, .aload_n 0, 1, [], 0), (770, .iload_n 3, 1, [], 0), (771, .iconst 3, 1, [], 3), (772, .iadd, 1, [], 0), (773, .iaload, 1, [], 0), (774, .invokevirtual 91, 3, [64, 4, 1, 7], 0), (777, .aload_n 2, 1, [], 0), (778, .aload_n 0, 1, [], 0), (779, .iload_n 3, 1, [], 0), (780, .iconst 1, 1, [], 1), (781, .iadd, 1, [], 0), (782, .iaload, 1, [], 0), (783, .aload_n 0, 1, [], 0), (784, .iload_n 3, 1, [], 0), (785, .iconst 2, 1, [], 2), (786, .iadd, 1, [], 0), (787, .iaload, 1, [], 0), (788, .aload_n 0, 1, [], 0), (789, .iload_n 3, 1, [], 0), (790, .iconst 3, 1, [], 3), (791, .iadd, 1, [], 0), (792, .iaload, 1, [], 0), (793, .invokevirtual 94, 3, [122, 4, 1, 8], 0), (796, .if_icmp .eq 160, 3, [26], 0), (799, .iconst 0, 1, [], 0), (800, .ireturn, 1, [1], 0)],
  [(801, .aload_n 1, 1, [], 0), (802, .aload_n 0, 1, [], 0), (803, .iload_n 3, 1, [], 0), (804, .iconst 1, 1, [], 1), (805, .iadd, 1, [], 0), (806, .iaload, 1, [], 0), (807, .aload_n 0, 1, [], 0), (808, .iload_n 3, 1, [], 0), (809, .iconst 2, 1, [], 2), (810, .iadd, 1, [], 0), (811, .iaload, 1, [], 0), (812, .aload_n 0, 1, [], 0), (813, .iload_n 3, 1, [], 0), (814, .iconst 3, 1, [], 3), (815, .iadd, 1, [], 0), (816, .iaload, 1, [], 0), (817, .invokevirtual 95, 3, [65, 4, 1, 7], 0), (820, .aload_n 2, 1, [], 0), (821, .aload_n 0, 1, [], 0), (822, .iload_n 3, 1, [], 0), (823, .iconst 1, 1, [], 1), (824, .iadd, 1, [], 0), (825, .iaload, 1, [], 0), (826, .aload_n 0, 1, [], 0), (827, .iload_n 3, 1, [], 0), (828, .iconst 2, 1, [], 2), (829, .iadd, 1, [], 0), (830, .iaload, 1, [], 0), (831, .aload_n 0, 1, [], 0), (832, .iload_n 3, 1, [], 0), (833, .iconst 3, 1, [], 3), (834, .iadd, 1, [], 0), (835, .iaload, 1, [], 0), (836, .invokevirtual 98, 3, [123, 4, 1, 8], 0), (839, .if_icmp .eq 117, 3, [26], 0), (842, .iconst 0, 1, [], 0), (843, .ireturn, 1, [1], 0)],
  [(844, .aload_n 1, 1, [], 0), (845, .aload_n 0, 1, [], 0), (846, .iload_n 3, 1, [], 0), (847, .iconst 1, 1, [], 1), (848, .iadd, 1, [], 0), (849, .iaload, 1, [], 0), (850, .aload_n 0, 1, [], 0), (851, .iload_n 3, 1, [], 0), (852, .iconst 2, 1, [], 2), (853, .iadd, 1, [], 0), (854, .iaload, 1, [], 0), (855, .aload_n 0, 1, [], 0), (856, .iload_n 3, 1, [], 0), (857, .iconst 3, 1, [], 3), (858, .iadd, 1, [], 0), (859, .iaload, 1, [], 0), (860, .invokevirtual 99, 3, [66, 4, 1, 7], 0), (863, .aload_n 2, 1, [], 0), (864, .aload_n 0, 1, [], 0), (865, .iload_n 3, 1, [], 0), (866, .iconst 1, 1, [], 1), (867, .iadd, 1, [], 0), (868, .iaload, 1, [], 0), (869, .aload_n 0, 1, [], 0), (870, .iload_n 3, 1, [], 0), (871, .iconst 2, 1, [], 2), (872, .iadd, 1, [], 0), (873, .iaload, 1, [], 0), (874, .aload_n 0, 1, [], 0), (875, .iload_n 3, 1, [], 0), (876, .iconst 3, 1, [], 3), (877, .iadd, 1, [], 0), (878, .iaload, 1, [], 0), (879, .invokevirtual 102, 3, [124, 4, 1, 8], 0), (882, .if_icmp .eq 74, 3, [26], 0), (885, .iconst 0, 1, [], 0), (886, .ireturn, 1, [1], 0)],
  [(887, .aload_n 1, 1, [], 0), (888, .aload_n 0, 1, [], 0), (889, .iload_n 3, 1, [], 0), (890, .iconst 1, 1, [], 1), (891, .iadd, 1, [], 0), (892, .iaload, 1, [], 0), (893, .invokevirtual 103, 3, [67, 2, 1, 7], 0), (896, .aload_n 2, 1, [], 0), (897, .aload_n 0, 1, [], 0), (898, .iload_n 3, 1, [], 0), (899, .iconst 1, 1, [], 1), (900, .iadd, 1, [], 0), (901, .iaload, 1, [], 0), (902, .invokevirtual 106, 3, [125, 2, 1, 8], 0), (905, .if_icmp .eq 51, 3, [26], 0), (908, .iconst 0, 1, [], 0), (909, .ireturn, 1, [1], 0)],
  [(910, .aload_n 1, 1, [], 0), (911, .aload_n 0, 1, [], 0), (912, .iload_n 3, 1, [], 0), (913, .iconst 1, 1, [], 1), (914, .iadd, 1, [], 0), (915, .iaload, 1, [], 0), (916, .invokevirtual 107, 3, [68, 2, 1, 7], 0), (919, .aload_n 2, 1, [], 0), (920, .aload_n 0, 1, [], 0), (921, .iload_n 3, 1, [], 0), (922, .iconst 1, 1, [], 1), (923, .iadd, 1, [], 0), (924, .iaload, 1, [], 0), (925, .invokevirtual 110, 3, [126, 2, 1, 8], 0), (928, .if_icmp .eq 28, 3, [26], 0), (931, .iconst 0, 1, [], 0), (932, .ireturn, 1, [1], 0)],
  [(933, .aload_n 1, 1, [], 0), (934, .aload_n 0, 1, [], 0), (935, .iload_n 3, 1, [], 0), (936, .iconst 1, 1, [], 1), (937, .iadd, 1, [], 0), (938, .iaload, 1, [], 0), (939, .invokevirtual 111, 3, [69, 2, 1, 7], 0), (942, .aload_n 2, 1, [], 0), (943, .aload_n 0, 1, [], 0), (944, .iload_n 3, 1, [], 0), (945, .iconst 1, 1, [], 1), (946, .iadd, 1, [], 0), (947, .iaload, 1, [], 0), (948, .invokevirtual 114, 3, [127, 2, 1, 8], 0), (951, .if_icmp .eq 5, 3, [26], 0), (954, .iconst 0, 1, [], 0), (955, .ireturn, 1, [1], 0)],
  [(956, .iinc 3 6, 3, [], 6), (959, .goto (-941), 3, [1], 0)],
  [(962, .iconst 1, 1, [], 1), (963, .ireturn, 1, [1], 0)]]
/-- name, bytes, locals, type of the answer, own class, how many arguments, kind of the answer -/
def mTab : List (MethodName × ByteArray × Nat × Option FieldType × Nat × Nat × Nat) := [(yX0_litresAt, cX0_litresAt, 2, (some .int), 0, 2, 1),
  (yX0_heatAt, cX0_heatAt, 2, (some .int), 0, 2, 1),
  (yX0_tenthsAt, cX0_tenthsAt, 3, (some .int), 0, 2, 1),
  (yX0_follow, cX0_follow, 10, none, 0, 5, 0),
  (yX0_meetHouse, cX0_meetHouse, 7, (some .int), 0, 6, 1),
  (yX0_worthOfServed, cX0_worthOfServed, 3, (some .int), 0, 1, 1),
  (yX1_add, cX1_add, 4, (some .boolean), 1, 4, 1),
  (yX1_clear, cX1_clear, 2, (some .int), 1, 1, 1),
  (yX1_fitsTo, cX1_fitsTo, 4, (some .boolean), 1, 2, 1),
  (yX1_copyOf, cX1_copyOf, 2, none, 1, 2, 0),
  (yX2_kindOf, cX2_kindOf, 2, (some .int), 2, 2, 1),
  (yX2_lossAheadOf, cX2_lossAheadOf, 2, (some .int), 2, 2, 1),
  (yX2_brookAheadOf, cX2_brookAheadOf, 2, (some .int), 2, 2, 1),
  (yX2_isFull, cX2_isFull, 1, (some .boolean), 2, 1, 1),
  (yX2_houseSets, cX2_houseSets, 1, (some .int), 2, 1, 1),
  (yX2_brookSets, cX2_brookSets, 1, (some .int), 2, 1, 1),
  (yX2_pipeBits, cX2_pipeBits, 3, (some .int), 2, 1, 1),
  (yX2_clear, cX2_clear, 1, none, 2, 1, 0),
  (yX2_addHouse, cX2_addHouse, 4, none, 2, 4, 0),
  (yX2_insertHouse, cX2_insertHouse, 4, none, 2, 3, 0),
  (yX2_coverPipes, cX2_coverPipes, 3, none, 2, 2, 0),
  (yX2_copyOf, cX2_copyOf, 2, none, 2, 2, 0),
  (yX3_search, cX3_search, 2, none, 3, 2, 0),
  (yX3_worthLeft, cX3_worthLeft, 5, (some .int), 3, 2, 1),
  (yX3_descend, cX3_descend, 11, none, 3, 5, 0),
  (yX4_addSign, cX4_addSign, 2, (some .boolean), 4, 2, 1),
  (yX4_clear, cX4_clear, 2, (some .int), 4, 1, 1),
  (yX4_brooksIn, cX4_brooksIn, 2, (some .int), 4, 2, 1),
  (yX4_drawsIn, cX4_drawsIn, 2, (some .int), 4, 2, 1),
  (yX4_readLane, cX4_readLane, 6, (some .int), 4, 1, 1),
  (yX4_readDay, cX4_readDay, 9, (some .int), 4, 2, 1),
  (yX4_keepHour, cX4_keepHour, 4, none, 4, 4, 0),
  (yX4_kindBySign, cX4_kindBySign, 2, (some .int), 4, 1, 1),
  (yX5_forgetPlans, cX5_forgetPlans, 1, none, 5, 1, 0),
  (yX5_improve, cX5_improve, 5, (some .boolean), 5, 2, 1),
  (yX5_sumWorthBehind, cX5_sumWorthBehind, 4, none, 5, 1, 0),
  (yX5_mayWin, cX5_mayWin, 2, (some .boolean), 5, 2, 1),
  (yX5_offer, cX5_offer, 3, none, 5, 3, 0),
  (yX5_descend, cX5_descend, 10, none, 5, 6, 0),
  (yX6_springValue, cX6_springValue, 2, (some .int), 6, 2, 1),
  (yX6_kindValue, cX6_kindValue, 3, (some .int), 6, 3, 1),
  (yX6_isWanting, cX6_isWanting, 3, (some .boolean), 6, 3, 1),
  (yX6_heatBehindPipe, cX6_heatBehindPipe, 5, (some .int), 6, 4, 1),
  (yX6_isHarmed, cX6_isHarmed, 4, (some .boolean), 6, 4, 1),
  (yX6_isServed, cX6_isServed, 5, (some .boolean), 6, 5, 1),
  (yX6_copyOf, cX6_copyOf, 2, none, 6, 2, 0),
  (yX7_spring, cX7_spring, 3, (some .int), 7, 3, 1),
  (yX7_kind, cX7_kind, 4, (some .int), 7, 4, 1),
  (yX7_say, cX7_say, 2, (some .int), 7, 2, 1),
  (yX7_wipe, cX7_wipe, 1, (some .int), 7, 1, 1),
  (yX7_fault, cX7_fault, 2, (some .int), 7, 2, 1),
  (yX7_lane, cX7_lane, 1, (some .int), 7, 1, 1),
  (yX7_house, cX7_house, 3, (some .int), 7, 3, 1),
  (yX7_at, cX7_at, 6, (some .int), 7, 6, 1),
  (yX7_run, cX7_run, 5, (some .int), 7, 5, 1),
  (yX7_judge, cX7_judge, 3, (some .int), 7, 2, 1),
  (yX7_best, cX7_best, 3, (some .int), 7, 3, 1),
  (yX7_moss, cX7_moss, 5, (some .int), 7, 4, 1),
  (yX7_cools, cX7_cools, 5, (some .int), 7, 4, 1),
  (yX7_put, cX7_put, 4, (some .int), 7, 4, 1),
  (yX7_where, cX7_where, 5, (some .int), 7, 4, 1),
  (yX7_order, cX7_order, 3, (some .int), 7, 3, 1),
  (yX7_felt, cX7_felt, 4, (some .int), 7, 4, 1),
  (yX7_forget, cX7_forget, 1, (some .int), 7, 1, 1),
  (yX7_fits, cX7_fits, 5, (some .int), 7, 4, 1),
  (yX7_door, cX7_door, 9, (some .int), 7, 4, 1),
  (yX7_winter, cX7_winter, 10, (some .int), 7, 4, 1),
  (yX7_image, cX7_image, 2, (some .int), 7, 2, 1),
  (yX7_restore, cX7_restore, 2, (some .int), 7, 2, 1),
  (yX7_told, cX7_told, 3, (some .int), 7, 2, 1),
  (yX7_isNoHour, cX7_isNoHour, 1, (some .boolean), 7, 1, 1),
  (yX7_isNoKind, cX7_isNoKind, 1, (some .boolean), 7, 1, 1),
  (yX7_isNoHouse, cX7_isNoHouse, 2, (some .boolean), 7, 2, 1),
  (yX7_areNoBrooks, cX7_areNoBrooks, 2, (some .boolean), 7, 2, 1),
  (yX7_areNoDraws, cX7_areNoDraws, 2, (some .boolean), 7, 2, 1),
  (yX7_imageOf, cX7_imageOf, 2, (some (.object "HeatDown$Valley")), 7, 2, 2),
  (yX7_planAsItIs, cX7_planAsItIs, 2, none, 7, 2, 0),
  (yX7_searchMoss, cX7_searchMoss, 8, (some .int), 7, 3, 1),
  (yX7_searchPlace, cX7_searchPlace, 5, (some .int), 7, 3, 1),
  (yX7_gatherFitting, cX7_gatherFitting, 6, (some .int), 7, 3, 1),
  (yX7_mostAlike, cX7_mostAlike, 8, (some .int), 7, 3, 1),
  (yX7_cell, cX7_cell, 2, (some .int), 7, 2, 1),
  (yX7_setCell, cX7_setCell, 3, none, 7, 3, 0),
  (yX7_exchange, cX7_exchange, 4, (some .int), 7, 3, 1),
  (yX7_copyRow, cX7_copyRow, 3, none, 7, 2, 0),
  (yX7_hasBit, cX7_hasBit, 2, (some .boolean), 7, 2, 1),
  (yX7_lowestBit, cX7_lowestBit, 2, (some .int), 7, 1, 1),
  (yX8_layKind, cX8_layKind, 6, none, 8, 6, 0),
  (yX8_in, cX8_in, 3, (some .boolean), 8, 3, 1),
  (yX8_has, cX8_has, 2, (some .boolean), 8, 2, 1),
  (yX8_bits, cX8_bits, 3, (some .int), 8, 1, 1),
  (yX8_spring, cX8_spring, 6, (some .int), 8, 3, 1),
  (yX8_mostOf, cX8_mostOf, 1, (some .int), 8, 1, 1),
  (yX8_kind, cX8_kind, 5, (some .int), 8, 4, 1),
  (yX8_say, cX8_say, 2, (some .int), 8, 2, 1),
  (yX8_wipe, cX8_wipe, 2, (some .int), 8, 1, 1),
  (yX8_kindOf, cX8_kindOf, 1, (some .int), 8, 1, 1),
  (yX8_laneFault, cX8_laneFault, 9, (some .int), 8, 1, 1),
  (yX8_dayFault, cX8_dayFault, 8, (some .int), 8, 1, 1),
  (yX8_fault, cX8_fault, 2, (some .int), 8, 2, 1),
  (yX8_lane, cX8_lane, 5, (some .int), 8, 1, 1),
  (yX8_house, cX8_house, 3, (some .int), 8, 3, 1),
  (yX8_asLane, cX8_asLane, 2, none, 8, 1, 0),
  (yX8_go, cX8_go, 14, none, 8, 5, 0),
  (yX8_areBits, cX8_areBits, 4, (some .boolean), 8, 4, 1),
  (yX8_at, cX8_at, 6, (some .int), 8, 6, 1),
  (yX8_run, cX8_run, 5, (some .int), 8, 5, 1),
  (yX8_judge, cX8_judge, 8, (some .int), 8, 2, 1),
  (yX8_worthOf, cX8_worthOf, 4, (some .int), 8, 2, 1),
  (yX8_layBest, cX8_layBest, 5, (some .int), 8, 2, 1),
  (yX8_best, cX8_best, 4, (some .int), 8, 3, 1),
  (yX8_moss, cX8_moss, 8, (some .int), 8, 4, 1),
  (yX8_cools, cX8_cools, 5, (some .int), 8, 4, 1),
  (yX8_putAt, cX8_putAt, 4, none, 8, 3, 0),
  (yX8_put, cX8_put, 4, (some .int), 8, 4, 1),
  (yX8_where, cX8_where, 8, (some .int), 8, 4, 1),
  (yX8_nextOrder, cX8_nextOrder, 5, (some .boolean), 8, 1, 1),
  (yX8_change, cX8_change, 4, none, 8, 3, 0),
  (yX8_order, cX8_order, 7, (some .int), 8, 3, 1),
  (yX8_felt, cX8_felt, 4, (some .int), 8, 4, 1),
  (yX8_forget, cX8_forget, 2, (some .int), 8, 1, 1),
  (yX8_isFelt, cX8_isFelt, 7, (some .boolean), 8, 4, 1),
  (yX8_fits, cX8_fits, 6, (some .int), 8, 4, 1),
  (yX8_door, cX8_door, 11, (some .int), 8, 4, 1),
  (yX8_winter, cX8_winter, 10, (some .int), 8, 4, 1),
  (yX8_image, cX8_image, 4, (some .int), 8, 2, 1),
  (yX8_restore, cX8_restore, 4, (some .int), 8, 2, 1),
  (yX8_told, cX8_told, 3, (some .int), 8, 2, 1),
  (yJ6_bitCount_0f7a4, cJ6_bitCount_0f7a4, 1, (some .int), 10, 1, 1),
  (yL_law, cL_law, 4, (some .boolean), 9, 1, 1)]
def mBs : List (List (List mIns)) := [kB_X0_litresAt, kB_X0_heatAt, kB_X0_tenthsAt, kB_X0_follow, kB_X0_meetHouse, kB_X0_worthOfServed, kB_X1_add, kB_X1_clear, kB_X1_fitsTo, kB_X1_copyOf, kB_X2_kindOf, kB_X2_lossAheadOf, kB_X2_brookAheadOf, kB_X2_isFull, kB_X2_houseSets, kB_X2_brookSets, kB_X2_pipeBits, kB_X2_clear, kB_X2_addHouse, kB_X2_insertHouse, kB_X2_coverPipes, kB_X2_copyOf, kB_X3_search, kB_X3_worthLeft, kB_X3_descend, kB_X4_addSign, kB_X4_clear, kB_X4_brooksIn, kB_X4_drawsIn, kB_X4_readLane, kB_X4_readDay, kB_X4_keepHour, kB_X4_kindBySign, kB_X5_forgetPlans, kB_X5_improve, kB_X5_sumWorthBehind, kB_X5_mayWin, kB_X5_offer, kB_X5_descend, kB_X6_springValue, kB_X6_kindValue, kB_X6_isWanting, kB_X6_heatBehindPipe, kB_X6_isHarmed, kB_X6_isServed, kB_X6_copyOf, kB_X7_spring, kB_X7_kind, kB_X7_say, kB_X7_wipe, kB_X7_fault, kB_X7_lane, kB_X7_house, kB_X7_at, kB_X7_run, kB_X7_judge, kB_X7_best, kB_X7_moss, kB_X7_cools, kB_X7_put, kB_X7_where, kB_X7_order, kB_X7_felt, kB_X7_forget, kB_X7_fits, kB_X7_door, kB_X7_winter, kB_X7_image, kB_X7_restore, kB_X7_told, kB_X7_isNoHour, kB_X7_isNoKind, kB_X7_isNoHouse, kB_X7_areNoBrooks, kB_X7_areNoDraws, kB_X7_imageOf, kB_X7_planAsItIs, kB_X7_searchMoss, kB_X7_searchPlace, kB_X7_gatherFitting, kB_X7_mostAlike, kB_X7_cell, kB_X7_setCell, kB_X7_exchange, kB_X7_copyRow, kB_X7_hasBit, kB_X7_lowestBit, kB_X8_layKind, kB_X8_in, kB_X8_has, kB_X8_bits, kB_X8_spring, kB_X8_mostOf, kB_X8_kind, kB_X8_say, kB_X8_wipe, kB_X8_kindOf, kB_X8_laneFault, kB_X8_dayFault, kB_X8_fault, kB_X8_lane, kB_X8_house, kB_X8_asLane, kB_X8_go, kB_X8_areBits, kB_X8_at, kB_X8_run, kB_X8_judge, kB_X8_worthOf, kB_X8_layBest, kB_X8_best, kB_X8_moss, kB_X8_cools, kB_X8_putAt, kB_X8_put, kB_X8_where, kB_X8_nextOrder, kB_X8_change, kB_X8_order, kB_X8_felt, kB_X8_forget, kB_X8_isFelt, kB_X8_fits, kB_X8_door, kB_X8_winter, kB_X8_image, kB_X8_restore, kB_X8_told, kB_J6_bitCount_0f7a4, kB_L_law]
def mB (z : Nat) : List (List mIns) := mBs.getD z []
def mNL (z : Nat) : Nat := match mTab[z]? with
  | some q => q.2.2.1
  | none => 0
def mOwn (i : Nat) : String := match i with
  | 0 => RX0
  | 1 => RX1
  | 2 => RX2
  | 3 => RX3
  | 4 => RX4
  | 5 => RX5
  | 6 => RX6
  | 7 => RX7
  | 8 => RX8
  | 9 => RL
  | 10 => RJ6
  | _ => RJ9
def mFl : List (Nat × Nat × Nat × Nat) := [(7, 10, 7, 0), (7, 19, 7, 1), (7, 23, 7, 2), (7, 26, 7, 3), (7, 29, 7, 4), (7, 38, 7, 5), (7, 45, 7, 6), (7, 52, 7, 7), (7, 56, 7, 8), (7, 60, 7, 9), (7, 63, 6, 2), (7, 83, 6, 0), (7, 97, 6, 1), (7, 103, 4, 0), (7, 117, 4, 1), (7, 124, 6, 3), (7, 131, 2, 0), (7, 169, 0, 0), (7, 172, 0, 1), (7, 175, 0, 3), (7, 178, 0, 4), (7, 187, 0, 2), (7, 197, 5, 1), (7, 200, 5, 2), (7, 203, 5, 3), (7, 217, 5, 0), (7, 233, 3, 0), (7, 234, 3, 1), (7, 241, 1, 0), (7, 275, 2, 1), (0, 9, 0, 0), (0, 15, 0, 1), (0, 21, 0, 3), (0, 24, 0, 4), (0, 27, 0, 6), (0, 31, 0, 7), (0, 34, 0, 5), (0, 49, 6, 2), (0, 58, 2, 0), (1, 9, 1, 0), (1, 15, 1, 1), (1, 19, 1, 2), (1, 22, 1, 3), (2, 9, 2, 0), (2, 15, 2, 1), (2, 18, 2, 2), (2, 22, 2, 3), (2, 25, 2, 4), (3, 9, 3, 0), (3, 15, 3, 1), (3, 19, 3, 3), (3, 22, 3, 4), (3, 25, 3, 2), (3, 39, 6, 2), (3, 43, 2, 0), (4, 9, 4, 0), (4, 18, 4, 1), (4, 22, 4, 2), (4, 26, 4, 3), (4, 29, 4, 4), (4, 55, 2, 1), (4, 58, 2, 0), (5, 12, 5, 0), (5, 18, 5, 1), (5, 22, 5, 2), (5, 25, 5, 3), (5, 28, 5, 5), (5, 31, 5, 6), (5, 34, 5, 7), (5, 38, 5, 4), (5, 59, 2, 0), (6, 18, 6, 0), (6, 26, 6, 1), (6, 32, 6, 2), (6, 39, 6, 3), (8, 7, 8, 0), (8, 13, 8, 1), (8, 16, 8, 3), (8, 19, 8, 4), (8, 23, 8, 5), (8, 26, 8, 8), (8, 29, 8, 10), (8, 32, 8, 11), (8, 35, 8, 12), (8, 38, 8, 18), (8, 41, 8, 19), (8, 44, 8, 20), (8, 47, 8, 21), (8, 50, 8, 22), (8, 66, 8, 2), (8, 72, 8, 6), (8, 86, 8, 7), (8, 89, 8, 9), (8, 92, 8, 13), (8, 95, 8, 14), (8, 98, 8, 15), (8, 101, 8, 16), (8, 114, 8, 17), (0, 18, 0, 2)]
def mSl : List (Nat × Nat × Nat × Bool) := [(7, 73, 1, false), (7, 80, 2, false), (7, 94, 4, false), (4, 69, 5, true)]
def mKl : List (Nat × Nat × Int32) := [(7, 248, 65537), (8, 140, 65537), (10, 265, 1431655765), (10, 266, 858993459), (10, 267, 252645135)]
def mSc : List (Nat × Nat × Nat × Bool) := [(7, 76, 81, false), (7, 86, 83, false), (7, 90, 71, false), (7, 147, 70, false), (7, 190, 86, false), (7, 257, 128, false), (7, 268, 85, false), (7, 297, 82, false), (0, 38, 81, true), (0, 73, 85, true), (0, 77, 82, true), (1, 25, 82, true), (1, 29, 81, true), (1, 39, 84, true), (2, 28, 81, true), (2, 40, 82, true), (2, 44, 85, true), (2, 48, 84, true), (3, 35, 24, false), (3, 51, 85, true), (3, 65, 84, true), (3, 84, 82, true), (4, 32, 82, true), (4, 36, 81, true), (4, 43, 32, false), (4, 65, 85, true), (5, 55, 38, false), (5, 62, 82, true), (5, 81, 81, true), (5, 99, 85, true), (6, 43, 81, true), (6, 51, 85, true), (6, 64, 84, true), (8, 58, 88, false), (8, 62, 92, false), (8, 69, 96, false), (8, 75, 89, false), (8, 123, 90, false)]
def mXl : List (Nat × Nat × Nat) := [(7, 249, 0), (7, 287, 1), (6, 59, 0)]
def mVc : List (Nat × Nat × Nat) := [(7, 100, 25), (7, 106, 26), (7, 110, 29), (7, 113, 30), (7, 120, 21), (7, 128, 7), (7, 134, 72), (7, 137, 10), (7, 141, 11), (7, 144, 12), (7, 150, 73), (7, 153, 74), (7, 156, 39), (7, 159, 3), (7, 163, 0), (7, 166, 1), (7, 181, 27), (7, 184, 28), (7, 193, 76), (7, 206, 77), (7, 210, 13), (7, 214, 33), (7, 220, 19), (7, 224, 34), (7, 227, 78), (7, 230, 22), (7, 237, 6), (7, 242, 79), (7, 245, 80), (7, 254, 5), (7, 262, 75), (7, 266, 45), (7, 272, 40), (7, 278, 15), (7, 281, 14), (7, 284, 16), (7, 290, 20), (7, 293, 8), (7, 301, 2), (0, 42, 0), (0, 46, 1), (0, 55, 39), (0, 63, 11), (0, 66, 42), (0, 70, 12), (0, 81, 4), (0, 85, 10), (0, 88, 43), (0, 92, 44), (0, 96, 40), (1, 33, 2), (2, 32, 11), (2, 36, 13), (3, 29, 39), (3, 48, 10), (3, 55, 41), (3, 58, 40), (3, 62, 23), (3, 69, 11), (3, 72, 42), (3, 76, 43), (3, 80, 44), (4, 40, 17), (4, 47, 13), (4, 51, 18), (4, 61, 31), (5, 42, 39), (5, 48, 35), (5, 51, 15), (5, 66, 10), (5, 69, 41), (5, 73, 40), (5, 77, 37), (5, 85, 36), (5, 89, 11), (5, 92, 42), (5, 96, 12), (5, 102, 43), (5, 106, 44), (6, 47, 40), (6, 55, 39), (6, 68, 21), (6, 72, 9), (9, 13, 46), (9, 17, 91), (9, 18, 47), (9, 22, 93), (9, 23, 48), (9, 27, 94), (9, 28, 49), (9, 32, 95), (9, 33, 50), (9, 36, 99), (9, 37, 51), (9, 40, 100), (9, 41, 52), (9, 44, 101), (9, 45, 53), (9, 49, 105), (9, 50, 54), (9, 54, 106), (9, 55, 55), (9, 58, 107), (9, 59, 56), (9, 62, 110), (9, 63, 57), (9, 66, 111), (9, 67, 58), (9, 70, 112), (9, 71, 59), (9, 74, 114), (9, 75, 60), (9, 78, 115), (9, 79, 61), (9, 82, 118), (9, 83, 62), (9, 86, 119), (9, 87, 63), (9, 90, 120), (9, 91, 64), (9, 94, 122), (9, 95, 65), (9, 98, 123), (9, 99, 66), (9, 102, 124), (9, 103, 67), (9, 106, 125), (9, 107, 68), (9, 110, 126), (9, 111, 69), (9, 114, 127), (8, 79, 97), (8, 83, 98), (8, 104, 104), (8, 107, 102), (8, 110, 103), (8, 117, 108), (8, 120, 109), (8, 126, 113), (8, 130, 117), (8, 133, 116), (8, 137, 121)]
end
section
def mNest : Cond → Bool
  | .fieldLinkNest .. => true
  | .methodLinkNest .. => true
  | _ => false
def gT : List Cond := lw_tbl.filter goodWord
def nT : List Cond := lw_tbl.filter mNest
theorem gT_at {i : Nat} {w : Cond} (h : lw_tbl[i]? = some w) (g : goodWord w = true) : w ∈ gT := List.mem_filter.mpr ⟨List.mem_of_getElem? h, g⟩
theorem nT_at {i : Nat} {w : Cond} (h : lw_tbl[i]? = some w) (g : mNest w = true) : w ∈ nT := List.mem_filter.mpr ⟨List.mem_of_getElem? h, g⟩
def okF (e : Nat × Nat × Nat × Nat) : Prop := match vwCl[e.2.2.1]? with
  | some q => e.2.2.2 < q.2.2 ∧ Cond.fieldLink (mOwn e.1) e.2.1 (q.2.1 e.2.2.2).1 (q.2.1 e.2.2.2).2.1 (q.2.1 e.2.2.2).2.2.1 ∈ gT
  | none => False
def okS (e : Nat × Nat × Nat × Bool) : Prop := match mStT[e.2.2.1]? with
  | some q => if e.2.2.2 then Cond.fieldLinkNest (mOwn e.1) e.2.1 q.1 q.2.1 "[I" "HeatDown" ∈ nT else Cond.fieldLink (mOwn e.1) e.2.1 q.1 q.2.1 "[I" ∈ gT
  | none => False
def okK (e : Nat × Nat × Int32) : Prop := Cond.constant (mOwn e.1) e.2.1 e.2.2 ∈ gT
def okSc (e : Nat × Nat × Nat × Bool) : Prop := match mTab[e.2.2.1]? with
  | some q => (if e.2.2.2 then Cond.methodLinkNest (mOwn e.1) e.2.1 q.1 "HeatDown" ∈ nT else Cond.methodLink (mOwn e.1) e.2.1 q.1 ∈ gT) ∧ Cond.static q.1 ∈ gT
  | none => False
def okVc (e : Nat × Nat × Nat) : Prop := match mTab[e.2.2]? with
  | some q => Cond.methodLink (mOwn e.1) e.2.1 q.1 ∈ gT ∧ Cond.instanceMethod q.1 ∈ gT ∧ Cond.selects q.1.cls q.1 q.1 ∈ gT
  | none => False
/-- a method that may be called: its code stands in the tables, its class is ready -/
def okMt (q : MethodName × ByteArray × Nat × Option FieldType × Nat × Nat × Nat) : Prop := Cond.code q.1 q.2.1 q.2.2.1 q.2.2.2.1 ∈ gT ∧ Cond.initialized q.1.cls ∈ gT ∧ mOwn q.2.2.2.2.1 = q.1.cls ∧ plainName q.1.cls = true ∧ q.1.cls ≠ "java/lang/invoke/MethodHandle" ∧ q.1.cls ≠ "java/lang/invoke/VarHandle"
theorem okF_0 : okF (7, 10, 7, 0) := ⟨by decide, gT_at (i := 267) (by decide +kernel) rfl⟩
theorem okF_1 : okF (7, 19, 7, 1) := ⟨by decide, gT_at (i := 268) (by decide +kernel) rfl⟩
theorem okF_2 : okF (7, 23, 7, 2) := ⟨by decide, gT_at (i := 269) (by decide +kernel) rfl⟩
theorem okF_3 : okF (7, 26, 7, 3) := ⟨by decide, gT_at (i := 270) (by decide +kernel) rfl⟩
theorem okF_4 : okF (7, 29, 7, 4) := ⟨by decide, gT_at (i := 271) (by decide +kernel) rfl⟩
theorem okF_5 : okF (7, 38, 7, 5) := ⟨by decide, gT_at (i := 272) (by decide +kernel) rfl⟩
theorem okF_6 : okF (7, 45, 7, 6) := ⟨by decide, gT_at (i := 273) (by decide +kernel) rfl⟩
theorem okF_7 : okF (7, 52, 7, 7) := ⟨by decide, gT_at (i := 274) (by decide +kernel) rfl⟩
theorem okF_8 : okF (7, 56, 7, 8) := ⟨by decide, gT_at (i := 275) (by decide +kernel) rfl⟩
theorem okF_9 : okF (7, 60, 7, 9) := ⟨by decide, gT_at (i := 276) (by decide +kernel) rfl⟩
theorem okF_10 : okF (7, 63, 6, 2) := ⟨by decide, gT_at (i := 145) (by decide +kernel) rfl⟩
theorem okF_11 : okF (7, 83, 6, 0) := ⟨by decide, gT_at (i := 141) (by decide +kernel) rfl⟩
theorem okF_12 : okF (7, 97, 6, 1) := ⟨by decide, gT_at (i := 143) (by decide +kernel) rfl⟩
theorem okF_13 : okF (7, 103, 4, 0) := ⟨by decide, gT_at (i := 84) (by decide +kernel) rfl⟩
theorem okF_14 : okF (7, 117, 4, 1) := ⟨by decide, gT_at (i := 86) (by decide +kernel) rfl⟩
theorem okF_15 : okF (7, 124, 6, 3) := ⟨by decide, gT_at (i := 149) (by decide +kernel) rfl⟩
theorem okF_16 : okF (7, 131, 2, 0) := ⟨by decide, gT_at (i := 64) (by decide +kernel) rfl⟩
theorem okF_17 : okF (7, 169, 0, 0) := ⟨by decide, gT_at (i := 166) (by decide +kernel) rfl⟩
theorem okF_18 : okF (7, 172, 0, 1) := ⟨by decide, gT_at (i := 168) (by decide +kernel) rfl⟩
theorem okF_19 : okF (7, 175, 0, 3) := ⟨by decide, gT_at (i := 172) (by decide +kernel) rfl⟩
theorem okF_20 : okF (7, 178, 0, 4) := ⟨by decide, gT_at (i := 174) (by decide +kernel) rfl⟩
theorem okF_21 : okF (7, 187, 0, 2) := ⟨by decide, gT_at (i := 170) (by decide +kernel) rfl⟩
theorem okF_22 : okF (7, 197, 5, 1) := ⟨by decide, gT_at (i := 206) (by decide +kernel) rfl⟩
theorem okF_23 : okF (7, 200, 5, 2) := ⟨by decide, gT_at (i := 208) (by decide +kernel) rfl⟩
theorem okF_24 : okF (7, 203, 5, 3) := ⟨by decide, gT_at (i := 210) (by decide +kernel) rfl⟩
theorem okF_25 : okF (7, 217, 5, 0) := ⟨by decide, gT_at (i := 204) (by decide +kernel) rfl⟩
theorem okF_26 : okF (7, 233, 3, 0) := ⟨by decide, gT_at (i := 239) (by decide +kernel) rfl⟩
theorem okF_27 : okF (7, 234, 3, 1) := ⟨by decide, gT_at (i := 241) (by decide +kernel) rfl⟩
theorem okF_28 : okF (7, 241, 1, 0) := ⟨by decide, gT_at (i := 127) (by decide +kernel) rfl⟩
theorem okF_29 : okF (7, 275, 2, 1) := ⟨by decide, gT_at (i := 67) (by decide +kernel) rfl⟩
theorem okF_30 : okF (0, 9, 0, 0) := ⟨by decide, gT_at (i := 165) (by decide +kernel) rfl⟩
theorem okF_31 : okF (0, 15, 0, 1) := ⟨by decide, gT_at (i := 167) (by decide +kernel) rfl⟩
theorem okF_32 : okF (0, 21, 0, 3) := ⟨by decide, gT_at (i := 171) (by decide +kernel) rfl⟩
theorem okF_33 : okF (0, 24, 0, 4) := ⟨by decide, gT_at (i := 173) (by decide +kernel) rfl⟩
theorem okF_34 : okF (0, 27, 0, 6) := ⟨by decide, gT_at (i := 176) (by decide +kernel) rfl⟩
theorem okF_35 : okF (0, 31, 0, 7) := ⟨by decide, gT_at (i := 177) (by decide +kernel) rfl⟩
theorem okF_36 : okF (0, 34, 0, 5) := ⟨by decide, gT_at (i := 175) (by decide +kernel) rfl⟩
theorem okF_37 : okF (0, 49, 6, 2) := ⟨by decide, gT_at (i := 147) (by decide +kernel) rfl⟩
theorem okF_38 : okF (0, 58, 2, 0) := ⟨by decide, gT_at (i := 62) (by decide +kernel) rfl⟩
theorem okF_39 : okF (1, 9, 1, 0) := ⟨by decide, gT_at (i := 126) (by decide +kernel) rfl⟩
theorem okF_40 : okF (1, 15, 1, 1) := ⟨by decide, gT_at (i := 128) (by decide +kernel) rfl⟩
theorem okF_41 : okF (1, 19, 1, 2) := ⟨by decide, gT_at (i := 129) (by decide +kernel) rfl⟩
theorem okF_42 : okF (1, 22, 1, 3) := ⟨by decide, gT_at (i := 130) (by decide +kernel) rfl⟩
theorem okF_43 : okF (2, 9, 2, 0) := ⟨by decide, gT_at (i := 59) (by decide +kernel) rfl⟩
theorem okF_44 : okF (2, 15, 2, 1) := ⟨by decide, gT_at (i := 65) (by decide +kernel) rfl⟩
theorem okF_45 : okF (2, 18, 2, 2) := ⟨by decide, gT_at (i := 68) (by decide +kernel) rfl⟩
theorem okF_46 : okF (2, 22, 2, 3) := ⟨by decide, gT_at (i := 69) (by decide +kernel) rfl⟩
theorem okF_47 : okF (2, 25, 2, 4) := ⟨by decide, gT_at (i := 70) (by decide +kernel) rfl⟩
theorem okF_48 : okF (3, 9, 3, 0) := ⟨by decide, gT_at (i := 238) (by decide +kernel) rfl⟩
theorem okF_49 : okF (3, 15, 3, 1) := ⟨by decide, gT_at (i := 240) (by decide +kernel) rfl⟩
theorem okF_50 : okF (3, 19, 3, 3) := ⟨by decide, gT_at (i := 243) (by decide +kernel) rfl⟩
theorem okF_51 : okF (3, 22, 3, 4) := ⟨by decide, gT_at (i := 244) (by decide +kernel) rfl⟩
theorem okF_52 : okF (3, 25, 3, 2) := ⟨by decide, gT_at (i := 242) (by decide +kernel) rfl⟩
theorem okF_53 : okF (3, 39, 6, 2) := ⟨by decide, gT_at (i := 146) (by decide +kernel) rfl⟩
theorem okF_54 : okF (3, 43, 2, 0) := ⟨by decide, gT_at (i := 60) (by decide +kernel) rfl⟩
theorem okF_55 : okF (4, 9, 4, 0) := ⟨by decide, gT_at (i := 83) (by decide +kernel) rfl⟩
theorem okF_56 : okF (4, 18, 4, 1) := ⟨by decide, gT_at (i := 85) (by decide +kernel) rfl⟩
theorem okF_57 : okF (4, 22, 4, 2) := ⟨by decide, gT_at (i := 87) (by decide +kernel) rfl⟩
theorem okF_58 : okF (4, 26, 4, 3) := ⟨by decide, gT_at (i := 88) (by decide +kernel) rfl⟩
theorem okF_59 : okF (4, 29, 4, 4) := ⟨by decide, gT_at (i := 89) (by decide +kernel) rfl⟩
theorem okF_60 : okF (4, 55, 2, 1) := ⟨by decide, gT_at (i := 66) (by decide +kernel) rfl⟩
theorem okF_61 : okF (4, 58, 2, 0) := ⟨by decide, gT_at (i := 63) (by decide +kernel) rfl⟩
theorem okF_62 : okF (5, 12, 5, 0) := ⟨by decide, gT_at (i := 203) (by decide +kernel) rfl⟩
theorem okF_63 : okF (5, 18, 5, 1) := ⟨by decide, gT_at (i := 205) (by decide +kernel) rfl⟩
theorem okF_64 : okF (5, 22, 5, 2) := ⟨by decide, gT_at (i := 207) (by decide +kernel) rfl⟩
theorem okF_65 : okF (5, 25, 5, 3) := ⟨by decide, gT_at (i := 209) (by decide +kernel) rfl⟩
theorem okF_66 : okF (5, 28, 5, 5) := ⟨by decide, gT_at (i := 212) (by decide +kernel) rfl⟩
theorem okF_67 : okF (5, 31, 5, 6) := ⟨by decide, gT_at (i := 213) (by decide +kernel) rfl⟩
theorem okF_68 : okF (5, 34, 5, 7) := ⟨by decide, gT_at (i := 214) (by decide +kernel) rfl⟩
theorem okF_69 : okF (5, 38, 5, 4) := ⟨by decide, gT_at (i := 211) (by decide +kernel) rfl⟩
theorem okF_70 : okF (5, 59, 2, 0) := ⟨by decide, gT_at (i := 61) (by decide +kernel) rfl⟩
theorem okF_71 : okF (6, 18, 6, 0) := ⟨by decide, gT_at (i := 140) (by decide +kernel) rfl⟩
theorem okF_72 : okF (6, 26, 6, 1) := ⟨by decide, gT_at (i := 142) (by decide +kernel) rfl⟩
theorem okF_73 : okF (6, 32, 6, 2) := ⟨by decide, gT_at (i := 144) (by decide +kernel) rfl⟩
theorem okF_74 : okF (6, 39, 6, 3) := ⟨by decide, gT_at (i := 148) (by decide +kernel) rfl⟩
theorem okF_75 : okF (8, 7, 8, 0) := ⟨by decide, gT_at (i := 709) (by decide +kernel) rfl⟩
theorem okF_76 : okF (8, 13, 8, 1) := ⟨by decide, gT_at (i := 710) (by decide +kernel) rfl⟩
theorem okF_77 : okF (8, 16, 8, 3) := ⟨by decide, gT_at (i := 712) (by decide +kernel) rfl⟩
theorem okF_78 : okF (8, 19, 8, 4) := ⟨by decide, gT_at (i := 713) (by decide +kernel) rfl⟩
theorem okF_79 : okF (8, 23, 8, 5) := ⟨by decide, gT_at (i := 714) (by decide +kernel) rfl⟩
theorem okF_80 : okF (8, 26, 8, 8) := ⟨by decide, gT_at (i := 717) (by decide +kernel) rfl⟩
theorem okF_81 : okF (8, 29, 8, 10) := ⟨by decide, gT_at (i := 719) (by decide +kernel) rfl⟩
theorem okF_82 : okF (8, 32, 8, 11) := ⟨by decide, gT_at (i := 720) (by decide +kernel) rfl⟩
theorem okF_83 : okF (8, 35, 8, 12) := ⟨by decide, gT_at (i := 721) (by decide +kernel) rfl⟩
theorem okF_84 : okF (8, 38, 8, 18) := ⟨by decide, gT_at (i := 727) (by decide +kernel) rfl⟩
theorem okF_85 : okF (8, 41, 8, 19) := ⟨by decide, gT_at (i := 728) (by decide +kernel) rfl⟩
theorem okF_86 : okF (8, 44, 8, 20) := ⟨by decide, gT_at (i := 729) (by decide +kernel) rfl⟩
theorem okF_87 : okF (8, 47, 8, 21) := ⟨by decide, gT_at (i := 730) (by decide +kernel) rfl⟩
theorem okF_88 : okF (8, 50, 8, 22) := ⟨by decide, gT_at (i := 731) (by decide +kernel) rfl⟩
theorem okF_89 : okF (8, 66, 8, 2) := ⟨by decide, gT_at (i := 711) (by decide +kernel) rfl⟩
theorem okF_90 : okF (8, 72, 8, 6) := ⟨by decide, gT_at (i := 715) (by decide +kernel) rfl⟩
theorem okF_91 : okF (8, 86, 8, 7) := ⟨by decide, gT_at (i := 716) (by decide +kernel) rfl⟩
theorem okF_92 : okF (8, 89, 8, 9) := ⟨by decide, gT_at (i := 718) (by decide +kernel) rfl⟩
theorem okF_93 : okF (8, 92, 8, 13) := ⟨by decide, gT_at (i := 722) (by decide +kernel) rfl⟩
theorem okF_94 : okF (8, 95, 8, 14) := ⟨by decide, gT_at (i := 723) (by decide +kernel) rfl⟩
theorem okF_95 : okF (8, 98, 8, 15) := ⟨by decide, gT_at (i := 724) (by decide +kernel) rfl⟩
theorem okF_96 : okF (8, 101, 8, 16) := ⟨by decide, gT_at (i := 725) (by decide +kernel) rfl⟩
theorem okF_97 : okF (8, 114, 8, 17) := ⟨by decide, gT_at (i := 726) (by decide +kernel) rfl⟩
theorem okF_98 : okF (0, 18, 0, 2) := ⟨by decide, gT_at (i := 169) (by decide +kernel) rfl⟩
set_option maxRecDepth 100000 in
theorem mFl_ok : ∀ e ∈ mFl, okF e := List.forall_mem_cons.mpr ⟨okF_0, List.forall_mem_cons.mpr ⟨okF_1, List.forall_mem_cons.mpr ⟨okF_2, List.forall_mem_cons.mpr ⟨okF_3, List.forall_mem_cons.mpr ⟨okF_4, List.forall_mem_cons.mpr ⟨okF_5, List.forall_mem_cons.mpr ⟨okF_6, List.forall_mem_cons.mpr ⟨okF_7, List.forall_mem_cons.mpr ⟨okF_8, List.forall_mem_cons.mpr ⟨okF_9, List.forall_mem_cons.mpr ⟨okF_10, List.forall_mem_cons.mpr ⟨okF_11, List.forall_mem_cons.mpr ⟨okF_12, List.forall_mem_cons.mpr ⟨okF_13, List.forall_mem_cons.mpr ⟨okF_14, List.forall_mem_cons.mpr ⟨okF_15, List.forall_mem_cons.mpr ⟨okF_16, List.forall_mem_cons.mpr ⟨okF_17, List.forall_mem_cons.mpr ⟨okF_18, List.forall_mem_cons.mpr ⟨okF_19, List.forall_mem_cons.mpr ⟨okF_20, List.forall_mem_cons.mpr ⟨okF_21, List.forall_mem_cons.mpr ⟨okF_22, List.forall_mem_cons.mpr ⟨okF_23, List.forall_mem_cons.mpr ⟨okF_24, List.forall_mem_cons.mpr ⟨okF_25, List.forall_mem_cons.mpr ⟨okF_26, List.forall_mem_cons.mpr ⟨okF_27, List.forall_mem_cons.mpr ⟨okF_28, List.forall_mem_cons.mpr ⟨okF_29, List.forall_mem_cons.mpr ⟨okF_30, List.forall_mem_cons.mpr ⟨okF_31, List.forall_mem_cons.mpr ⟨okF_32, List.forall_mem_cons.mpr ⟨okF_33, List.forall_mem_cons.mpr ⟨okF_34, List.forall_mem_cons.mpr ⟨okF_35, List.forall_mem_cons.mpr ⟨okF_36, List.forall_mem_cons.mpr ⟨okF_37, List.forall_mem_cons.mpr ⟨okF_38, List.forall_mem_cons.mpr ⟨okF_39, List.forall_mem_cons.mpr ⟨okF_40, List.forall_mem_cons.mpr ⟨okF_41, List.forall_mem_cons.mpr ⟨okF_42, List.forall_mem_cons.mpr ⟨okF_43, List.forall_mem_cons.mpr ⟨okF_44, List.forall_mem_cons.mpr ⟨okF_45, List.forall_mem_cons.mpr ⟨okF_46, List.forall_mem_cons.mpr ⟨okF_47, List.forall_mem_cons.mpr ⟨okF_48, List.forall_mem_cons.mpr ⟨okF_49, List.forall_mem_cons.mpr ⟨okF_50, List.forall_mem_cons.mpr ⟨okF_51, List.forall_mem_cons.mpr ⟨okF_52, List.forall_mem_cons.mpr ⟨okF_53, List.forall_mem_cons.mpr ⟨okF_54, List.forall_mem_cons.mpr ⟨okF_55, List.forall_mem_cons.mpr ⟨okF_56, List.forall_mem_cons.mpr ⟨okF_57, List.forall_mem_cons.mpr ⟨okF_58, List.forall_mem_cons.mpr ⟨okF_59, List.forall_mem_cons.mpr ⟨okF_60, List.forall_mem_cons.mpr ⟨okF_61, List.forall_mem_cons.mpr ⟨okF_62, List.forall_mem_cons.mpr ⟨okF_63, List.forall_mem_cons.mpr ⟨okF_64, List.forall_mem_cons.mpr ⟨okF_65, List.forall_mem_cons.mpr ⟨okF_66, List.forall_mem_cons.mpr ⟨okF_67, List.forall_mem_cons.mpr ⟨okF_68, List.forall_mem_cons.mpr ⟨okF_69, List.forall_mem_cons.mpr ⟨okF_70, List.forall_mem_cons.mpr ⟨okF_71, List.forall_mem_cons.mpr ⟨okF_72, List.forall_mem_cons.mpr ⟨okF_73, List.forall_mem_cons.mpr ⟨okF_74, List.forall_mem_cons.mpr ⟨okF_75, List.forall_mem_cons.mpr ⟨okF_76, List.forall_mem_cons.mpr ⟨okF_77, List.forall_mem_cons.mpr ⟨okF_78, List.forall_mem_cons.mpr ⟨okF_79, List.forall_mem_cons.mpr ⟨okF_80, List.forall_mem_cons.mpr ⟨okF_81, List.forall_mem_cons.mpr ⟨okF_82, List.forall_mem_cons.mpr ⟨okF_83, List.forall_mem_cons.mpr ⟨okF_84, List.forall_mem_cons.mpr ⟨okF_85, List.forall_mem_cons.mpr ⟨okF_86, List.forall_mem_cons.mpr ⟨okF_87, List.forall_mem_cons.mpr ⟨okF_88, List.forall_mem_cons.mpr ⟨okF_89, List.forall_mem_cons.mpr ⟨okF_90, List.forall_mem_cons.mpr ⟨okF_91, List.forall_mem_cons.mpr ⟨okF_92, List.forall_mem_cons.mpr ⟨okF_93, List.forall_mem_cons.mpr ⟨okF_94, List.forall_mem_cons.mpr ⟨okF_95, List.forall_mem_cons.mpr ⟨okF_96, List.forall_mem_cons.mpr ⟨okF_97, List.forall_mem_cons.mpr ⟨okF_98, fun _ h => absurd h List.not_mem_nil⟩⟩⟩⟩⟩⟩⟩⟩⟩⟩⟩⟩⟩⟩⟩⟩⟩⟩⟩⟩⟩⟩⟩⟩⟩⟩⟩⟩⟩⟩⟩⟩⟩⟩⟩⟩⟩⟩⟩⟩⟩⟩⟩⟩⟩⟩⟩⟩⟩⟩⟩⟩⟩⟩⟩⟩⟩⟩⟩⟩⟩⟩⟩⟩⟩⟩⟩⟩⟩⟩⟩⟩⟩⟩⟩⟩⟩⟩⟩⟩⟩⟩⟩⟩⟩⟩⟩⟩⟩⟩⟩⟩⟩⟩⟩⟩⟩⟩⟩
theorem okS_0 : okS (7, 73, 1, false) := gT_at (i := 302) (by decide +kernel) rfl
theorem okS_1 : okS (7, 80, 2, false) := gT_at (i := 307) (by decide +kernel) rfl
theorem okS_2 : okS (7, 94, 4, false) := gT_at (i := 320) (by decide +kernel) rfl
theorem okS_3 : okS (4, 69, 5, true) := nT_at (i := 355) (by decide +kernel) rfl
theorem mSl_ok : ∀ e ∈ mSl, okS e := List.forall_mem_cons.mpr ⟨okS_0, List.forall_mem_cons.mpr ⟨okS_1, List.forall_mem_cons.mpr ⟨okS_2, List.forall_mem_cons.mpr ⟨okS_3, fun _ h => absurd h List.not_mem_nil⟩⟩⟩⟩
theorem okK_0 : okK (7, 248, 65537) := gT_at (i := 666) (by decide +kernel) rfl
theorem okK_1 : okK (8, 140, 65537) := gT_at (i := 923) (by decide +kernel) rfl
theorem okK_2 : okK (10, 265, 1431655765) := gT_at (i := 562) (by decide +kernel) rfl
theorem okK_3 : okK (10, 266, 858993459) := gT_at (i := 563) (by decide +kernel) rfl
theorem okK_4 : okK (10, 267, 252645135) := gT_at (i := 564) (by decide +kernel) rfl
theorem mKl_ok : ∀ e ∈ mKl, okK e := List.forall_mem_cons.mpr ⟨okK_0, List.forall_mem_cons.mpr ⟨okK_1, List.forall_mem_cons.mpr ⟨okK_2, List.forall_mem_cons.mpr ⟨okK_3, List.forall_mem_cons.mpr ⟨okK_4, fun _ h => absurd h List.not_mem_nil⟩⟩⟩⟩⟩
def okX (e : Nat × Nat × Nat) : Prop := match e.2.2 with
  | 0 => Cond.methodLink (mOwn e.1) e.2.1 Lib.Math.max.name ∈ gT
  | _ => Cond.methodLink (mOwn e.1) e.2.1 Lib.Math.min.name ∈ gT
theorem okX_0 : okX (7, 249, 0) := gT_at (i := 661) (by decide +kernel) rfl
theorem okX_1 : okX (7, 287, 1) := gT_at (i := 565) (by decide +kernel) rfl
theorem okX_2 : okX (6, 59, 0) := gT_at (i := 445) (by decide +kernel) rfl
theorem mXl_ok : ∀ e ∈ mXl, okX e := List.forall_mem_cons.mpr ⟨okX_0, List.forall_mem_cons.mpr ⟨okX_1, List.forall_mem_cons.mpr ⟨okX_2, fun _ h => absurd h List.not_mem_nil⟩⟩⟩
theorem math_in : Cond.static Lib.Math.max.name ∈ gT ∧ Cond.static Lib.Math.min.name ∈ gT ∧ Cond.initialized "java/lang/Math" ∈ gT ∧ Cond.code Lib.Math.max.name Lib.Math.max.code 2 (some .int) ∈ gT ∧ Cond.code Lib.Math.min.name Lib.Math.min.code 2 (some .int) ∈ gT := ⟨gT_at (i := 446) (by decide +kernel) rfl, gT_at (i := 566) (by decide +kernel) rfl, gT_at (i := 37) (by decide +kernel) rfl, gT_at (i := 447) (by decide +kernel) rfl, gT_at (i := 567) (by decide +kernel) rfl⟩
theorem okSc_0 : okSc (7, 76, 81, false) := ⟨gT_at (i := 304) (by decide +kernel) rfl, gT_at (i := 305) (by decide +kernel) rfl⟩
theorem okSc_1 : okSc (7, 86, 83, false) := ⟨gT_at (i := 309) (by decide +kernel) rfl, gT_at (i := 310) (by decide +kernel) rfl⟩
theorem okSc_2 : okSc (7, 90, 71, false) := ⟨gT_at (i := 317) (by decide +kernel) rfl, gT_at (i := 318) (by decide +kernel) rfl⟩
theorem okSc_3 : okSc (7, 147, 70, false) := ⟨gT_at (i := 410) (by decide +kernel) rfl, gT_at (i := 411) (by decide +kernel) rfl⟩
theorem okSc_4 : okSc (7, 190, 86, false) := ⟨gT_at (i := 495) (by decide +kernel) rfl, gT_at (i := 496) (by decide +kernel) rfl⟩
theorem okSc_5 : okSc (7, 257, 128, false) := ⟨gT_at (i := 559) (by decide +kernel) rfl, gT_at (i := 560) (by decide +kernel) rfl⟩
theorem okSc_6 : okSc (7, 268, 85, false) := ⟨gT_at (i := 498) (by decide +kernel) rfl, gT_at (i := 368) (by decide +kernel) rfl⟩
theorem okSc_7 : okSc (7, 297, 82, false) := ⟨gT_at (i := 312) (by decide +kernel) rfl, gT_at (i := 265) (by decide +kernel) rfl⟩
theorem okSc_8 : okSc (0, 38, 81, true) := ⟨nT_at (i := 474) (by decide +kernel) rfl, gT_at (i := 305) (by decide +kernel) rfl⟩
theorem okSc_9 : okSc (0, 73, 85, true) := ⟨nT_at (i := 449) (by decide +kernel) rfl, gT_at (i := 368) (by decide +kernel) rfl⟩
theorem okSc_10 : okSc (0, 77, 82, true) := ⟨nT_at (i := 450) (by decide +kernel) rfl, gT_at (i := 265) (by decide +kernel) rfl⟩
theorem okSc_11 : okSc (1, 25, 82, true) := ⟨nT_at (i := 628) (by decide +kernel) rfl, gT_at (i := 265) (by decide +kernel) rfl⟩
theorem okSc_12 : okSc (1, 29, 81, true) := ⟨nT_at (i := 645) (by decide +kernel) rfl, gT_at (i := 305) (by decide +kernel) rfl⟩
theorem okSc_13 : okSc (1, 39, 84, true) := ⟨nT_at (i := 689) (by decide +kernel) rfl, gT_at (i := 379) (by decide +kernel) rfl⟩
theorem okSc_14 : okSc (2, 28, 81, true) := ⟨nT_at (i := 397) (by decide +kernel) rfl, gT_at (i := 305) (by decide +kernel) rfl⟩
theorem okSc_15 : okSc (2, 40, 82, true) := ⟨nT_at (i := 264) (by decide +kernel) rfl, gT_at (i := 265) (by decide +kernel) rfl⟩
theorem okSc_16 : okSc (2, 44, 85, true) := ⟨nT_at (i := 572) (by decide +kernel) rfl, gT_at (i := 368) (by decide +kernel) rfl⟩
theorem okSc_17 : okSc (2, 48, 84, true) := ⟨nT_at (i := 378) (by decide +kernel) rfl, gT_at (i := 379) (by decide +kernel) rfl⟩
theorem okSc_18 : okSc (3, 35, 24, false) := ⟨gT_at (i := 603) (by decide +kernel) rfl, gT_at (i := 604) (by decide +kernel) rfl⟩
theorem okSc_19 : okSc (3, 51, 85, true) := ⟨nT_at (i := 611) (by decide +kernel) rfl, gT_at (i := 368) (by decide +kernel) rfl⟩
theorem okSc_20 : okSc (3, 65, 84, true) := ⟨nT_at (i := 614) (by decide +kernel) rfl, gT_at (i := 379) (by decide +kernel) rfl⟩
theorem okSc_21 : okSc (3, 84, 82, true) := ⟨nT_at (i := 619) (by decide +kernel) rfl, gT_at (i := 265) (by decide +kernel) rfl⟩
theorem okSc_22 : okSc (4, 32, 82, true) := ⟨nT_at (i := 330) (by decide +kernel) rfl, gT_at (i := 265) (by decide +kernel) rfl⟩
theorem okSc_23 : okSc (4, 36, 81, true) := ⟨nT_at (i := 351) (by decide +kernel) rfl, gT_at (i := 305) (by decide +kernel) rfl⟩
theorem okSc_24 : okSc (4, 43, 32, false) := ⟨gT_at (i := 352) (by decide +kernel) rfl, gT_at (i := 353) (by decide +kernel) rfl⟩
theorem okSc_25 : okSc (4, 65, 85, true) := ⟨nT_at (i := 367) (by decide +kernel) rfl, gT_at (i := 368) (by decide +kernel) rfl⟩
theorem okSc_26 : okSc (5, 55, 38, false) := ⟨gT_at (i := 528) (by decide +kernel) rfl, gT_at (i := 529) (by decide +kernel) rfl⟩
theorem okSc_27 : okSc (5, 62, 82, true) := ⟨nT_at (i := 520) (by decide +kernel) rfl, gT_at (i := 265) (by decide +kernel) rfl⟩
theorem okSc_28 : okSc (5, 81, 81, true) := ⟨nT_at (i := 535) (by decide +kernel) rfl, gT_at (i := 305) (by decide +kernel) rfl⟩
theorem okSc_29 : okSc (5, 99, 85, true) := ⟨nT_at (i := 543) (by decide +kernel) rfl, gT_at (i := 368) (by decide +kernel) rfl⟩
theorem okSc_30 : okSc (6, 43, 81, true) := ⟨nT_at (i := 433) (by decide +kernel) rfl, gT_at (i := 305) (by decide +kernel) rfl⟩
theorem okSc_31 : okSc (6, 51, 85, true) := ⟨nT_at (i := 468) (by decide +kernel) rfl, gT_at (i := 368) (by decide +kernel) rfl⟩
theorem okSc_32 : okSc (6, 64, 84, true) := ⟨nT_at (i := 683) (by decide +kernel) rfl, gT_at (i := 379) (by decide +kernel) rfl⟩
theorem okSc_33 : okSc (8, 58, 88, false) := ⟨gT_at (i := 784) (by decide +kernel) rfl, gT_at (i := 785) (by decide +kernel) rfl⟩
theorem okSc_34 : okSc (8, 62, 92, false) := ⟨gT_at (i := 791) (by decide +kernel) rfl, gT_at (i := 792) (by decide +kernel) rfl⟩
theorem okSc_35 : okSc (8, 69, 96, false) := ⟨gT_at (i := 810) (by decide +kernel) rfl, gT_at (i := 811) (by decide +kernel) rfl⟩
theorem okSc_36 : okSc (8, 75, 89, false) := ⟨gT_at (i := 817) (by decide +kernel) rfl, gT_at (i := 818) (by decide +kernel) rfl⟩
theorem okSc_37 : okSc (8, 123, 90, false) := ⟨gT_at (i := 868) (by decide +kernel) rfl, gT_at (i := 869) (by decide +kernel) rfl⟩
theorem mSc_ok : ∀ e ∈ mSc, okSc e := List.forall_mem_cons.mpr ⟨okSc_0, List.forall_mem_cons.mpr ⟨okSc_1, List.forall_mem_cons.mpr ⟨okSc_2, List.forall_mem_cons.mpr ⟨okSc_3, List.forall_mem_cons.mpr ⟨okSc_4, List.forall_mem_cons.mpr ⟨okSc_5, List.forall_mem_cons.mpr ⟨okSc_6, List.forall_mem_cons.mpr ⟨okSc_7, List.forall_mem_cons.mpr ⟨okSc_8, List.forall_mem_cons.mpr ⟨okSc_9, List.forall_mem_cons.mpr ⟨okSc_10, List.forall_mem_cons.mpr ⟨okSc_11, List.forall_mem_cons.mpr ⟨okSc_12, List.forall_mem_cons.mpr ⟨okSc_13, List.forall_mem_cons.mpr ⟨okSc_14, List.forall_mem_cons.mpr ⟨okSc_15, List.forall_mem_cons.mpr ⟨okSc_16, List.forall_mem_cons.mpr ⟨okSc_17, List.forall_mem_cons.mpr ⟨okSc_18, List.forall_mem_cons.mpr ⟨okSc_19, List.forall_mem_cons.mpr ⟨okSc_20, List.forall_mem_cons.mpr ⟨okSc_21, List.forall_mem_cons.mpr ⟨okSc_22, List.forall_mem_cons.mpr ⟨okSc_23, List.forall_mem_cons.mpr ⟨okSc_24, List.forall_mem_cons.mpr ⟨okSc_25, List.forall_mem_cons.mpr ⟨okSc_26, List.forall_mem_cons.mpr ⟨okSc_27, List.forall_mem_cons.mpr ⟨okSc_28, List.forall_mem_cons.mpr ⟨okSc_29, List.forall_mem_cons.mpr ⟨okSc_30, List.forall_mem_cons.mpr ⟨okSc_31, List.forall_mem_cons.mpr ⟨okSc_32, List.forall_mem_cons.mpr ⟨okSc_33, List.forall_mem_cons.mpr ⟨okSc_34, List.forall_mem_cons.mpr ⟨okSc_35, List.forall_mem_cons.mpr ⟨okSc_36, List.forall_mem_cons.mpr ⟨okSc_37, fun _ h => absurd h List.not_mem_nil⟩⟩⟩⟩⟩⟩⟩⟩⟩⟩⟩⟩⟩⟩⟩⟩⟩⟩⟩⟩⟩⟩⟩⟩⟩⟩⟩⟩⟩⟩⟩⟩⟩⟩⟩⟩⟩⟩
theorem okVc_0 : okVc (7, 100, 25) := ⟨gT_at (i := 326) (by decide +kernel) rfl, gT_at (i := 327) (by decide +kernel) rfl, gT_at (i := 328) (by decide +kernel) rfl⟩
theorem okVc_1 : okVc (7, 106, 26) := ⟨gT_at (i := 335) (by decide +kernel) rfl, gT_at (i := 336) (by decide +kernel) rfl, gT_at (i := 337) (by decide +kernel) rfl⟩
theorem okVc_2 : okVc (7, 110, 29) := ⟨gT_at (i := 343) (by decide +kernel) rfl, gT_at (i := 344) (by decide +kernel) rfl, gT_at (i := 345) (by decide +kernel) rfl⟩
theorem okVc_3 : okVc (7, 113, 30) := ⟨gT_at (i := 359) (by decide +kernel) rfl, gT_at (i := 360) (by decide +kernel) rfl, gT_at (i := 361) (by decide +kernel) rfl⟩
theorem okVc_4 : okVc (7, 120, 21) := ⟨gT_at (i := 374) (by decide +kernel) rfl, gT_at (i := 375) (by decide +kernel) rfl, gT_at (i := 376) (by decide +kernel) rfl⟩
theorem okVc_5 : okVc (7, 128, 7) := ⟨gT_at (i := 381) (by decide +kernel) rfl, gT_at (i := 382) (by decide +kernel) rfl, gT_at (i := 383) (by decide +kernel) rfl⟩
theorem okVc_6 : okVc (7, 134, 72) := ⟨gT_at (i := 389) (by decide +kernel) rfl, gT_at (i := 391) (by decide +kernel) rfl, gT_at (i := 1) (by decide +kernel) rfl⟩
theorem okVc_7 : okVc (7, 137, 10) := ⟨gT_at (i := 393) (by decide +kernel) rfl, gT_at (i := 394) (by decide +kernel) rfl, gT_at (i := 395) (by decide +kernel) rfl⟩
theorem okVc_8 : okVc (7, 141, 11) := ⟨gT_at (i := 398) (by decide +kernel) rfl, gT_at (i := 399) (by decide +kernel) rfl, gT_at (i := 400) (by decide +kernel) rfl⟩
theorem okVc_9 : okVc (7, 144, 12) := ⟨gT_at (i := 402) (by decide +kernel) rfl, gT_at (i := 403) (by decide +kernel) rfl, gT_at (i := 404) (by decide +kernel) rfl⟩
theorem okVc_10 : okVc (7, 150, 73) := ⟨gT_at (i := 413) (by decide +kernel) rfl, gT_at (i := 415) (by decide +kernel) rfl, gT_at (i := 2) (by decide +kernel) rfl⟩
theorem okVc_11 : okVc (7, 153, 74) := ⟨gT_at (i := 421) (by decide +kernel) rfl, gT_at (i := 423) (by decide +kernel) rfl, gT_at (i := 3) (by decide +kernel) rfl⟩
theorem okVc_12 : okVc (7, 156, 39) := ⟨gT_at (i := 429) (by decide +kernel) rfl, gT_at (i := 430) (by decide +kernel) rfl, gT_at (i := 431) (by decide +kernel) rfl⟩
theorem okVc_13 : okVc (7, 159, 3) := ⟨gT_at (i := 434) (by decide +kernel) rfl, gT_at (i := 435) (by decide +kernel) rfl, gT_at (i := 436) (by decide +kernel) rfl⟩
theorem okVc_14 : okVc (7, 163, 0) := ⟨gT_at (i := 470) (by decide +kernel) rfl, gT_at (i := 471) (by decide +kernel) rfl, gT_at (i := 472) (by decide +kernel) rfl⟩
theorem okVc_15 : okVc (7, 166, 1) := ⟨gT_at (i := 475) (by decide +kernel) rfl, gT_at (i := 476) (by decide +kernel) rfl, gT_at (i := 477) (by decide +kernel) rfl⟩
theorem okVc_16 : okVc (7, 181, 27) := ⟨gT_at (i := 487) (by decide +kernel) rfl, gT_at (i := 488) (by decide +kernel) rfl, gT_at (i := 489) (by decide +kernel) rfl⟩
theorem okVc_17 : okVc (7, 184, 28) := ⟨gT_at (i := 491) (by decide +kernel) rfl, gT_at (i := 492) (by decide +kernel) rfl, gT_at (i := 493) (by decide +kernel) rfl⟩
theorem okVc_18 : okVc (7, 193, 76) := ⟨gT_at (i := 503) (by decide +kernel) rfl, gT_at (i := 505) (by decide +kernel) rfl, gT_at (i := 5) (by decide +kernel) rfl⟩
theorem okVc_19 : okVc (7, 206, 77) := ⟨gT_at (i := 550) (by decide +kernel) rfl, gT_at (i := 552) (by decide +kernel) rfl, gT_at (i := 9) (by decide +kernel) rfl⟩
theorem okVc_20 : okVc (7, 210, 13) := ⟨gT_at (i := 581) (by decide +kernel) rfl, gT_at (i := 261) (by decide +kernel) rfl, gT_at (i := 262) (by decide +kernel) rfl⟩
theorem okVc_21 : okVc (7, 214, 33) := ⟨gT_at (i := 507) (by decide +kernel) rfl, gT_at (i := 508) (by decide +kernel) rfl, gT_at (i := 509) (by decide +kernel) rfl⟩
theorem okVc_22 : okVc (7, 220, 19) := ⟨gT_at (i := 582) (by decide +kernel) rfl, gT_at (i := 583) (by decide +kernel) rfl, gT_at (i := 584) (by decide +kernel) rfl⟩
theorem okVc_23 : okVc (7, 224, 34) := ⟨gT_at (i := 511) (by decide +kernel) rfl, gT_at (i := 512) (by decide +kernel) rfl, gT_at (i := 513) (by decide +kernel) rfl⟩
theorem okVc_24 : okVc (7, 227, 78) := ⟨gT_at (i := 590) (by decide +kernel) rfl, gT_at (i := 592) (by decide +kernel) rfl, gT_at (i := 10) (by decide +kernel) rfl⟩
theorem okVc_25 : okVc (7, 230, 22) := ⟨gT_at (i := 598) (by decide +kernel) rfl, gT_at (i := 599) (by decide +kernel) rfl, gT_at (i := 600) (by decide +kernel) rfl⟩
theorem okVc_26 : okVc (7, 237, 6) := ⟨gT_at (i := 624) (by decide +kernel) rfl, gT_at (i := 625) (by decide +kernel) rfl, gT_at (i := 626) (by decide +kernel) rfl⟩
theorem okVc_27 : okVc (7, 242, 79) := ⟨gT_at (i := 637) (by decide +kernel) rfl, gT_at (i := 639) (by decide +kernel) rfl, gT_at (i := 12) (by decide +kernel) rfl⟩
theorem okVc_28 : okVc (7, 245, 80) := ⟨gT_at (i := 657) (by decide +kernel) rfl, gT_at (i := 659) (by decide +kernel) rfl, gT_at (i := 13) (by decide +kernel) rfl⟩
theorem okVc_29 : okVc (7, 254, 5) := ⟨gT_at (i := 667) (by decide +kernel) rfl, gT_at (i := 668) (by decide +kernel) rfl, gT_at (i := 669) (by decide +kernel) rfl⟩
theorem okVc_30 : okVc (7, 262, 75) := ⟨gT_at (i := 675) (by decide +kernel) rfl, gT_at (i := 677) (by decide +kernel) rfl, gT_at (i := 14) (by decide +kernel) rfl⟩
theorem okVc_31 : okVc (7, 266, 45) := ⟨gT_at (i := 679) (by decide +kernel) rfl, gT_at (i := 680) (by decide +kernel) rfl, gT_at (i := 681) (by decide +kernel) rfl⟩
theorem okVc_32 : okVc (7, 272, 40) := ⟨gT_at (i := 698) (by decide +kernel) rfl, gT_at (i := 461) (by decide +kernel) rfl, gT_at (i := 462) (by decide +kernel) rfl⟩
theorem okVc_33 : okVc (7, 278, 15) := ⟨gT_at (i := 417) (by decide +kernel) rfl, gT_at (i := 418) (by decide +kernel) rfl, gT_at (i := 419) (by decide +kernel) rfl⟩
theorem okVc_34 : okVc (7, 281, 14) := ⟨gT_at (i := 425) (by decide +kernel) rfl, gT_at (i := 426) (by decide +kernel) rfl, gT_at (i := 427) (by decide +kernel) rfl⟩
theorem okVc_35 : okVc (7, 284, 16) := ⟨gT_at (i := 554) (by decide +kernel) rfl, gT_at (i := 555) (by decide +kernel) rfl, gT_at (i := 556) (by decide +kernel) rfl⟩
theorem okVc_36 : okVc (7, 290, 20) := ⟨gT_at (i := 568) (by decide +kernel) rfl, gT_at (i := 569) (by decide +kernel) rfl, gT_at (i := 570) (by decide +kernel) rfl⟩
theorem okVc_37 : okVc (7, 293, 8) := ⟨gT_at (i := 641) (by decide +kernel) rfl, gT_at (i := 642) (by decide +kernel) rfl, gT_at (i := 643) (by decide +kernel) rfl⟩
theorem okVc_38 : okVc (7, 301, 2) := ⟨gT_at (i := 652) (by decide +kernel) rfl, gT_at (i := 647) (by decide +kernel) rfl, gT_at (i := 648) (by decide +kernel) rfl⟩
theorem okVc_39 : okVc (0, 42, 0) := ⟨gT_at (i := 650) (by decide +kernel) rfl, gT_at (i := 471) (by decide +kernel) rfl, gT_at (i := 472) (by decide +kernel) rfl⟩
theorem okVc_40 : okVc (0, 46, 1) := ⟨gT_at (i := 651) (by decide +kernel) rfl, gT_at (i := 476) (by decide +kernel) rfl, gT_at (i := 477) (by decide +kernel) rfl⟩
theorem okVc_41 : okVc (0, 55, 39) := ⟨gT_at (i := 438) (by decide +kernel) rfl, gT_at (i := 430) (by decide +kernel) rfl, gT_at (i := 431) (by decide +kernel) rfl⟩
theorem okVc_42 : okVc (0, 63, 11) := ⟨gT_at (i := 439) (by decide +kernel) rfl, gT_at (i := 399) (by decide +kernel) rfl, gT_at (i := 400) (by decide +kernel) rfl⟩
theorem okVc_43 : okVc (0, 66, 42) := ⟨gT_at (i := 440) (by decide +kernel) rfl, gT_at (i := 441) (by decide +kernel) rfl, gT_at (i := 442) (by decide +kernel) rfl⟩
theorem okVc_44 : okVc (0, 70, 12) := ⟨gT_at (i := 448) (by decide +kernel) rfl, gT_at (i := 403) (by decide +kernel) rfl, gT_at (i := 404) (by decide +kernel) rfl⟩
theorem okVc_45 : okVc (0, 81, 4) := ⟨gT_at (i := 451) (by decide +kernel) rfl, gT_at (i := 453) (by decide +kernel) rfl, gT_at (i := 4) (by decide +kernel) rfl⟩
theorem okVc_46 : okVc (0, 85, 10) := ⟨gT_at (i := 455) (by decide +kernel) rfl, gT_at (i := 394) (by decide +kernel) rfl, gT_at (i := 395) (by decide +kernel) rfl⟩
theorem okVc_47 : okVc (0, 88, 43) := ⟨gT_at (i := 456) (by decide +kernel) rfl, gT_at (i := 457) (by decide +kernel) rfl, gT_at (i := 458) (by decide +kernel) rfl⟩
theorem okVc_48 : okVc (0, 92, 44) := ⟨gT_at (i := 464) (by decide +kernel) rfl, gT_at (i := 465) (by decide +kernel) rfl, gT_at (i := 466) (by decide +kernel) rfl⟩
theorem okVc_49 : okVc (0, 96, 40) := ⟨gT_at (i := 469) (by decide +kernel) rfl, gT_at (i := 461) (by decide +kernel) rfl, gT_at (i := 462) (by decide +kernel) rfl⟩
theorem okVc_50 : okVc (1, 33, 2) := ⟨gT_at (i := 646) (by decide +kernel) rfl, gT_at (i := 647) (by decide +kernel) rfl, gT_at (i := 648) (by decide +kernel) rfl⟩
theorem okVc_51 : okVc (2, 32, 11) := ⟨gT_at (i := 558) (by decide +kernel) rfl, gT_at (i := 399) (by decide +kernel) rfl, gT_at (i := 400) (by decide +kernel) rfl⟩
theorem okVc_52 : okVc (2, 36, 13) := ⟨gT_at (i := 260) (by decide +kernel) rfl, gT_at (i := 261) (by decide +kernel) rfl, gT_at (i := 262) (by decide +kernel) rfl⟩
theorem okVc_53 : okVc (3, 29, 39) := ⟨gT_at (i := 602) (by decide +kernel) rfl, gT_at (i := 430) (by decide +kernel) rfl, gT_at (i := 431) (by decide +kernel) rfl⟩
theorem okVc_54 : okVc (3, 48, 10) := ⟨gT_at (i := 610) (by decide +kernel) rfl, gT_at (i := 394) (by decide +kernel) rfl, gT_at (i := 395) (by decide +kernel) rfl⟩
theorem okVc_55 : okVc (3, 55, 41) := ⟨gT_at (i := 612) (by decide +kernel) rfl, gT_at (i := 523) (by decide +kernel) rfl, gT_at (i := 524) (by decide +kernel) rfl⟩
theorem okVc_56 : okVc (3, 58, 40) := ⟨gT_at (i := 613) (by decide +kernel) rfl, gT_at (i := 461) (by decide +kernel) rfl, gT_at (i := 462) (by decide +kernel) rfl⟩
theorem okVc_57 : okVc (3, 62, 23) := ⟨gT_at (i := 606) (by decide +kernel) rfl, gT_at (i := 608) (by decide +kernel) rfl, gT_at (i := 11) (by decide +kernel) rfl⟩
theorem okVc_58 : okVc (3, 69, 11) := ⟨gT_at (i := 615) (by decide +kernel) rfl, gT_at (i := 399) (by decide +kernel) rfl, gT_at (i := 400) (by decide +kernel) rfl⟩
theorem okVc_59 : okVc (3, 72, 42) := ⟨gT_at (i := 616) (by decide +kernel) rfl, gT_at (i := 441) (by decide +kernel) rfl, gT_at (i := 442) (by decide +kernel) rfl⟩
theorem okVc_60 : okVc (3, 76, 43) := ⟨gT_at (i := 617) (by decide +kernel) rfl, gT_at (i := 457) (by decide +kernel) rfl, gT_at (i := 458) (by decide +kernel) rfl⟩
theorem okVc_61 : okVc (3, 80, 44) := ⟨gT_at (i := 618) (by decide +kernel) rfl, gT_at (i := 465) (by decide +kernel) rfl, gT_at (i := 466) (by decide +kernel) rfl⟩
theorem okVc_62 : okVc (4, 40, 17) := ⟨gT_at (i := 347) (by decide +kernel) rfl, gT_at (i := 348) (by decide +kernel) rfl, gT_at (i := 349) (by decide +kernel) rfl⟩
theorem okVc_63 : okVc (4, 47, 13) := ⟨gT_at (i := 357) (by decide +kernel) rfl, gT_at (i := 261) (by decide +kernel) rfl, gT_at (i := 262) (by decide +kernel) rfl⟩
theorem okVc_64 : okVc (4, 51, 18) := ⟨gT_at (i := 358) (by decide +kernel) rfl, gT_at (i := 257) (by decide +kernel) rfl, gT_at (i := 258) (by decide +kernel) rfl⟩
theorem okVc_65 : okVc (4, 61, 31) := ⟨gT_at (i := 363) (by decide +kernel) rfl, gT_at (i := 365) (by decide +kernel) rfl, gT_at (i := 0) (by decide +kernel) rfl⟩
theorem okVc_66 : okVc (5, 42, 39) := ⟨gT_at (i := 515) (by decide +kernel) rfl, gT_at (i := 430) (by decide +kernel) rfl, gT_at (i := 431) (by decide +kernel) rfl⟩
theorem okVc_67 : okVc (5, 48, 35) := ⟨gT_at (i := 516) (by decide +kernel) rfl, gT_at (i := 518) (by decide +kernel) rfl, gT_at (i := 6) (by decide +kernel) rfl⟩
theorem okVc_68 : okVc (5, 51, 15) := ⟨gT_at (i := 527) (by decide +kernel) rfl, gT_at (i := 418) (by decide +kernel) rfl, gT_at (i := 419) (by decide +kernel) rfl⟩
theorem okVc_69 : okVc (5, 66, 10) := ⟨gT_at (i := 521) (by decide +kernel) rfl, gT_at (i := 394) (by decide +kernel) rfl, gT_at (i := 395) (by decide +kernel) rfl⟩
theorem okVc_70 : okVc (5, 69, 41) := ⟨gT_at (i := 522) (by decide +kernel) rfl, gT_at (i := 523) (by decide +kernel) rfl, gT_at (i := 524) (by decide +kernel) rfl⟩
theorem okVc_71 : okVc (5, 73, 40) := ⟨gT_at (i := 526) (by decide +kernel) rfl, gT_at (i := 461) (by decide +kernel) rfl, gT_at (i := 462) (by decide +kernel) rfl⟩
theorem okVc_72 : okVc (5, 77, 37) := ⟨gT_at (i := 531) (by decide +kernel) rfl, gT_at (i := 533) (by decide +kernel) rfl, gT_at (i := 7) (by decide +kernel) rfl⟩
theorem okVc_73 : okVc (5, 85, 36) := ⟨gT_at (i := 536) (by decide +kernel) rfl, gT_at (i := 538) (by decide +kernel) rfl, gT_at (i := 8) (by decide +kernel) rfl⟩
theorem okVc_74 : okVc (5, 89, 11) := ⟨gT_at (i := 540) (by decide +kernel) rfl, gT_at (i := 399) (by decide +kernel) rfl, gT_at (i := 400) (by decide +kernel) rfl⟩
theorem okVc_75 : okVc (5, 92, 42) := ⟨gT_at (i := 541) (by decide +kernel) rfl, gT_at (i := 441) (by decide +kernel) rfl, gT_at (i := 442) (by decide +kernel) rfl⟩
theorem okVc_76 : okVc (5, 96, 12) := ⟨gT_at (i := 542) (by decide +kernel) rfl, gT_at (i := 403) (by decide +kernel) rfl, gT_at (i := 404) (by decide +kernel) rfl⟩
theorem okVc_77 : okVc (5, 102, 43) := ⟨gT_at (i := 544) (by decide +kernel) rfl, gT_at (i := 457) (by decide +kernel) rfl, gT_at (i := 458) (by decide +kernel) rfl⟩
theorem okVc_78 : okVc (5, 106, 44) := ⟨gT_at (i := 545) (by decide +kernel) rfl, gT_at (i := 465) (by decide +kernel) rfl, gT_at (i := 466) (by decide +kernel) rfl⟩
theorem okVc_79 : okVc (6, 47, 40) := ⟨gT_at (i := 460) (by decide +kernel) rfl, gT_at (i := 461) (by decide +kernel) rfl, gT_at (i := 462) (by decide +kernel) rfl⟩
theorem okVc_80 : okVc (6, 55, 39) := ⟨gT_at (i := 444) (by decide +kernel) rfl, gT_at (i := 430) (by decide +kernel) rfl, gT_at (i := 431) (by decide +kernel) rfl⟩
theorem okVc_81 : okVc (6, 68, 21) := ⟨gT_at (i := 684) (by decide +kernel) rfl, gT_at (i := 375) (by decide +kernel) rfl, gT_at (i := 376) (by decide +kernel) rfl⟩
theorem okVc_82 : okVc (6, 72, 9) := ⟨gT_at (i := 685) (by decide +kernel) rfl, gT_at (i := 686) (by decide +kernel) rfl, gT_at (i := 687) (by decide +kernel) rfl⟩
theorem okVc_83 : okVc (9, 13, 46) := ⟨gT_at (i := 298) (by decide +kernel) rfl, gT_at (i := 299) (by decide +kernel) rfl, gT_at (i := 300) (by decide +kernel) rfl⟩
theorem okVc_84 : okVc (9, 17, 91) := ⟨gT_at (i := 780) (by decide +kernel) rfl, gT_at (i := 781) (by decide +kernel) rfl, gT_at (i := 782) (by decide +kernel) rfl⟩
theorem okVc_85 : okVc (9, 18, 47) := ⟨gT_at (i := 313) (by decide +kernel) rfl, gT_at (i := 314) (by decide +kernel) rfl, gT_at (i := 315) (by decide +kernel) rfl⟩
theorem okVc_86 : okVc (9, 22, 93) := ⟨gT_at (i := 787) (by decide +kernel) rfl, gT_at (i := 788) (by decide +kernel) rfl, gT_at (i := 789) (by decide +kernel) rfl⟩
theorem okVc_87 : okVc (9, 23, 48) := ⟨gT_at (i := 322) (by decide +kernel) rfl, gT_at (i := 323) (by decide +kernel) rfl, gT_at (i := 324) (by decide +kernel) rfl⟩
theorem okVc_88 : okVc (9, 27, 94) := ⟨gT_at (i := 794) (by decide +kernel) rfl, gT_at (i := 795) (by decide +kernel) rfl, gT_at (i := 796) (by decide +kernel) rfl⟩
theorem okVc_89 : okVc (9, 28, 49) := ⟨gT_at (i := 331) (by decide +kernel) rfl, gT_at (i := 332) (by decide +kernel) rfl, gT_at (i := 333) (by decide +kernel) rfl⟩
theorem okVc_90 : okVc (9, 32, 95) := ⟨gT_at (i := 798) (by decide +kernel) rfl, gT_at (i := 799) (by decide +kernel) rfl, gT_at (i := 800) (by decide +kernel) rfl⟩
theorem okVc_91 : okVc (9, 33, 50) := ⟨gT_at (i := 339) (by decide +kernel) rfl, gT_at (i := 340) (by decide +kernel) rfl, gT_at (i := 341) (by decide +kernel) rfl⟩
theorem okVc_92 : okVc (9, 36, 99) := ⟨gT_at (i := 802) (by decide +kernel) rfl, gT_at (i := 803) (by decide +kernel) rfl, gT_at (i := 804) (by decide +kernel) rfl⟩
theorem okVc_93 : okVc (9, 37, 51) := ⟨gT_at (i := 370) (by decide +kernel) rfl, gT_at (i := 371) (by decide +kernel) rfl, gT_at (i := 372) (by decide +kernel) rfl⟩
theorem okVc_94 : okVc (9, 40, 100) := ⟨gT_at (i := 820) (by decide +kernel) rfl, gT_at (i := 821) (by decide +kernel) rfl, gT_at (i := 822) (by decide +kernel) rfl⟩
theorem okVc_95 : okVc (9, 41, 52) := ⟨gT_at (i := 385) (by decide +kernel) rfl, gT_at (i := 386) (by decide +kernel) rfl, gT_at (i := 387) (by decide +kernel) rfl⟩
theorem okVc_96 : okVc (9, 44, 101) := ⟨gT_at (i := 824) (by decide +kernel) rfl, gT_at (i := 825) (by decide +kernel) rfl, gT_at (i := 826) (by decide +kernel) rfl⟩
theorem okVc_97 : okVc (9, 45, 53) := ⟨gT_at (i := 406) (by decide +kernel) rfl, gT_at (i := 407) (by decide +kernel) rfl, gT_at (i := 408) (by decide +kernel) rfl⟩
theorem okVc_98 : okVc (9, 49, 105) := ⟨gT_at (i := 828) (by decide +kernel) rfl, gT_at (i := 829) (by decide +kernel) rfl, gT_at (i := 830) (by decide +kernel) rfl⟩
theorem okVc_99 : okVc (9, 50, 54) := ⟨gT_at (i := 479) (by decide +kernel) rfl, gT_at (i := 480) (by decide +kernel) rfl, gT_at (i := 481) (by decide +kernel) rfl⟩
theorem okVc_100 : okVc (9, 54, 106) := ⟨gT_at (i := 844) (by decide +kernel) rfl, gT_at (i := 845) (by decide +kernel) rfl, gT_at (i := 846) (by decide +kernel) rfl⟩
theorem okVc_101 : okVc (9, 55, 55) := ⟨gT_at (i := 483) (by decide +kernel) rfl, gT_at (i := 484) (by decide +kernel) rfl, gT_at (i := 485) (by decide +kernel) rfl⟩
theorem okVc_102 : okVc (9, 58, 107) := ⟨gT_at (i := 848) (by decide +kernel) rfl, gT_at (i := 849) (by decide +kernel) rfl, gT_at (i := 850) (by decide +kernel) rfl⟩
theorem okVc_103 : okVc (9, 59, 56) := ⟨gT_at (i := 499) (by decide +kernel) rfl, gT_at (i := 500) (by decide +kernel) rfl, gT_at (i := 501) (by decide +kernel) rfl⟩
theorem okVc_104 : okVc (9, 62, 110) := ⟨gT_at (i := 852) (by decide +kernel) rfl, gT_at (i := 853) (by decide +kernel) rfl, gT_at (i := 854) (by decide +kernel) rfl⟩
theorem okVc_105 : okVc (9, 63, 57) := ⟨gT_at (i := 546) (by decide +kernel) rfl, gT_at (i := 547) (by decide +kernel) rfl, gT_at (i := 548) (by decide +kernel) rfl⟩
theorem okVc_106 : okVc (9, 66, 111) := ⟨gT_at (i := 864) (by decide +kernel) rfl, gT_at (i := 865) (by decide +kernel) rfl, gT_at (i := 866) (by decide +kernel) rfl⟩
theorem okVc_107 : okVc (9, 67, 58) := ⟨gT_at (i := 573) (by decide +kernel) rfl, gT_at (i := 574) (by decide +kernel) rfl, gT_at (i := 575) (by decide +kernel) rfl⟩
theorem okVc_108 : okVc (9, 70, 112) := ⟨gT_at (i := 871) (by decide +kernel) rfl, gT_at (i := 872) (by decide +kernel) rfl, gT_at (i := 873) (by decide +kernel) rfl⟩
theorem okVc_109 : okVc (9, 71, 59) := ⟨gT_at (i := 577) (by decide +kernel) rfl, gT_at (i := 578) (by decide +kernel) rfl, gT_at (i := 579) (by decide +kernel) rfl⟩
theorem okVc_110 : okVc (9, 74, 114) := ⟨gT_at (i := 875) (by decide +kernel) rfl, gT_at (i := 876) (by decide +kernel) rfl, gT_at (i := 877) (by decide +kernel) rfl⟩
theorem okVc_111 : okVc (9, 75, 60) := ⟨gT_at (i := 586) (by decide +kernel) rfl, gT_at (i := 587) (by decide +kernel) rfl, gT_at (i := 588) (by decide +kernel) rfl⟩
theorem okVc_112 : okVc (9, 78, 115) := ⟨gT_at (i := 883) (by decide +kernel) rfl, gT_at (i := 884) (by decide +kernel) rfl, gT_at (i := 885) (by decide +kernel) rfl⟩
theorem okVc_113 : okVc (9, 79, 61) := ⟨gT_at (i := 594) (by decide +kernel) rfl, gT_at (i := 595) (by decide +kernel) rfl, gT_at (i := 596) (by decide +kernel) rfl⟩
theorem okVc_114 : okVc (9, 82, 118) := ⟨gT_at (i := 887) (by decide +kernel) rfl, gT_at (i := 888) (by decide +kernel) rfl, gT_at (i := 889) (by decide +kernel) rfl⟩
theorem okVc_115 : okVc (9, 83, 62) := ⟨gT_at (i := 620) (by decide +kernel) rfl, gT_at (i := 621) (by decide +kernel) rfl, gT_at (i := 622) (by decide +kernel) rfl⟩
theorem okVc_116 : okVc (9, 86, 119) := ⟨gT_at (i := 899) (by decide +kernel) rfl, gT_at (i := 900) (by decide +kernel) rfl, gT_at (i := 901) (by decide +kernel) rfl⟩
theorem okVc_117 : okVc (9, 87, 63) := ⟨gT_at (i := 629) (by decide +kernel) rfl, gT_at (i := 630) (by decide +kernel) rfl, gT_at (i := 631) (by decide +kernel) rfl⟩
theorem okVc_118 : okVc (9, 90, 120) := ⟨gT_at (i := 903) (by decide +kernel) rfl, gT_at (i := 904) (by decide +kernel) rfl, gT_at (i := 905) (by decide +kernel) rfl⟩
theorem okVc_119 : okVc (9, 91, 64) := ⟨gT_at (i := 633) (by decide +kernel) rfl, gT_at (i := 634) (by decide +kernel) rfl, gT_at (i := 635) (by decide +kernel) rfl⟩
theorem okVc_120 : okVc (9, 94, 122) := ⟨gT_at (i := 907) (by decide +kernel) rfl, gT_at (i := 908) (by decide +kernel) rfl, gT_at (i := 909) (by decide +kernel) rfl⟩
theorem okVc_121 : okVc (9, 95, 65) := ⟨gT_at (i := 653) (by decide +kernel) rfl, gT_at (i := 654) (by decide +kernel) rfl, gT_at (i := 655) (by decide +kernel) rfl⟩
theorem okVc_122 : okVc (9, 98, 123) := ⟨gT_at (i := 915) (by decide +kernel) rfl, gT_at (i := 916) (by decide +kernel) rfl, gT_at (i := 917) (by decide +kernel) rfl⟩
theorem okVc_123 : okVc (9, 99, 66) := ⟨gT_at (i := 662) (by decide +kernel) rfl, gT_at (i := 663) (by decide +kernel) rfl, gT_at (i := 664) (by decide +kernel) rfl⟩
theorem okVc_124 : okVc (9, 102, 124) := ⟨gT_at (i := 919) (by decide +kernel) rfl, gT_at (i := 920) (by decide +kernel) rfl, gT_at (i := 921) (by decide +kernel) rfl⟩
theorem okVc_125 : okVc (9, 103, 67) := ⟨gT_at (i := 671) (by decide +kernel) rfl, gT_at (i := 672) (by decide +kernel) rfl, gT_at (i := 673) (by decide +kernel) rfl⟩
theorem okVc_126 : okVc (9, 106, 125) := ⟨gT_at (i := 924) (by decide +kernel) rfl, gT_at (i := 925) (by decide +kernel) rfl, gT_at (i := 926) (by decide +kernel) rfl⟩
theorem okVc_127 : okVc (9, 107, 68) := ⟨gT_at (i := 690) (by decide +kernel) rfl, gT_at (i := 691) (by decide +kernel) rfl, gT_at (i := 692) (by decide +kernel) rfl⟩
theorem okVc_128 : okVc (9, 110, 126) := ⟨gT_at (i := 928) (by decide +kernel) rfl, gT_at (i := 929) (by decide +kernel) rfl, gT_at (i := 930) (by decide +kernel) rfl⟩
theorem okVc_129 : okVc (9, 111, 69) := ⟨gT_at (i := 694) (by decide +kernel) rfl, gT_at (i := 695) (by decide +kernel) rfl, gT_at (i := 696) (by decide +kernel) rfl⟩
theorem okVc_130 : okVc (9, 114, 127) := ⟨gT_at (i := 932) (by decide +kernel) rfl, gT_at (i := 933) (by decide +kernel) rfl, gT_at (i := 934) (by decide +kernel) rfl⟩
theorem okVc_131 : okVc (8, 79, 97) := ⟨gT_at (i := 806) (by decide +kernel) rfl, gT_at (i := 808) (by decide +kernel) rfl, gT_at (i := 16) (by decide +kernel) rfl⟩
theorem okVc_132 : okVc (8, 83, 98) := ⟨gT_at (i := 813) (by decide +kernel) rfl, gT_at (i := 815) (by decide +kernel) rfl, gT_at (i := 17) (by decide +kernel) rfl⟩
theorem okVc_133 : okVc (8, 104, 104) := ⟨gT_at (i := 832) (by decide +kernel) rfl, gT_at (i := 834) (by decide +kernel) rfl, gT_at (i := 18) (by decide +kernel) rfl⟩
theorem okVc_134 : okVc (8, 107, 102) := ⟨gT_at (i := 836) (by decide +kernel) rfl, gT_at (i := 838) (by decide +kernel) rfl, gT_at (i := 19) (by decide +kernel) rfl⟩
theorem okVc_135 : okVc (8, 110, 103) := ⟨gT_at (i := 840) (by decide +kernel) rfl, gT_at (i := 842) (by decide +kernel) rfl, gT_at (i := 20) (by decide +kernel) rfl⟩
theorem okVc_136 : okVc (8, 117, 108) := ⟨gT_at (i := 860) (by decide +kernel) rfl, gT_at (i := 862) (by decide +kernel) rfl, gT_at (i := 22) (by decide +kernel) rfl⟩
theorem okVc_137 : okVc (8, 120, 109) := ⟨gT_at (i := 856) (by decide +kernel) rfl, gT_at (i := 858) (by decide +kernel) rfl, gT_at (i := 21) (by decide +kernel) rfl⟩
theorem okVc_138 : okVc (8, 126, 113) := ⟨gT_at (i := 879) (by decide +kernel) rfl, gT_at (i := 881) (by decide +kernel) rfl, gT_at (i := 23) (by decide +kernel) rfl⟩
theorem okVc_139 : okVc (8, 130, 117) := ⟨gT_at (i := 895) (by decide +kernel) rfl, gT_at (i := 897) (by decide +kernel) rfl, gT_at (i := 25) (by decide +kernel) rfl⟩
theorem okVc_140 : okVc (8, 133, 116) := ⟨gT_at (i := 891) (by decide +kernel) rfl, gT_at (i := 893) (by decide +kernel) rfl, gT_at (i := 24) (by decide +kernel) rfl⟩
theorem okVc_141 : okVc (8, 137, 121) := ⟨gT_at (i := 911) (by decide +kernel) rfl, gT_at (i := 913) (by decide +kernel) rfl, gT_at (i := 26) (by decide +kernel) rfl⟩
set_option maxRecDepth 100000 in
theorem mVc_ok : ∀ e ∈ mVc, okVc e := List.forall_mem_cons.mpr ⟨okVc_0, List.forall_mem_cons.mpr ⟨okVc_1, List.forall_mem_cons.mpr ⟨okVc_2, List.forall_mem_cons.mpr ⟨okVc_3, List.forall_mem_cons.mpr ⟨okVc_4, List.forall_mem_cons.mpr ⟨okVc_5, List.forall_mem_cons.mpr ⟨okVc_6, List.forall_mem_cons.mpr ⟨okVc_7, List.forall_mem_cons.mpr ⟨okVc_8, List.forall_mem_cons.mpr ⟨okVc_9, List.forall_mem_cons.mpr ⟨okVc_10, List.forall_mem_cons.mpr ⟨okVc_11, List.forall_mem_cons.mpr ⟨okVc_12, List.forall_mem_cons.mpr ⟨okVc_13, List.forall_mem_cons.mpr ⟨okVc_14, List.forall_mem_cons.mpr ⟨okVc_15, List.forall_mem_cons.mpr ⟨okVc_16, List.forall_mem_cons.mpr ⟨okVc_17, List.forall_mem_cons.mpr ⟨okVc_18, List.forall_mem_cons.mpr ⟨okVc_19, List.forall_mem_cons.mpr ⟨okVc_20, List.forall_mem_cons.mpr ⟨okVc_21, List.forall_mem_cons.mpr ⟨okVc_22, List.forall_mem_cons.mpr ⟨okVc_23, List.forall_mem_cons.mpr ⟨okVc_24, List.forall_mem_cons.mpr ⟨okVc_25, List.forall_mem_cons.mpr ⟨okVc_26, List.forall_mem_cons.mpr ⟨okVc_27, List.forall_mem_cons.mpr ⟨okVc_28, List.forall_mem_cons.mpr ⟨okVc_29, List.forall_mem_cons.mpr ⟨okVc_30, List.forall_mem_cons.mpr ⟨okVc_31, List.forall_mem_cons.mpr ⟨okVc_32, List.forall_mem_cons.mpr ⟨okVc_33, List.forall_mem_cons.mpr ⟨okVc_34, List.forall_mem_cons.mpr ⟨okVc_35, List.forall_mem_cons.mpr ⟨okVc_36, List.forall_mem_cons.mpr ⟨okVc_37, List.forall_mem_cons.mpr ⟨okVc_38, List.forall_mem_cons.mpr ⟨okVc_39, List.forall_mem_cons.mpr ⟨okVc_40, List.forall_mem_cons.mpr ⟨okVc_41, List.forall_mem_cons.mpr ⟨okVc_42, List.forall_mem_cons.mpr ⟨okVc_43, List.forall_mem_cons.mpr ⟨okVc_44, List.forall_mem_cons.mpr ⟨okVc_45, List.forall_mem_cons.mpr ⟨okVc_46, List.forall_mem_cons.mpr ⟨okVc_47, List.forall_mem_cons.mpr ⟨okVc_48, List.forall_mem_cons.mpr ⟨okVc_49, List.forall_mem_cons.mpr ⟨okVc_50, List.forall_mem_cons.mpr ⟨okVc_51, List.forall_mem_cons.mpr ⟨okVc_52, List.forall_mem_cons.mpr ⟨okVc_53, List.forall_mem_cons.mpr ⟨okVc_54, List.forall_mem_cons.mpr ⟨okVc_55, List.forall_mem_cons.mpr ⟨okVc_56, List.forall_mem_cons.mpr ⟨okVc_57, List.forall_mem_cons.mpr ⟨okVc_58, List.forall_mem_cons.mpr ⟨okVc_59, List.forall_mem_cons.mpr ⟨okVc_60, List.forall_mem_cons.mpr ⟨okVc_61, List.forall_mem_cons.mpr ⟨okVc_62, List.forall_mem_cons.mpr ⟨okVc_63, List.forall_mem_cons.mpr ⟨okVc_64, List.forall_mem_cons.mpr ⟨okVc_65, List.forall_mem_cons.mpr ⟨okVc_66, List.forall_mem_cons.mpr ⟨okVc_67, List.forall_mem_cons.mpr ⟨okVc_68, List.forall_mem_cons.mpr ⟨okVc_69, List.forall_mem_cons.mpr ⟨okVc_70, List.forall_mem_cons.mpr ⟨okVc_71, List.forall_mem_cons.mpr ⟨okVc_72, List.forall_mem_cons.mpr ⟨okVc_73, List.forall_mem_cons.mpr ⟨okVc_74, List.forall_mem_cons.mpr ⟨okVc_75, List.forall_mem_cons.mpr ⟨okVc_76, List.forall_mem_cons.mpr ⟨okVc_77, List.forall_mem_cons.mpr ⟨okVc_78, List.forall_mem_cons.mpr ⟨okVc_79, List.forall_mem_cons.mpr ⟨okVc_80, List.forall_mem_cons.mpr ⟨okVc_81, List.forall_mem_cons.mpr ⟨okVc_82, List.forall_mem_cons.mpr ⟨okVc_83, List.forall_mem_cons.mpr ⟨okVc_84, List.forall_mem_cons.mpr ⟨okVc_85, List.forall_mem_cons.mpr ⟨okVc_86, List.forall_mem_cons.mpr ⟨okVc_87, List.forall_mem_cons.mpr ⟨okVc_88, List.forall_mem_cons.mpr ⟨okVc_89, List.forall_mem_cons.mpr ⟨okVc_90, List.forall_mem_cons.mpr ⟨okVc_91, List.forall_mem_cons.mpr ⟨okVc_92, List.forall_mem_cons.mpr ⟨okVc_93, List.forall_mem_cons.mpr ⟨okVc_94, List.forall_mem_cons.mpr ⟨okVc_95, List.forall_mem_cons.mpr ⟨okVc_96, List.forall_mem_cons.mpr ⟨okVc_97, List.forall_mem_cons.mpr ⟨okVc_98, List.forall_mem_cons.mpr ⟨okVc_99, List.forall_mem_cons.mpr ⟨okVc_100, List.forall_mem_cons.mpr ⟨okVc_101, List.forall_mem_cons.mpr ⟨okVc_102, List.forall_mem_cons.mpr ⟨okVc_103, List.forall_mem_cons.mpr ⟨okVc_104, List.forall_mem_cons.mpr ⟨okVc_105, List.forall_mem_cons.mpr ⟨okVc_106, List.forall_mem_cons.mpr ⟨okVc_107, List.forall_mem_cons.mpr ⟨okVc_108, List.forall_mem_cons.mpr ⟨okVc_109, List.forall_mem_cons.mpr ⟨okVc_110, List.forall_mem_cons.mpr ⟨okVc_111, List.forall_mem_cons.mpr ⟨okVc_112, List.forall_mem_cons.mpr ⟨okVc_113, List.forall_mem_cons.mpr ⟨okVc_114, List.forall_mem_cons.mpr ⟨okVc_115, List.forall_mem_cons.mpr ⟨okVc_116, List.forall_mem_cons.mpr ⟨okVc_117, List.forall_mem_cons.mpr ⟨okVc_118, List.forall_mem_cons.mpr ⟨okVc_119, List.forall_mem_cons.mpr ⟨okVc_120, List.forall_mem_cons.mpr ⟨okVc_121, List.forall_mem_cons.mpr ⟨okVc_122, List.forall_mem_cons.mpr ⟨okVc_123, List.forall_mem_cons.mpr ⟨okVc_124, List.forall_mem_cons.mpr ⟨okVc_125, List.forall_mem_cons.mpr ⟨okVc_126, List.forall_mem_cons.mpr ⟨okVc_127, List.forall_mem_cons.mpr ⟨okVc_128, List.forall_mem_cons.mpr ⟨okVc_129, List.forall_mem_cons.mpr ⟨okVc_130, List.forall_mem_cons.mpr ⟨okVc_131, List.forall_mem_cons.mpr ⟨okVc_132, List.forall_mem_cons.mpr ⟨okVc_133, List.forall_mem_cons.mpr ⟨okVc_134, List.forall_mem_cons.mpr ⟨okVc_135, List.forall_mem_cons.mpr ⟨okVc_136, List.forall_mem_cons.mpr ⟨okVc_137, List.forall_mem_cons.mpr ⟨okVc_138, List.forall_mem_cons.mpr ⟨okVc_139, List.forall_mem_cons.mpr ⟨okVc_140, List.forall_mem_cons.mpr ⟨okVc_141, fun _ h => absurd h List.not_mem_nil⟩⟩⟩⟩⟩⟩⟩⟩⟩⟩⟩⟩⟩⟩⟩⟩⟩⟩⟩⟩⟩⟩⟩⟩⟩⟩⟩⟩⟩⟩⟩⟩⟩⟩⟩⟩⟩⟩⟩⟩⟩⟩⟩⟩⟩⟩⟩⟩⟩⟩⟩⟩⟩⟩⟩⟩⟩⟩⟩⟩⟩⟩⟩⟩⟩⟩⟩⟩⟩⟩⟩⟩⟩⟩⟩⟩⟩⟩⟩⟩⟩⟩⟩⟩⟩⟩⟩⟩⟩⟩⟩⟩⟩⟩⟩⟩⟩⟩⟩⟩⟩⟩⟩⟩⟩⟩⟩⟩⟩⟩⟩⟩⟩⟩⟩⟩⟩⟩⟩⟩⟩⟩⟩⟩⟩⟩⟩⟩⟩⟩⟩⟩⟩⟩⟩⟩⟩⟩⟩⟩⟩⟩
theorem okMt_0 : okMt (yX0_litresAt, cX0_litresAt, 2, (some .int), 0, 2, 1) := ⟨gT_at (i := 473) (by decide +kernel) rfl, gT_at (i := 33) (by decide +kernel) rfl, rfl, by decide +kernel, by decide +kernel, by decide +kernel⟩
theorem okMt_1 : okMt (yX0_heatAt, cX0_heatAt, 2, (some .int), 0, 2, 1) := ⟨gT_at (i := 478) (by decide +kernel) rfl, gT_at (i := 33) (by decide +kernel) rfl, rfl, by decide +kernel, by decide +kernel, by decide +kernel⟩
theorem okMt_2 : okMt (yX0_tenthsAt, cX0_tenthsAt, 3, (some .int), 0, 2, 1) := ⟨gT_at (i := 649) (by decide +kernel) rfl, gT_at (i := 33) (by decide +kernel) rfl, rfl, by decide +kernel, by decide +kernel, by decide +kernel⟩
theorem okMt_3 : okMt (yX0_follow, cX0_follow, 10, none, 0, 5, 0) := ⟨gT_at (i := 437) (by decide +kernel) rfl, gT_at (i := 33) (by decide +kernel) rfl, rfl, by decide +kernel, by decide +kernel, by decide +kernel⟩
theorem okMt_4 : okMt (yX0_meetHouse, cX0_meetHouse, 7, (some .int), 0, 6, 1) := ⟨gT_at (i := 454) (by decide +kernel) rfl, gT_at (i := 33) (by decide +kernel) rfl, rfl, by decide +kernel, by decide +kernel, by decide +kernel⟩
theorem okMt_5 : okMt (yX0_worthOfServed, cX0_worthOfServed, 3, (some .int), 0, 1, 1) := ⟨gT_at (i := 670) (by decide +kernel) rfl, gT_at (i := 33) (by decide +kernel) rfl, rfl, by decide +kernel, by decide +kernel, by decide +kernel⟩
theorem okMt_6 : okMt (yX1_add, cX1_add, 4, (some .boolean), 1, 4, 1) := ⟨gT_at (i := 627) (by decide +kernel) rfl, gT_at (i := 32) (by decide +kernel) rfl, rfl, by decide +kernel, by decide +kernel, by decide +kernel⟩
theorem okMt_7 : okMt (yX1_clear, cX1_clear, 2, (some .int), 1, 1, 1) := ⟨gT_at (i := 384) (by decide +kernel) rfl, gT_at (i := 32) (by decide +kernel) rfl, rfl, by decide +kernel, by decide +kernel, by decide +kernel⟩
theorem okMt_8 : okMt (yX1_fitsTo, cX1_fitsTo, 4, (some .boolean), 1, 2, 1) := ⟨gT_at (i := 644) (by decide +kernel) rfl, gT_at (i := 32) (by decide +kernel) rfl, rfl, by decide +kernel, by decide +kernel, by decide +kernel⟩
theorem okMt_9 : okMt (yX1_copyOf, cX1_copyOf, 2, none, 1, 2, 0) := ⟨gT_at (i := 688) (by decide +kernel) rfl, gT_at (i := 32) (by decide +kernel) rfl, rfl, by decide +kernel, by decide +kernel, by decide +kernel⟩
theorem okMt_10 : okMt (yX2_kindOf, cX2_kindOf, 2, (some .int), 2, 2, 1) := ⟨gT_at (i := 396) (by decide +kernel) rfl, gT_at (i := 30) (by decide +kernel) rfl, rfl, by decide +kernel, by decide +kernel, by decide +kernel⟩
theorem okMt_11 : okMt (yX2_lossAheadOf, cX2_lossAheadOf, 2, (some .int), 2, 2, 1) := ⟨gT_at (i := 401) (by decide +kernel) rfl, gT_at (i := 30) (by decide +kernel) rfl, rfl, by decide +kernel, by decide +kernel, by decide +kernel⟩
theorem okMt_12 : okMt (yX2_brookAheadOf, cX2_brookAheadOf, 2, (some .int), 2, 2, 1) := ⟨gT_at (i := 405) (by decide +kernel) rfl, gT_at (i := 30) (by decide +kernel) rfl, rfl, by decide +kernel, by decide +kernel, by decide +kernel⟩
theorem okMt_13 : okMt (yX2_isFull, cX2_isFull, 1, (some .boolean), 2, 1, 1) := ⟨gT_at (i := 263) (by decide +kernel) rfl, gT_at (i := 30) (by decide +kernel) rfl, rfl, by decide +kernel, by decide +kernel, by decide +kernel⟩
theorem okMt_14 : okMt (yX2_houseSets, cX2_houseSets, 1, (some .int), 2, 1, 1) := ⟨gT_at (i := 428) (by decide +kernel) rfl, gT_at (i := 30) (by decide +kernel) rfl, rfl, by decide +kernel, by decide +kernel, by decide +kernel⟩
theorem okMt_15 : okMt (yX2_brookSets, cX2_brookSets, 1, (some .int), 2, 1, 1) := ⟨gT_at (i := 420) (by decide +kernel) rfl, gT_at (i := 30) (by decide +kernel) rfl, rfl, by decide +kernel, by decide +kernel, by decide +kernel⟩
theorem okMt_16 : okMt (yX2_pipeBits, cX2_pipeBits, 3, (some .int), 2, 1, 1) := ⟨gT_at (i := 557) (by decide +kernel) rfl, gT_at (i := 30) (by decide +kernel) rfl, rfl, by decide +kernel, by decide +kernel, by decide +kernel⟩
theorem okMt_17 : okMt (yX2_clear, cX2_clear, 1, none, 2, 1, 0) := ⟨gT_at (i := 350) (by decide +kernel) rfl, gT_at (i := 30) (by decide +kernel) rfl, rfl, by decide +kernel, by decide +kernel, by decide +kernel⟩
theorem okMt_18 : okMt (yX2_addHouse, cX2_addHouse, 4, none, 2, 4, 0) := ⟨gT_at (i := 259) (by decide +kernel) rfl, gT_at (i := 30) (by decide +kernel) rfl, rfl, by decide +kernel, by decide +kernel, by decide +kernel⟩
theorem okMt_19 : okMt (yX2_insertHouse, cX2_insertHouse, 4, none, 2, 3, 0) := ⟨gT_at (i := 585) (by decide +kernel) rfl, gT_at (i := 30) (by decide +kernel) rfl, rfl, by decide +kernel, by decide +kernel, by decide +kernel⟩
theorem okMt_20 : okMt (yX2_coverPipes, cX2_coverPipes, 3, none, 2, 2, 0) := ⟨gT_at (i := 571) (by decide +kernel) rfl, gT_at (i := 30) (by decide +kernel) rfl, rfl, by decide +kernel, by decide +kernel, by decide +kernel⟩
theorem okMt_21 : okMt (yX2_copyOf, cX2_copyOf, 2, none, 2, 2, 0) := ⟨gT_at (i := 377) (by decide +kernel) rfl, gT_at (i := 30) (by decide +kernel) rfl, rfl, by decide +kernel, by decide +kernel, by decide +kernel⟩
theorem okMt_22 : okMt (yX3_search, cX3_search, 2, none, 3, 2, 0) := ⟨gT_at (i := 601) (by decide +kernel) rfl, gT_at (i := 35) (by decide +kernel) rfl, rfl, by decide +kernel, by decide +kernel, by decide +kernel⟩
theorem okMt_23 : okMt (yX3_worthLeft, cX3_worthLeft, 5, (some .int), 3, 2, 1) := ⟨gT_at (i := 609) (by decide +kernel) rfl, gT_at (i := 35) (by decide +kernel) rfl, rfl, by decide +kernel, by decide +kernel, by decide +kernel⟩
theorem okMt_24 : okMt (yX3_descend, cX3_descend, 11, none, 3, 5, 0) := ⟨gT_at (i := 605) (by decide +kernel) rfl, gT_at (i := 35) (by decide +kernel) rfl, rfl, by decide +kernel, by decide +kernel, by decide +kernel⟩
theorem okMt_25 : okMt (yX4_addSign, cX4_addSign, 2, (some .boolean), 4, 2, 1) := ⟨gT_at (i := 329) (by decide +kernel) rfl, gT_at (i := 29) (by decide +kernel) rfl, rfl, by decide +kernel, by decide +kernel, by decide +kernel⟩
theorem okMt_26 : okMt (yX4_clear, cX4_clear, 2, (some .int), 4, 1, 1) := ⟨gT_at (i := 338) (by decide +kernel) rfl, gT_at (i := 29) (by decide +kernel) rfl, rfl, by decide +kernel, by decide +kernel, by decide +kernel⟩
theorem okMt_27 : okMt (yX4_brooksIn, cX4_brooksIn, 2, (some .int), 4, 2, 1) := ⟨gT_at (i := 490) (by decide +kernel) rfl, gT_at (i := 29) (by decide +kernel) rfl, rfl, by decide +kernel, by decide +kernel, by decide +kernel⟩
theorem okMt_28 : okMt (yX4_drawsIn, cX4_drawsIn, 2, (some .int), 4, 2, 1) := ⟨gT_at (i := 494) (by decide +kernel) rfl, gT_at (i := 29) (by decide +kernel) rfl, rfl, by decide +kernel, by decide +kernel, by decide +kernel⟩
theorem okMt_29 : okMt (yX4_readLane, cX4_readLane, 6, (some .int), 4, 1, 1) := ⟨gT_at (i := 346) (by decide +kernel) rfl, gT_at (i := 29) (by decide +kernel) rfl, rfl, by decide +kernel, by decide +kernel, by decide +kernel⟩
theorem okMt_30 : okMt (yX4_readDay, cX4_readDay, 9, (some .int), 4, 2, 1) := ⟨gT_at (i := 362) (by decide +kernel) rfl, gT_at (i := 29) (by decide +kernel) rfl, rfl, by decide +kernel, by decide +kernel, by decide +kernel⟩
theorem okMt_31 : okMt (yX4_keepHour, cX4_keepHour, 4, none, 4, 4, 0) := ⟨gT_at (i := 366) (by decide +kernel) rfl, gT_at (i := 29) (by decide +kernel) rfl, rfl, by decide +kernel, by decide +kernel, by decide +kernel⟩
theorem okMt_32 : okMt (yX4_kindBySign, cX4_kindBySign, 2, (some .int), 4, 1, 1) := ⟨gT_at (i := 354) (by decide +kernel) rfl, gT_at (i := 29) (by decide +kernel) rfl, rfl, by decide +kernel, by decide +kernel, by decide +kernel⟩
theorem okMt_33 : okMt (yX5_forgetPlans, cX5_forgetPlans, 1, none, 5, 1, 0) := ⟨gT_at (i := 510) (by decide +kernel) rfl, gT_at (i := 34) (by decide +kernel) rfl, rfl, by decide +kernel, by decide +kernel, by decide +kernel⟩
theorem okMt_34 : okMt (yX5_improve, cX5_improve, 5, (some .boolean), 5, 2, 1) := ⟨gT_at (i := 514) (by decide +kernel) rfl, gT_at (i := 34) (by decide +kernel) rfl, rfl, by decide +kernel, by decide +kernel, by decide +kernel⟩
theorem okMt_35 : okMt (yX5_sumWorthBehind, cX5_sumWorthBehind, 4, none, 5, 1, 0) := ⟨gT_at (i := 519) (by decide +kernel) rfl, gT_at (i := 34) (by decide +kernel) rfl, rfl, by decide +kernel, by decide +kernel, by decide +kernel⟩
theorem okMt_36 : okMt (yX5_mayWin, cX5_mayWin, 2, (some .boolean), 5, 2, 1) := ⟨gT_at (i := 539) (by decide +kernel) rfl, gT_at (i := 34) (by decide +kernel) rfl, rfl, by decide +kernel, by decide +kernel, by decide +kernel⟩
theorem okMt_37 : okMt (yX5_offer, cX5_offer, 3, none, 5, 3, 0) := ⟨gT_at (i := 534) (by decide +kernel) rfl, gT_at (i := 34) (by decide +kernel) rfl, rfl, by decide +kernel, by decide +kernel, by decide +kernel⟩
theorem okMt_38 : okMt (yX5_descend, cX5_descend, 10, none, 5, 6, 0) := ⟨gT_at (i := 530) (by decide +kernel) rfl, gT_at (i := 34) (by decide +kernel) rfl, rfl, by decide +kernel, by decide +kernel, by decide +kernel⟩
theorem okMt_39 : okMt (yX6_springValue, cX6_springValue, 2, (some .int), 6, 2, 1) := ⟨gT_at (i := 432) (by decide +kernel) rfl, gT_at (i := 31) (by decide +kernel) rfl, rfl, by decide +kernel, by decide +kernel, by decide +kernel⟩
theorem okMt_40 : okMt (yX6_kindValue, cX6_kindValue, 3, (some .int), 6, 3, 1) := ⟨gT_at (i := 463) (by decide +kernel) rfl, gT_at (i := 31) (by decide +kernel) rfl, rfl, by decide +kernel, by decide +kernel, by decide +kernel⟩
theorem okMt_41 : okMt (yX6_isWanting, cX6_isWanting, 3, (some .boolean), 6, 3, 1) := ⟨gT_at (i := 525) (by decide +kernel) rfl, gT_at (i := 31) (by decide +kernel) rfl, rfl, by decide +kernel, by decide +kernel, by decide +kernel⟩
theorem okMt_42 : okMt (yX6_heatBehindPipe, cX6_heatBehindPipe, 5, (some .int), 6, 4, 1) := ⟨gT_at (i := 443) (by decide +kernel) rfl, gT_at (i := 31) (by decide +kernel) rfl, rfl, by decide +kernel, by decide +kernel, by decide +kernel⟩
theorem okMt_43 : okMt (yX6_isHarmed, cX6_isHarmed, 4, (some .boolean), 6, 4, 1) := ⟨gT_at (i := 459) (by decide +kernel) rfl, gT_at (i := 31) (by decide +kernel) rfl, rfl, by decide +kernel, by decide +kernel, by decide +kernel⟩
theorem okMt_44 : okMt (yX6_isServed, cX6_isServed, 5, (some .boolean), 6, 5, 1) := ⟨gT_at (i := 467) (by decide +kernel) rfl, gT_at (i := 31) (by decide +kernel) rfl, rfl, by decide +kernel, by decide +kernel, by decide +kernel⟩
theorem okMt_45 : okMt (yX6_copyOf, cX6_copyOf, 2, none, 6, 2, 0) := ⟨gT_at (i := 682) (by decide +kernel) rfl, gT_at (i := 31) (by decide +kernel) rfl, rfl, by decide +kernel, by decide +kernel, by decide +kernel⟩
theorem okMt_46 : okMt (yX7_spring, cX7_spring, 3, (some .int), 7, 3, 1) := ⟨gT_at (i := 301) (by decide +kernel) rfl, gT_at (i := 28) (by decide +kernel) rfl, rfl, by decide +kernel, by decide +kernel, by decide +kernel⟩
theorem okMt_47 : okMt (yX7_kind, cX7_kind, 4, (some .int), 7, 4, 1) := ⟨gT_at (i := 316) (by decide +kernel) rfl, gT_at (i := 28) (by decide +kernel) rfl, rfl, by decide +kernel, by decide +kernel, by decide +kernel⟩
theorem okMt_48 : okMt (yX7_say, cX7_say, 2, (some .int), 7, 2, 1) := ⟨gT_at (i := 325) (by decide +kernel) rfl, gT_at (i := 28) (by decide +kernel) rfl, rfl, by decide +kernel, by decide +kernel, by decide +kernel⟩
theorem okMt_49 : okMt (yX7_wipe, cX7_wipe, 1, (some .int), 7, 1, 1) := ⟨gT_at (i := 334) (by decide +kernel) rfl, gT_at (i := 28) (by decide +kernel) rfl, rfl, by decide +kernel, by decide +kernel, by decide +kernel⟩
theorem okMt_50 : okMt (yX7_fault, cX7_fault, 2, (some .int), 7, 2, 1) := ⟨gT_at (i := 342) (by decide +kernel) rfl, gT_at (i := 28) (by decide +kernel) rfl, rfl, by decide +kernel, by decide +kernel, by decide +kernel⟩
theorem okMt_51 : okMt (yX7_lane, cX7_lane, 1, (some .int), 7, 1, 1) := ⟨gT_at (i := 373) (by decide +kernel) rfl, gT_at (i := 28) (by decide +kernel) rfl, rfl, by decide +kernel, by decide +kernel, by decide +kernel⟩
theorem okMt_52 : okMt (yX7_house, cX7_house, 3, (some .int), 7, 3, 1) := ⟨gT_at (i := 388) (by decide +kernel) rfl, gT_at (i := 28) (by decide +kernel) rfl, rfl, by decide +kernel, by decide +kernel, by decide +kernel⟩
theorem okMt_53 : okMt (yX7_at, cX7_at, 6, (some .int), 7, 6, 1) := ⟨gT_at (i := 409) (by decide +kernel) rfl, gT_at (i := 28) (by decide +kernel) rfl, rfl, by decide +kernel, by decide +kernel, by decide +kernel⟩
theorem okMt_54 : okMt (yX7_run, cX7_run, 5, (some .int), 7, 5, 1) := ⟨gT_at (i := 482) (by decide +kernel) rfl, gT_at (i := 28) (by decide +kernel) rfl, rfl, by decide +kernel, by decide +kernel, by decide +kernel⟩
theorem okMt_55 : okMt (yX7_judge, cX7_judge, 3, (some .int), 7, 2, 1) := ⟨gT_at (i := 486) (by decide +kernel) rfl, gT_at (i := 28) (by decide +kernel) rfl, rfl, by decide +kernel, by decide +kernel, by decide +kernel⟩
theorem okMt_56 : okMt (yX7_best, cX7_best, 3, (some .int), 7, 3, 1) := ⟨gT_at (i := 502) (by decide +kernel) rfl, gT_at (i := 28) (by decide +kernel) rfl, rfl, by decide +kernel, by decide +kernel, by decide +kernel⟩
theorem okMt_57 : okMt (yX7_moss, cX7_moss, 5, (some .int), 7, 4, 1) := ⟨gT_at (i := 549) (by decide +kernel) rfl, gT_at (i := 28) (by decide +kernel) rfl, rfl, by decide +kernel, by decide +kernel, by decide +kernel⟩
theorem okMt_58 : okMt (yX7_cools, cX7_cools, 5, (some .int), 7, 4, 1) := ⟨gT_at (i := 576) (by decide +kernel) rfl, gT_at (i := 28) (by decide +kernel) rfl, rfl, by decide +kernel, by decide +kernel, by decide +kernel⟩
theorem okMt_59 : okMt (yX7_put, cX7_put, 4, (some .int), 7, 4, 1) := ⟨gT_at (i := 580) (by decide +kernel) rfl, gT_at (i := 28) (by decide +kernel) rfl, rfl, by decide +kernel, by decide +kernel, by decide +kernel⟩
theorem okMt_60 : okMt (yX7_where, cX7_where, 5, (some .int), 7, 4, 1) := ⟨gT_at (i := 589) (by decide +kernel) rfl, gT_at (i := 28) (by decide +kernel) rfl, rfl, by decide +kernel, by decide +kernel, by decide +kernel⟩
theorem okMt_61 : okMt (yX7_order, cX7_order, 3, (some .int), 7, 3, 1) := ⟨gT_at (i := 597) (by decide +kernel) rfl, gT_at (i := 28) (by decide +kernel) rfl, rfl, by decide +kernel, by decide +kernel, by decide +kernel⟩
theorem okMt_62 : okMt (yX7_felt, cX7_felt, 4, (some .int), 7, 4, 1) := ⟨gT_at (i := 623) (by decide +kernel) rfl, gT_at (i := 28) (by decide +kernel) rfl, rfl, by decide +kernel, by decide +kernel, by decide +kernel⟩
theorem okMt_63 : okMt (yX7_forget, cX7_forget, 1, (some .int), 7, 1, 1) := ⟨gT_at (i := 632) (by decide +kernel) rfl, gT_at (i := 28) (by decide +kernel) rfl, rfl, by decide +kernel, by decide +kernel, by decide +kernel⟩
theorem okMt_64 : okMt (yX7_fits, cX7_fits, 5, (some .int), 7, 4, 1) := ⟨gT_at (i := 636) (by decide +kernel) rfl, gT_at (i := 28) (by decide +kernel) rfl, rfl, by decide +kernel, by decide +kernel, by decide +kernel⟩
theorem okMt_65 : okMt (yX7_door, cX7_door, 9, (some .int), 7, 4, 1) := ⟨gT_at (i := 656) (by decide +kernel) rfl, gT_at (i := 28) (by decide +kernel) rfl, rfl, by decide +kernel, by decide +kernel, by decide +kernel⟩
theorem okMt_66 : okMt (yX7_winter, cX7_winter, 10, (some .int), 7, 4, 1) := ⟨gT_at (i := 665) (by decide +kernel) rfl, gT_at (i := 28) (by decide +kernel) rfl, rfl, by decide +kernel, by decide +kernel, by decide +kernel⟩
theorem okMt_67 : okMt (yX7_image, cX7_image, 2, (some .int), 7, 2, 1) := ⟨gT_at (i := 674) (by decide +kernel) rfl, gT_at (i := 28) (by decide +kernel) rfl, rfl, by decide +kernel, by decide +kernel, by decide +kernel⟩
theorem okMt_68 : okMt (yX7_restore, cX7_restore, 2, (some .int), 7, 2, 1) := ⟨gT_at (i := 693) (by decide +kernel) rfl, gT_at (i := 28) (by decide +kernel) rfl, rfl, by decide +kernel, by decide +kernel, by decide +kernel⟩
theorem okMt_69 : okMt (yX7_told, cX7_told, 3, (some .int), 7, 2, 1) := ⟨gT_at (i := 697) (by decide +kernel) rfl, gT_at (i := 28) (by decide +kernel) rfl, rfl, by decide +kernel, by decide +kernel, by decide +kernel⟩
theorem okMt_70 : okMt (yX7_isNoHour, cX7_isNoHour, 1, (some .boolean), 7, 1, 1) := ⟨gT_at (i := 412) (by decide +kernel) rfl, gT_at (i := 28) (by decide +kernel) rfl, rfl, by decide +kernel, by decide +kernel, by decide +kernel⟩
theorem okMt_71 : okMt (yX7_isNoKind, cX7_isNoKind, 1, (some .boolean), 7, 1, 1) := ⟨gT_at (i := 319) (by decide +kernel) rfl, gT_at (i := 28) (by decide +kernel) rfl, rfl, by decide +kernel, by decide +kernel, by decide +kernel⟩
theorem okMt_72 : okMt (yX7_isNoHouse, cX7_isNoHouse, 2, (some .boolean), 7, 2, 1) := ⟨gT_at (i := 392) (by decide +kernel) rfl, gT_at (i := 28) (by decide +kernel) rfl, rfl, by decide +kernel, by decide +kernel, by decide +kernel⟩
theorem okMt_73 : okMt (yX7_areNoBrooks, cX7_areNoBrooks, 2, (some .boolean), 7, 2, 1) := ⟨gT_at (i := 416) (by decide +kernel) rfl, gT_at (i := 28) (by decide +kernel) rfl, rfl, by decide +kernel, by decide +kernel, by decide +kernel⟩
theorem okMt_74 : okMt (yX7_areNoDraws, cX7_areNoDraws, 2, (some .boolean), 7, 2, 1) := ⟨gT_at (i := 424) (by decide +kernel) rfl, gT_at (i := 28) (by decide +kernel) rfl, rfl, by decide +kernel, by decide +kernel, by decide +kernel⟩
theorem okMt_75 : okMt (yX7_imageOf, cX7_imageOf, 2, (some (.object "HeatDown$Valley")), 7, 2, 2) := ⟨gT_at (i := 678) (by decide +kernel) rfl, gT_at (i := 28) (by decide +kernel) rfl, rfl, by decide +kernel, by decide +kernel, by decide +kernel⟩
theorem okMt_76 : okMt (yX7_planAsItIs, cX7_planAsItIs, 2, none, 7, 2, 0) := ⟨gT_at (i := 506) (by decide +kernel) rfl, gT_at (i := 28) (by decide +kernel) rfl, rfl, by decide +kernel, by decide +kernel, by decide +kernel⟩
theorem okMt_77 : okMt (yX7_searchMoss, cX7_searchMoss, 8, (some .int), 7, 3, 1) := ⟨gT_at (i := 553) (by decide +kernel) rfl, gT_at (i := 28) (by decide +kernel) rfl, rfl, by decide +kernel, by decide +kernel, by decide +kernel⟩
theorem okMt_78 : okMt (yX7_searchPlace, cX7_searchPlace, 5, (some .int), 7, 3, 1) := ⟨gT_at (i := 593) (by decide +kernel) rfl, gT_at (i := 28) (by decide +kernel) rfl, rfl, by decide +kernel, by decide +kernel, by decide +kernel⟩
theorem okMt_79 : okMt (yX7_gatherFitting, cX7_gatherFitting, 6, (some .int), 7, 3, 1) := ⟨gT_at (i := 640) (by decide +kernel) rfl, gT_at (i := 28) (by decide +kernel) rfl, rfl, by decide +kernel, by decide +kernel, by decide +kernel⟩
theorem okMt_80 : okMt (yX7_mostAlike, cX7_mostAlike, 8, (some .int), 7, 3, 1) := ⟨gT_at (i := 660) (by decide +kernel) rfl, gT_at (i := 28) (by decide +kernel) rfl, rfl, by decide +kernel, by decide +kernel, by decide +kernel⟩
theorem okMt_81 : okMt (yX7_cell, cX7_cell, 2, (some .int), 7, 2, 1) := ⟨gT_at (i := 306) (by decide +kernel) rfl, gT_at (i := 28) (by decide +kernel) rfl, rfl, by decide +kernel, by decide +kernel, by decide +kernel⟩
theorem okMt_82 : okMt (yX7_setCell, cX7_setCell, 3, none, 7, 3, 0) := ⟨gT_at (i := 266) (by decide +kernel) rfl, gT_at (i := 28) (by decide +kernel) rfl, rfl, by decide +kernel, by decide +kernel, by decide +kernel⟩
theorem okMt_83 : okMt (yX7_exchange, cX7_exchange, 4, (some .int), 7, 3, 1) := ⟨gT_at (i := 311) (by decide +kernel) rfl, gT_at (i := 28) (by decide +kernel) rfl, rfl, by decide +kernel, by decide +kernel, by decide +kernel⟩
theorem okMt_84 : okMt (yX7_copyRow, cX7_copyRow, 3, none, 7, 2, 0) := ⟨gT_at (i := 380) (by decide +kernel) rfl, gT_at (i := 28) (by decide +kernel) rfl, rfl, by decide +kernel, by decide +kernel, by decide +kernel⟩
theorem okMt_85 : okMt (yX7_hasBit, cX7_hasBit, 2, (some .boolean), 7, 2, 1) := ⟨gT_at (i := 369) (by decide +kernel) rfl, gT_at (i := 28) (by decide +kernel) rfl, rfl, by decide +kernel, by decide +kernel, by decide +kernel⟩
theorem okMt_86 : okMt (yX7_lowestBit, cX7_lowestBit, 2, (some .int), 7, 1, 1) := ⟨gT_at (i := 497) (by decide +kernel) rfl, gT_at (i := 28) (by decide +kernel) rfl, rfl, by decide +kernel, by decide +kernel, by decide +kernel⟩
theorem okMt_87 : okMt (yX8_layKind, cX8_layKind, 6, none, 8, 6, 0) := ⟨gT_at (i := 708) (by decide +kernel) rfl, gT_at (i := 36) (by decide +kernel) rfl, rfl, by decide +kernel, by decide +kernel, by decide +kernel⟩
theorem okMt_88 : okMt (yX8_in, cX8_in, 3, (some .boolean), 8, 3, 1) := ⟨gT_at (i := 786) (by decide +kernel) rfl, gT_at (i := 36) (by decide +kernel) rfl, rfl, by decide +kernel, by decide +kernel, by decide +kernel⟩
theorem okMt_89 : okMt (yX8_has, cX8_has, 2, (some .boolean), 8, 2, 1) := ⟨gT_at (i := 819) (by decide +kernel) rfl, gT_at (i := 36) (by decide +kernel) rfl, rfl, by decide +kernel, by decide +kernel, by decide +kernel⟩
theorem okMt_90 : okMt (yX8_bits, cX8_bits, 3, (some .int), 8, 1, 1) := ⟨gT_at (i := 870) (by decide +kernel) rfl, gT_at (i := 36) (by decide +kernel) rfl, rfl, by decide +kernel, by decide +kernel, by decide +kernel⟩
theorem okMt_91 : okMt (yX8_spring, cX8_spring, 6, (some .int), 8, 3, 1) := ⟨gT_at (i := 783) (by decide +kernel) rfl, gT_at (i := 36) (by decide +kernel) rfl, rfl, by decide +kernel, by decide +kernel, by decide +kernel⟩
theorem okMt_92 : okMt (yX8_mostOf, cX8_mostOf, 1, (some .int), 8, 1, 1) := ⟨gT_at (i := 793) (by decide +kernel) rfl, gT_at (i := 36) (by decide +kernel) rfl, rfl, by decide +kernel, by decide +kernel, by decide +kernel⟩
theorem okMt_93 : okMt (yX8_kind, cX8_kind, 5, (some .int), 8, 4, 1) := ⟨gT_at (i := 790) (by decide +kernel) rfl, gT_at (i := 36) (by decide +kernel) rfl, rfl, by decide +kernel, by decide +kernel, by decide +kernel⟩
theorem okMt_94 : okMt (yX8_say, cX8_say, 2, (some .int), 8, 2, 1) := ⟨gT_at (i := 797) (by decide +kernel) rfl, gT_at (i := 36) (by decide +kernel) rfl, rfl, by decide +kernel, by decide +kernel, by decide +kernel⟩
theorem okMt_95 : okMt (yX8_wipe, cX8_wipe, 2, (some .int), 8, 1, 1) := ⟨gT_at (i := 801) (by decide +kernel) rfl, gT_at (i := 36) (by decide +kernel) rfl, rfl, by decide +kernel, by decide +kernel, by decide +kernel⟩
theorem okMt_96 : okMt (yX8_kindOf, cX8_kindOf, 1, (some .int), 8, 1, 1) := ⟨gT_at (i := 812) (by decide +kernel) rfl, gT_at (i := 36) (by decide +kernel) rfl, rfl, by decide +kernel, by decide +kernel, by decide +kernel⟩
theorem okMt_97 : okMt (yX8_laneFault, cX8_laneFault, 9, (some .int), 8, 1, 1) := ⟨gT_at (i := 809) (by decide +kernel) rfl, gT_at (i := 36) (by decide +kernel) rfl, rfl, by decide +kernel, by decide +kernel, by decide +kernel⟩
theorem okMt_98 : okMt (yX8_dayFault, cX8_dayFault, 8, (some .int), 8, 1, 1) := ⟨gT_at (i := 816) (by decide +kernel) rfl, gT_at (i := 36) (by decide +kernel) rfl, rfl, by decide +kernel, by decide +kernel, by decide +kernel⟩
theorem okMt_99 : okMt (yX8_fault, cX8_fault, 2, (some .int), 8, 2, 1) := ⟨gT_at (i := 805) (by decide +kernel) rfl, gT_at (i := 36) (by decide +kernel) rfl, rfl, by decide +kernel, by decide +kernel, by decide +kernel⟩
theorem okMt_100 : okMt (yX8_lane, cX8_lane, 5, (some .int), 8, 1, 1) := ⟨gT_at (i := 823) (by decide +kernel) rfl, gT_at (i := 36) (by decide +kernel) rfl, rfl, by decide +kernel, by decide +kernel, by decide +kernel⟩
theorem okMt_101 : okMt (yX8_house, cX8_house, 3, (some .int), 8, 3, 1) := ⟨gT_at (i := 827) (by decide +kernel) rfl, gT_at (i := 36) (by decide +kernel) rfl, rfl, by decide +kernel, by decide +kernel, by decide +kernel⟩
theorem okMt_102 : okMt (yX8_asLane, cX8_asLane, 2, none, 8, 1, 0) := ⟨gT_at (i := 839) (by decide +kernel) rfl, gT_at (i := 36) (by decide +kernel) rfl, rfl, by decide +kernel, by decide +kernel, by decide +kernel⟩
theorem okMt_103 : okMt (yX8_go, cX8_go, 14, none, 8, 5, 0) := ⟨gT_at (i := 843) (by decide +kernel) rfl, gT_at (i := 36) (by decide +kernel) rfl, rfl, by decide +kernel, by decide +kernel, by decide +kernel⟩
theorem okMt_104 : okMt (yX8_areBits, cX8_areBits, 4, (some .boolean), 8, 4, 1) := ⟨gT_at (i := 835) (by decide +kernel) rfl, gT_at (i := 36) (by decide +kernel) rfl, rfl, by decide +kernel, by decide +kernel, by decide +kernel⟩
theorem okMt_105 : okMt (yX8_at, cX8_at, 6, (some .int), 8, 6, 1) := ⟨gT_at (i := 831) (by decide +kernel) rfl, gT_at (i := 36) (by decide +kernel) rfl, rfl, by decide +kernel, by decide +kernel, by decide +kernel⟩
theorem okMt_106 : okMt (yX8_run, cX8_run, 5, (some .int), 8, 5, 1) := ⟨gT_at (i := 847) (by decide +kernel) rfl, gT_at (i := 36) (by decide +kernel) rfl, rfl, by decide +kernel, by decide +kernel, by decide +kernel⟩
theorem okMt_107 : okMt (yX8_judge, cX8_judge, 8, (some .int), 8, 2, 1) := ⟨gT_at (i := 851) (by decide +kernel) rfl, gT_at (i := 36) (by decide +kernel) rfl, rfl, by decide +kernel, by decide +kernel, by decide +kernel⟩
theorem okMt_108 : okMt (yX8_worthOf, cX8_worthOf, 4, (some .int), 8, 2, 1) := ⟨gT_at (i := 863) (by decide +kernel) rfl, gT_at (i := 36) (by decide +kernel) rfl, rfl, by decide +kernel, by decide +kernel, by decide +kernel⟩
theorem okMt_109 : okMt (yX8_layBest, cX8_layBest, 5, (some .int), 8, 2, 1) := ⟨gT_at (i := 859) (by decide +kernel) rfl, gT_at (i := 36) (by decide +kernel) rfl, rfl, by decide +kernel, by decide +kernel, by decide +kernel⟩
theorem okMt_110 : okMt (yX8_best, cX8_best, 4, (some .int), 8, 3, 1) := ⟨gT_at (i := 855) (by decide +kernel) rfl, gT_at (i := 36) (by decide +kernel) rfl, rfl, by decide +kernel, by decide +kernel, by decide +kernel⟩
theorem okMt_111 : okMt (yX8_moss, cX8_moss, 8, (some .int), 8, 4, 1) := ⟨gT_at (i := 867) (by decide +kernel) rfl, gT_at (i := 36) (by decide +kernel) rfl, rfl, by decide +kernel, by decide +kernel, by decide +kernel⟩
theorem okMt_112 : okMt (yX8_cools, cX8_cools, 5, (some .int), 8, 4, 1) := ⟨gT_at (i := 874) (by decide +kernel) rfl, gT_at (i := 36) (by decide +kernel) rfl, rfl, by decide +kernel, by decide +kernel, by decide +kernel⟩
theorem okMt_113 : okMt (yX8_putAt, cX8_putAt, 4, none, 8, 3, 0) := ⟨gT_at (i := 882) (by decide +kernel) rfl, gT_at (i := 36) (by decide +kernel) rfl, rfl, by decide +kernel, by decide +kernel, by decide +kernel⟩
theorem okMt_114 : okMt (yX8_put, cX8_put, 4, (some .int), 8, 4, 1) := ⟨gT_at (i := 878) (by decide +kernel) rfl, gT_at (i := 36) (by decide +kernel) rfl, rfl, by decide +kernel, by decide +kernel, by decide +kernel⟩
theorem okMt_115 : okMt (yX8_where, cX8_where, 8, (some .int), 8, 4, 1) := ⟨gT_at (i := 886) (by decide +kernel) rfl, gT_at (i := 36) (by decide +kernel) rfl, rfl, by decide +kernel, by decide +kernel, by decide +kernel⟩
theorem okMt_116 : okMt (yX8_nextOrder, cX8_nextOrder, 5, (some .boolean), 8, 1, 1) := ⟨gT_at (i := 894) (by decide +kernel) rfl, gT_at (i := 36) (by decide +kernel) rfl, rfl, by decide +kernel, by decide +kernel, by decide +kernel⟩
theorem okMt_117 : okMt (yX8_change, cX8_change, 4, none, 8, 3, 0) := ⟨gT_at (i := 898) (by decide +kernel) rfl, gT_at (i := 36) (by decide +kernel) rfl, rfl, by decide +kernel, by decide +kernel, by decide +kernel⟩
theorem okMt_118 : okMt (yX8_order, cX8_order, 7, (some .int), 8, 3, 1) := ⟨gT_at (i := 890) (by decide +kernel) rfl, gT_at (i := 36) (by decide +kernel) rfl, rfl, by decide +kernel, by decide +kernel, by decide +kernel⟩
theorem okMt_119 : okMt (yX8_felt, cX8_felt, 4, (some .int), 8, 4, 1) := ⟨gT_at (i := 902) (by decide +kernel) rfl, gT_at (i := 36) (by decide +kernel) rfl, rfl, by decide +kernel, by decide +kernel, by decide +kernel⟩
theorem okMt_120 : okMt (yX8_forget, cX8_forget, 2, (some .int), 8, 1, 1) := ⟨gT_at (i := 906) (by decide +kernel) rfl, gT_at (i := 36) (by decide +kernel) rfl, rfl, by decide +kernel, by decide +kernel, by decide +kernel⟩
theorem okMt_121 : okMt (yX8_isFelt, cX8_isFelt, 7, (some .boolean), 8, 4, 1) := ⟨gT_at (i := 914) (by decide +kernel) rfl, gT_at (i := 36) (by decide +kernel) rfl, rfl, by decide +kernel, by decide +kernel, by decide +kernel⟩
theorem okMt_122 : okMt (yX8_fits, cX8_fits, 6, (some .int), 8, 4, 1) := ⟨gT_at (i := 910) (by decide +kernel) rfl, gT_at (i := 36) (by decide +kernel) rfl, rfl, by decide +kernel, by decide +kernel, by decide +kernel⟩
theorem okMt_123 : okMt (yX8_door, cX8_door, 11, (some .int), 8, 4, 1) := ⟨gT_at (i := 918) (by decide +kernel) rfl, gT_at (i := 36) (by decide +kernel) rfl, rfl, by decide +kernel, by decide +kernel, by decide +kernel⟩
theorem okMt_124 : okMt (yX8_winter, cX8_winter, 10, (some .int), 8, 4, 1) := ⟨gT_at (i := 922) (by decide +kernel) rfl, gT_at (i := 36) (by decide +kernel) rfl, rfl, by decide +kernel, by decide +kernel, by decide +kernel⟩
theorem okMt_125 : okMt (yX8_image, cX8_image, 4, (some .int), 8, 2, 1) := ⟨gT_at (i := 927) (by decide +kernel) rfl, gT_at (i := 36) (by decide +kernel) rfl, rfl, by decide +kernel, by decide +kernel, by decide +kernel⟩
theorem okMt_126 : okMt (yX8_restore, cX8_restore, 4, (some .int), 8, 2, 1) := ⟨gT_at (i := 931) (by decide +kernel) rfl, gT_at (i := 36) (by decide +kernel) rfl, rfl, by decide +kernel, by decide +kernel, by decide +kernel⟩
theorem okMt_127 : okMt (yX8_told, cX8_told, 3, (some .int), 8, 2, 1) := ⟨gT_at (i := 935) (by decide +kernel) rfl, gT_at (i := 36) (by decide +kernel) rfl, rfl, by decide +kernel, by decide +kernel, by decide +kernel⟩
theorem okMt_128 : okMt (yJ6_bitCount_0f7a4, cJ6_bitCount_0f7a4, 1, (some .int), 10, 1, 1) := ⟨gT_at (i := 561) (by decide +kernel) rfl, gT_at (i := 38) (by decide +kernel) rfl, rfl, by decide +kernel, by decide +kernel, by decide +kernel⟩
set_option maxRecDepth 100000 in
theorem mTab_ok : ∀ q ∈ mTab.take 129, okMt q := List.forall_mem_cons.mpr ⟨okMt_0, List.forall_mem_cons.mpr ⟨okMt_1, List.forall_mem_cons.mpr ⟨okMt_2, List.forall_mem_cons.mpr ⟨okMt_3, List.forall_mem_cons.mpr ⟨okMt_4, List.forall_mem_cons.mpr ⟨okMt_5, List.forall_mem_cons.mpr ⟨okMt_6, List.forall_mem_cons.mpr ⟨okMt_7, List.forall_mem_cons.mpr ⟨okMt_8, List.forall_mem_cons.mpr ⟨okMt_9, List.forall_mem_cons.mpr ⟨okMt_10, List.forall_mem_cons.mpr ⟨okMt_11, List.forall_mem_cons.mpr ⟨okMt_12, List.forall_mem_cons.mpr ⟨okMt_13, List.forall_mem_cons.mpr ⟨okMt_14, List.forall_mem_cons.mpr ⟨okMt_15, List.forall_mem_cons.mpr ⟨okMt_16, List.forall_mem_cons.mpr ⟨okMt_17, List.forall_mem_cons.mpr ⟨okMt_18, List.forall_mem_cons.mpr ⟨okMt_19, List.forall_mem_cons.mpr ⟨okMt_20, List.forall_mem_cons.mpr ⟨okMt_21, List.forall_mem_cons.mpr ⟨okMt_22, List.forall_mem_cons.mpr ⟨okMt_23, List.forall_mem_cons.mpr ⟨okMt_24, List.forall_mem_cons.mpr ⟨okMt_25, List.forall_mem_cons.mpr ⟨okMt_26, List.forall_mem_cons.mpr ⟨okMt_27, List.forall_mem_cons.mpr ⟨okMt_28, List.forall_mem_cons.mpr ⟨okMt_29, List.forall_mem_cons.mpr ⟨okMt_30, List.forall_mem_cons.mpr ⟨okMt_31, List.forall_mem_cons.mpr ⟨okMt_32, List.forall_mem_cons.mpr ⟨okMt_33, List.forall_mem_cons.mpr ⟨okMt_34, List.forall_mem_cons.mpr ⟨okMt_35, List.forall_mem_cons.mpr ⟨okMt_36, List.forall_mem_cons.mpr ⟨okMt_37, List.forall_mem_cons.mpr ⟨okMt_38, List.forall_mem_cons.mpr ⟨okMt_39, List.forall_mem_cons.mpr ⟨okMt_40, List.forall_mem_cons.mpr ⟨okMt_41, List.forall_mem_cons.mpr ⟨okMt_42, List.forall_mem_cons.mpr ⟨okMt_43, List.forall_mem_cons.mpr ⟨okMt_44, List.forall_mem_cons.mpr ⟨okMt_45, List.forall_mem_cons.mpr ⟨okMt_46, List.forall_mem_cons.mpr ⟨okMt_47, List.forall_mem_cons.mpr ⟨okMt_48, List.forall_mem_cons.mpr ⟨okMt_49, List.forall_mem_cons.mpr ⟨okMt_50, List.forall_mem_cons.mpr ⟨okMt_51, List.forall_mem_cons.mpr ⟨okMt_52, List.forall_mem_cons.mpr ⟨okMt_53, List.forall_mem_cons.mpr ⟨okMt_54, List.forall_mem_cons.mpr ⟨okMt_55, List.forall_mem_cons.mpr ⟨okMt_56, List.forall_mem_cons.mpr ⟨okMt_57, List.forall_mem_cons.mpr ⟨okMt_58, List.forall_mem_cons.mpr ⟨okMt_59, List.forall_mem_cons.mpr ⟨okMt_60, List.forall_mem_cons.mpr ⟨okMt_61, List.forall_mem_cons.mpr ⟨okMt_62, List.forall_mem_cons.mpr ⟨okMt_63, List.forall_mem_cons.mpr ⟨okMt_64, List.forall_mem_cons.mpr ⟨okMt_65, List.forall_mem_cons.mpr ⟨okMt_66, List.forall_mem_cons.mpr ⟨okMt_67, List.forall_mem_cons.mpr ⟨okMt_68, List.forall_mem_cons.mpr ⟨okMt_69, List.forall_mem_cons.mpr ⟨okMt_70, List.forall_mem_cons.mpr ⟨okMt_71, List.forall_mem_cons.mpr ⟨okMt_72, List.forall_mem_cons.mpr ⟨okMt_73, List.forall_mem_cons.mpr ⟨okMt_74, List.forall_mem_cons.mpr ⟨okMt_75, List.forall_mem_cons.mpr ⟨okMt_76, List.forall_mem_cons.mpr ⟨okMt_77, List.forall_mem_cons.mpr ⟨okMt_78, List.forall_mem_cons.mpr ⟨okMt_79, List.forall_mem_cons.mpr ⟨okMt_80, List.forall_mem_cons.mpr ⟨okMt_81, List.forall_mem_cons.mpr ⟨okMt_82, List.forall_mem_cons.mpr ⟨okMt_83, List.forall_mem_cons.mpr ⟨okMt_84, List.forall_mem_cons.mpr ⟨okMt_85, List.forall_mem_cons.mpr ⟨okMt_86, List.forall_mem_cons.mpr ⟨okMt_87, List.forall_mem_cons.mpr ⟨okMt_88, List.forall_mem_cons.mpr ⟨okMt_89, List.forall_mem_cons.mpr ⟨okMt_90, List.forall_mem_cons.mpr ⟨okMt_91, List.forall_mem_cons.mpr ⟨okMt_92, List.forall_mem_cons.mpr ⟨okMt_93, List.forall_mem_cons.mpr ⟨okMt_94, List.forall_mem_cons.mpr ⟨okMt_95, List.forall_mem_cons.mpr ⟨okMt_96, List.forall_mem_cons.mpr ⟨okMt_97, List.forall_mem_cons.mpr ⟨okMt_98, List.forall_mem_cons.mpr ⟨okMt_99, List.forall_mem_cons.mpr ⟨okMt_100, List.forall_mem_cons.mpr ⟨okMt_101, List.forall_mem_cons.mpr ⟨okMt_102, List.forall_mem_cons.mpr ⟨okMt_103, List.forall_mem_cons.mpr ⟨okMt_104, List.forall_mem_cons.mpr ⟨okMt_105, List.forall_mem_cons.mpr ⟨okMt_106, List.forall_mem_cons.mpr ⟨okMt_107, List.forall_mem_cons.mpr ⟨okMt_108, List.forall_mem_cons.mpr ⟨okMt_109, List.forall_mem_cons.mpr ⟨okMt_110, List.forall_mem_cons.mpr ⟨okMt_111, List.forall_mem_cons.mpr ⟨okMt_112, List.forall_mem_cons.mpr ⟨okMt_113, List.forall_mem_cons.mpr ⟨okMt_114, List.forall_mem_cons.mpr ⟨okMt_115, List.forall_mem_cons.mpr ⟨okMt_116, List.forall_mem_cons.mpr ⟨okMt_117, List.forall_mem_cons.mpr ⟨okMt_118, List.forall_mem_cons.mpr ⟨okMt_119, List.forall_mem_cons.mpr ⟨okMt_120, List.forall_mem_cons.mpr ⟨okMt_121, List.forall_mem_cons.mpr ⟨okMt_122, List.forall_mem_cons.mpr ⟨okMt_123, List.forall_mem_cons.mpr ⟨okMt_124, List.forall_mem_cons.mpr ⟨okMt_125, List.forall_mem_cons.mpr ⟨okMt_126, List.forall_mem_cons.mpr ⟨okMt_127, List.forall_mem_cons.mpr ⟨okMt_128, fun _ h => absurd h List.not_mem_nil⟩⟩⟩⟩⟩⟩⟩⟩⟩⟩⟩⟩⟩⟩⟩⟩⟩⟩⟩⟩⟩⟩⟩⟩⟩⟩⟩⟩⟩⟩⟩⟩⟩⟩⟩⟩⟩⟩⟩⟩⟩⟩⟩⟩⟩⟩⟩⟩⟩⟩⟩⟩⟩⟩⟩⟩⟩⟩⟩⟩⟩⟩⟩⟩⟩⟩⟩⟩⟩⟩⟩⟩⟩⟩⟩⟩⟩⟩⟩⟩⟩⟩⟩⟩⟩⟩⟩⟩⟩⟩⟩⟩⟩⟩⟩⟩⟩⟩⟩⟩⟩⟩⟩⟩⟩⟩⟩⟩⟩⟩⟩⟩⟩⟩⟩⟩⟩⟩⟩⟩⟩⟩⟩⟩⟩⟩⟩⟩⟩
theorem clw_0 : ∀ w ∈ u_ws RX0 TX0 8, w ∈ gT := by
  intro w hw
  have h : u_ws RX0 TX0 8 = ([178, 180, 182, 184, 186, 188, 190, 192] : List Nat).filterMap (fun i => lw_tbl[i]?) := by decide +kernel
  rw [h] at hw
  obtain ⟨i, -, hi⟩ := List.mem_filterMap.mp hw
  exact gT_at hi (List.all_eq_true.mp (show (u_ws RX0 TX0 8).all goodWord = true by decide +kernel) w (by rw [h]; exact hw))
theorem clw_1 : ∀ w ∈ u_ws RX1 TX1 4, w ∈ gT := by
  intro w hw
  have h : u_ws RX1 TX1 4 = ([131, 133, 135, 137] : List Nat).filterMap (fun i => lw_tbl[i]?) := by decide +kernel
  rw [h] at hw
  obtain ⟨i, -, hi⟩ := List.mem_filterMap.mp hw
  exact gT_at hi (List.all_eq_true.mp (show (u_ws RX1 TX1 4).all goodWord = true by decide +kernel) w (by rw [h]; exact hw))
theorem clw_2 : ∀ w ∈ u_ws RX2 TX2 5, w ∈ gT := by
  intro w hw
  have h : u_ws RX2 TX2 5 = ([71, 73, 75, 77, 79] : List Nat).filterMap (fun i => lw_tbl[i]?) := by decide +kernel
  rw [h] at hw
  obtain ⟨i, -, hi⟩ := List.mem_filterMap.mp hw
  exact gT_at hi (List.all_eq_true.mp (show (u_ws RX2 TX2 5).all goodWord = true by decide +kernel) w (by rw [h]; exact hw))
theorem clw_3 : ∀ w ∈ u_ws RX3 TX3 5, w ∈ gT := by
  intro w hw
  have h : u_ws RX3 TX3 5 = ([245, 247, 249, 251, 253] : List Nat).filterMap (fun i => lw_tbl[i]?) := by decide +kernel
  rw [h] at hw
  obtain ⟨i, -, hi⟩ := List.mem_filterMap.mp hw
  exact gT_at hi (List.all_eq_true.mp (show (u_ws RX3 TX3 5).all goodWord = true by decide +kernel) w (by rw [h]; exact hw))
theorem clw_4 : ∀ w ∈ u_ws RX4 TX4 5, w ∈ gT := by
  intro w hw
  have h : u_ws RX4 TX4 5 = ([90, 92, 94, 96, 98] : List Nat).filterMap (fun i => lw_tbl[i]?) := by decide +kernel
  rw [h] at hw
  obtain ⟨i, -, hi⟩ := List.mem_filterMap.mp hw
  exact gT_at hi (List.all_eq_true.mp (show (u_ws RX4 TX4 5).all goodWord = true by decide +kernel) w (by rw [h]; exact hw))
theorem clw_5 : ∀ w ∈ u_ws RX5 TX5 8, w ∈ gT := by
  intro w hw
  have h : u_ws RX5 TX5 8 = ([215, 217, 219, 221, 223, 225, 227, 229] : List Nat).filterMap (fun i => lw_tbl[i]?) := by decide +kernel
  rw [h] at hw
  obtain ⟨i, -, hi⟩ := List.mem_filterMap.mp hw
  exact gT_at hi (List.all_eq_true.mp (show (u_ws RX5 TX5 8).all goodWord = true by decide +kernel) w (by rw [h]; exact hw))
theorem clw_6 : ∀ w ∈ u_ws RX6 TX6 4, w ∈ gT := by
  intro w hw
  have h : u_ws RX6 TX6 4 = ([150, 152, 154, 156] : List Nat).filterMap (fun i => lw_tbl[i]?) := by decide +kernel
  rw [h] at hw
  obtain ⟨i, -, hi⟩ := List.mem_filterMap.mp hw
  exact gT_at hi (List.all_eq_true.mp (show (u_ws RX6 TX6 4).all goodWord = true by decide +kernel) w (by rw [h]; exact hw))
theorem clw_7 : ∀ w ∈ u_ws RX7 TX7 10, w ∈ gT := by
  intro w hw
  have h : u_ws RX7 TX7 10 = ([277, 279, 281, 283, 285, 287, 289, 291, 293, 295] : List Nat).filterMap (fun i => lw_tbl[i]?) := by decide +kernel
  rw [h] at hw
  obtain ⟨i, -, hi⟩ := List.mem_filterMap.mp hw
  exact gT_at hi (List.all_eq_true.mp (show (u_ws RX7 TX7 10).all goodWord = true by decide +kernel) w (by rw [h]; exact hw))
theorem clw_8 : ∀ w ∈ u_ws RX8 TX8 23, w ∈ gT := by
  intro w hw
  have h : u_ws RX8 TX8 23 = ([732, 734, 736, 738, 740, 742, 744, 746, 748, 750, 752, 754, 756, 758, 760, 762, 764, 766, 768, 770, 772, 774, 776] : List Nat).filterMap (fun i => lw_tbl[i]?) := by decide +kernel
  rw [h] at hw
  obtain ⟨i, -, hi⟩ := List.mem_filterMap.mp hw
  exact gT_at hi (List.all_eq_true.mp (show (u_ws RX8 TX8 23).all goodWord = true by decide +kernel) w (by rw [h]; exact hw))
def okCl (q : vw_C) : Prop := (∀ w ∈ u_ws q.1 q.2.1 q.2.2, w ∈ gT) ∧ (∃ ty : Nat → FieldType, ∀ k, k < q.2.2 → parseFieldDescriptor (q.2.1 k).2.2.1 = some (ty k)) ∧ ∀ a, a < q.2.2 → ∀ b, b < q.2.2 → a ≠ b → (q.2.1 a).2.1 ≠ (q.2.1 b).2.1
theorem vwCl_ok : ∀ q ∈ vwCl, okCl q := List.forall_mem_cons.mpr ⟨⟨clw_0, ⟨tyX0, tyX0_ok⟩, nmX0⟩, List.forall_mem_cons.mpr ⟨⟨clw_1, ⟨tyX1, tyX1_ok⟩, nmX1⟩, List.forall_mem_cons.mpr ⟨⟨clw_2, ⟨tyX2, tyX2_ok⟩, nmX2⟩, List.forall_mem_cons.mpr ⟨⟨clw_3, ⟨tyX3, tyX3_ok⟩, nmX3⟩, List.forall_mem_cons.mpr ⟨⟨clw_4, ⟨tyX4, tyX4_ok⟩, nmX4⟩, List.forall_mem_cons.mpr ⟨⟨clw_5, ⟨tyX5, tyX5_ok⟩, nmX5⟩, List.forall_mem_cons.mpr ⟨⟨clw_6, ⟨tyX6, tyX6_ok⟩, nmX6⟩, List.forall_mem_cons.mpr ⟨⟨clw_7, ⟨tyX7, tyX7_ok⟩, nmX7⟩, List.forall_mem_cons.mpr ⟨⟨clw_8, ⟨tyX8, tyX8_ok⟩, nmX8⟩, fun _ h => absurd h List.not_mem_nil⟩⟩⟩⟩⟩⟩⟩⟩⟩
end
section
/-! what a program decides of a method's code: its decoded instructions are those of the bytes, its links are in the tables, its jumps come where the labels stand -/
def mCallable : Nat := 129
def okA (own : Nat) (rt : Option FieldType) (hd : Nat → Nat) (pc : Nat) (i : Instr) (len : Nat) (aux : List Nat) (k : Int32) : Bool := match i with
  | .iconst n => len == 1 && decide (Int32.ofInt n = k)
  | .bipush n => len == 2 && decide ((Int8.ofInt n).toInt32 = k)
  | .sipush n => len == 3 && decide ((Int16.ofInt n).toInt32 = k)
  | .ldc n => len == 2 && mKl.contains (own, n, k)
  | .ldc_w n => len == 3 && mKl.contains (own, n, k)
  | .iload_n _ => len == 1
  | .iload _ => len == 2
  | .aload_n _ => len == 1
  | .aload _ => len == 2
  | .istore_n _ => len == 1
  | .istore _ => len == 2
  | .astore_n _ => len == 1
  | .astore _ => len == 2
  | .iinc _ n => len == 3 && decide (Int32.ofInt n = k)
  | .ifCond _ off => len == 3 && (match aux with
    | [t] => decide ((pc : Int) + off = (hd t : Int))
    | _ => false)
  | .if_icmp _ off => len == 3 && (match aux with
    | [t] => decide ((pc : Int) + off = (hd t : Int))
    | _ => false)
  | .goto off => len == 3 && (match aux with
    | [t] => decide ((pc : Int) + off = (hd t : Int))
    | _ => false)
  | .tableswitch d lo hi offs => (match aux with
    | t :: ts => decide ((pc : Int) + d = (hd t : Int)) && decide (hi = lo + (ts.length : Int) - 1) && decide (ts.length = offs.size) && (List.range ts.length).all (fun j => match ts[j]?, offs[j]? with
      | some t', some o => decide ((pc : Int) + o = (hd t' : Int))
      | _, _ => false)
    | _ => false)
  | .getfield n => len == 3 && (match aux with
    | [ci, j] => mFl.contains (own, n, ci, j)
    | _ => false)
  | .putfield n => len == 3 && (match aux with
    | [ci, j] => mFl.contains (own, n, ci, j) && (match vwCl[ci]? with
      | some q => decide ((q.2.1 j).2.2.2 = false) && decide ((q.2.1 j).2.2.1 = "I")
      | none => false)
    | _ => false)
  | .getstatic n => len == 3 && (match aux with
    | [i] => mSl.contains (own, n, i, false) || mSl.contains (own, n, i, true)
    | _ => false)
  | .invokestatic n => len == 3 && (match aux with
    | [t] => mXl.contains (own, n, t)
    | [z, na, ret] => (mSc.contains (own, n, z, false) || mSc.contains (own, n, z, true)) && decide (z < mCallable) && (match mTab[z]? with
      | some q => na == q.2.2.2.2.2.1 && ret == q.2.2.2.2.2.2
      | none => false)
    | _ => false)
  | .invokevirtual n => len == 3 && (match aux with
    | [z, na, ret, ci] => mVc.contains (own, n, z) && decide (z < mCallable) && (match mTab[z]? with
      | some q => na == q.2.2.2.2.2.1 && ret == q.2.2.2.2.2.2 && ci == q.2.2.2.2.1 && decide (1 ≤ na) && decide (ci < 9)
      | none => false)
    | _ => false)
  | .ireturn => len == 1 && (match aux with
    | [0] => decide (rt = some .int)
    | [1] => decide (rt = some .boolean)
    | _ => false)
  | .areturn => len == 1 && (match rt with
    | some (.object _) => true
    | _ => false)
  | .return_ => len == 1 && decide (rt = none)
  | _ => len == 1
def okI (cc : ByteArray) (own : Nat) (rt : Option FieldType) (hd : Nat → Nat) (q : mIns) : Bool := match q.2.1 with
  | .nop => (match q.2.2.2.1 with
    | [t] => hd t == q.1
    | _ => false)
  | i => decide (decode cc q.1 = .ok (i, q.2.2.1)) && okA own rt hd q.1 i q.2.2.1 q.2.2.2.1 q.2.2.2.2
def okBl (cc : ByteArray) (own : Nat) (rt : Option FieldType) (hd : Nat → Nat) : List mIns → Bool
  | [] => true
  | q :: r => okI cc own rt hd q && (match r with
    | [] => true
    | q' :: _ => q'.1 == q.1 + q.2.2.1) && okBl cc own rt hd r
def mHd (b : List (List mIns)) (t : Nat) : Nat := match mBk b t with
  | q :: _ => q.1
  | [] => 0
def okM (z : Nat) : Bool := match mTab[z]? with
  | some q => mHd (mB z) 0 == 0 && (mB z).all (okBl q.2.1 q.2.2.2.2.1 q.2.2.2.1 (mHd (mB z)))
  | none => false
theorem okM_0 : okM 0 = true := by decide +kernel
theorem okM_1 : okM 1 = true := by decide +kernel
theorem okM_2 : okM 2 = true := by decide +kernel
theorem okM_3 : okM 3 = true := by decide +kernel
theorem okM_4 : okM 4 = true := by decide +kernel
theorem okM_5 : okM 5 = true := by decide +kernel
theorem okM_6 : okM 6 = true := by decide +kernel
theorem okM_7 : okM 7 = true := by decide +kernel
theorem okM_8 : okM 8 = true := by decide +kernel
theorem okM_9 : okM 9 = true := by decide +kernel
theorem okM_10 : okM 10 = true := by decide +kernel
theorem okM_11 : okM 11 = true := by decide +kernel
theorem okM_12 : okM 12 = true := by decide +kernel
theorem okM_13 : okM 13 = true := by decide +kernel
theorem okM_14 : okM 14 = true := by decide +kernel
theorem okM_15 : okM 15 = true := by decide +kernel
theorem okM_16 : okM 16 = true := by decide +kernel
theorem okM_17 : okM 17 = true := by decide +kernel
theorem okM_18 : okM 18 = true := by decide +kernel
theorem okM_19 : okM 19 = true := by decide +kernel
theorem okM_20 : okM 20 = true := by decide +kernel
theorem okM_21 : okM 21 = true := by decide +kernel
theorem okM_22 : okM 22 = true := by decide +kernel
theorem okM_23 : okM 23 = true := by decide +kernel
theorem okM_24 : okM 24 = true := by decide +kernel
theorem okM_25 : okM 25 = true := by decide +kernel
theorem okM_26 : okM 26 = true := by decide +kernel
theorem okM_27 : okM 27 = true := by decide +kernel
theorem okM_28 : okM 28 = true := by decide +kernel
theorem okM_29 : okM 29 = true := by decide +kernel
theorem okM_30 : okM 30 = true := by decide +kernel
theorem okM_31 : okM 31 = true := by decide +kernel
theorem okM_32 : okM 32 = true := by decide +kernel
theorem okM_33 : okM 33 = true := by decide +kernel
theorem okM_34 : okM 34 = true := by decide +kernel
theorem okM_35 : okM 35 = true := by decide +kernel
theorem okM_36 : okM 36 = true := by decide +kernel
theorem okM_37 : okM 37 = true := by decide +kernel
theorem okM_38 : okM 38 = true := by decide +kernel
theorem okM_39 : okM 39 = true := by decide +kernel
theorem okM_40 : okM 40 = true := by decide +kernel
theorem okM_41 : okM 41 = true := by decide +kernel
theorem okM_42 : okM 42 = true := by decide +kernel
theorem okM_43 : okM 43 = true := by decide +kernel
theorem okM_44 : okM 44 = true := by decide +kernel
theorem okM_45 : okM 45 = true := by decide +kernel
theorem okM_46 : okM 46 = true := by decide +kernel
theorem okM_47 : okM 47 = true := by decide +kernel
theorem okM_48 : okM 48 = true := by decide +kernel
theorem okM_49 : okM 49 = true := by decide +kernel
theorem okM_50 : okM 50 = true := by decide +kernel
theorem okM_51 : okM 51 = true := by decide +kernel
theorem okM_52 : okM 52 = true := by decide +kernel
theorem okM_53 : okM 53 = true := by decide +kernel
theorem okM_54 : okM 54 = true := by decide +kernel
theorem okM_55 : okM 55 = true := by decide +kernel
theorem okM_56 : okM 56 = true := by decide +kernel
theorem okM_57 : okM 57 = true := by decide +kernel
theorem okM_58 : okM 58 = true := by decide +kernel
theorem okM_59 : okM 59 = true := by decide +kernel
theorem okM_60 : okM 60 = true := by decide +kernel
theorem okM_61 : okM 61 = true := by decide +kernel
theorem okM_62 : okM 62 = true := by decide +kernel
theorem okM_63 : okM 63 = true := by decide +kernel
theorem okM_64 : okM 64 = true := by decide +kernel
theorem okM_65 : okM 65 = true := by decide +kernel
theorem okM_66 : okM 66 = true := by decide +kernel
theorem okM_67 : okM 67 = true := by decide +kernel
theorem okM_68 : okM 68 = true := by decide +kernel
theorem okM_69 : okM 69 = true := by decide +kernel
theorem okM_70 : okM 70 = true := by decide +kernel
theorem okM_71 : okM 71 = true := by decide +kernel
theorem okM_72 : okM 72 = true := by decide +kernel
theorem okM_73 : okM 73 = true := by decide +kernel
theorem okM_74 : okM 74 = true := by decide +kernel
theorem okM_75 : okM 75 = true := by decide +kernel
theorem okM_76 : okM 76 = true := by decide +kernel
theorem okM_77 : okM 77 = true := by decide +kernel
theorem okM_78 : okM 78 = true := by decide +kernel
theorem okM_79 : okM 79 = true := by decide +kernel
theorem okM_80 : okM 80 = true := by decide +kernel
theorem okM_81 : okM 81 = true := by decide +kernel
theorem okM_82 : okM 82 = true := by decide +kernel
theorem okM_83 : okM 83 = true := by decide +kernel
theorem okM_84 : okM 84 = true := by decide +kernel
theorem okM_85 : okM 85 = true := by decide +kernel
theorem okM_86 : okM 86 = true := by decide +kernel
theorem okM_87 : okM 87 = true := by decide +kernel
theorem okM_88 : okM 88 = true := by decide +kernel
theorem okM_89 : okM 89 = true := by decide +kernel
theorem okM_90 : okM 90 = true := by decide +kernel
theorem okM_91 : okM 91 = true := by decide +kernel
theorem okM_92 : okM 92 = true := by decide +kernel
theorem okM_93 : okM 93 = true := by decide +kernel
theorem okM_94 : okM 94 = true := by decide +kernel
theorem okM_95 : okM 95 = true := by decide +kernel
theorem okM_96 : okM 96 = true := by decide +kernel
theorem okM_97 : okM 97 = true := by decide +kernel
theorem okM_98 : okM 98 = true := by decide +kernel
theorem okM_99 : okM 99 = true := by decide +kernel
theorem okM_100 : okM 100 = true := by decide +kernel
theorem okM_101 : okM 101 = true := by decide +kernel
theorem okM_102 : okM 102 = true := by decide +kernel
theorem okM_103 : okM 103 = true := by decide +kernel
theorem okM_104 : okM 104 = true := by decide +kernel
theorem okM_105 : okM 105 = true := by decide +kernel
theorem okM_106 : okM 106 = true := by decide +kernel
theorem okM_107 : okM 107 = true := by decide +kernel
theorem okM_108 : okM 108 = true := by decide +kernel
theorem okM_109 : okM 109 = true := by decide +kernel
theorem okM_110 : okM 110 = true := by decide +kernel
theorem okM_111 : okM 111 = true := by decide +kernel
theorem okM_112 : okM 112 = true := by decide +kernel
theorem okM_113 : okM 113 = true := by decide +kernel
theorem okM_114 : okM 114 = true := by decide +kernel
theorem okM_115 : okM 115 = true := by decide +kernel
theorem okM_116 : okM 116 = true := by decide +kernel
theorem okM_117 : okM 117 = true := by decide +kernel
theorem okM_118 : okM 118 = true := by decide +kernel
theorem okM_119 : okM 119 = true := by decide +kernel
theorem okM_120 : okM 120 = true := by decide +kernel
theorem okM_121 : okM 121 = true := by decide +kernel
theorem okM_122 : okM 122 = true := by decide +kernel
theorem okM_123 : okM 123 = true := by decide +kernel
theorem okM_124 : okM 124 = true := by decide +kernel
theorem okM_125 : okM 125 = true := by decide +kernel
theorem okM_126 : okM 126 = true := by decide +kernel
theorem okM_127 : okM 127 = true := by decide +kernel
theorem okM_128 : okM 128 = true := by decide +kernel
theorem okL_1 : (((mB 129).drop 1).take 6).all (okBl code 9 (some .boolean) (mHd (mB 129))) = true := by decide +kernel
theorem okL_7 : (((mB 129).drop 7).take 6).all (okBl code 9 (some .boolean) (mHd (mB 129))) = true := by decide +kernel
theorem okL_13 : (((mB 129).drop 13).take 6).all (okBl code 9 (some .boolean) (mHd (mB 129))) = true := by decide +kernel
theorem okL_19 : (((mB 129).drop 19).take 6).all (okBl code 9 (some .boolean) (mHd (mB 129))) = true := by decide +kernel
theorem okL_25 : (((mB 129).drop 25).take 6).all (okBl code 9 (some .boolean) (mHd (mB 129))) = true := by decide +kernel
end
section
/-! THE MACHINE DOES WHAT THE SMALL MACHINE SAYS -/
def vlG (ad roAd : Nat → Nat) : mV → Value
  | none => .null
  | some (.inl x) => .int x
  | some (.inr (kd, _, id)) => .ref (if kd = 51 then roAd id else ad id)
def Gd (lay : List (Nat × Nat)) (ro : List Nat) : mV → Prop
  | none => False
  | some (.inl _) => True
  | some (.inr (kd, len, id)) => if kd = 51 then ro[id]? = some len else lay[id]? = some (kd, len)
def layOK (lay : List (Nat × Nat)) : Prop := lay.length ≤ 1000 ∧ ∀ (k kd len : Nat), lay[k]? = some (kd, len) → kd ≠ 51 ∧ (kd ≠ 50 → kd ≠ 52 → ∃ q : vw_C, vwCl[kd]? = some q ∧ (mSh kd).length = q.2.2 ∧ ∀ (j kd' len' off : Nat), (mSh kd)[j]? = some (some (kd', len', off)) → kd' ≠ 51 ∧ lay[k + off]? = some (kd', len'))
def slE (ad : Nat → Nat) (M : mM) (k : Nat) (sh : List (Option (Nat × Nat × Nat))) : List Value := sh.mapIdx fun j s => match s with
  | none => .int (M k j)
  | some q => .ref (ad (k + q.2.2))
def cellE (cA cB : ClassId) (ad : Nat → Nat) (M : mM) (k : Nat) (q : Nat × Nat) : va_E := if q.1 = 50 then .inl (cA, q.2, .inl (M k)) else if q.1 = 52 then .inl (cB, q.2, .inl (M k)) else .inr (q.1, slE ad M k (mSh q.1))
def wsM (cA cB : ClassId) (ad : Nat → Nat) (lay : List (Nat × Nat)) (M : mM) : va_W := lay.mapIdx fun k q => (ad k, cellE cA cB ad M k q)
theorem wsM_at {cA cB : ClassId} {ad : Nat → Nat} {lay : List (Nat × Nat)} {M : mM} {k : Nat} {q : Nat × Nat} (h : lay[k]? = some q) : (wsM cA cB ad lay M)[k]? = some (ad k, cellE cA cB ad M k q) := by
  simp [wsM, h]
theorem upd_up (M : mM) (k i : Nat) (x : Int32) : upd (M k) i x = up M k i x k := by
  funext j
  simp [upd, up]
theorem up_ne {M : mM} {k k' i : Nat} {x : Int32} (h : k' ≠ k) : up M k i x k' = M k' := by
  funext j
  simp [up, h]
theorem cellE_ne {cA cB : ClassId} {ad : Nat → Nat} {M : mM} {k k' i : Nat} {x : Int32} {q : Nat × Nat} (h : k' ≠ k) : cellE cA cB ad (up M k i x) k' q = cellE cA cB ad M k' q := by
  unfold cellE slE
  rw [up_ne h]
theorem wsM_set {cA cB : ClassId} {ad : Nat → Nat} {lay : List (Nat × Nat)} {M : mM} {k i : Nat} {x : Int32} {q : Nat × Nat} {e : va_E} (h : lay[k]? = some q) (he : e = cellE cA cB ad (up M k i x) k q) : (wsM cA cB ad lay M).set k (ad k, e) = wsM cA cB ad lay (up M k i x) := by
  subst he
  refine List.ext_getElem? fun n => ?_
  by_cases hn : n = k
  · subst hn
    have hl : n < (wsM cA cB ad lay M).length := (List.getElem?_eq_some_iff.mp (wsM_at h)).1
    rw [List.getElem?_set_self hl, wsM_at h]
  · rw [List.getElem?_set_ne (Ne.symm hn)]
    cases hq : lay[n]? with
    | none => simp [wsM, hq]
    | some q' => rw [wsM_at hq, wsM_at hq, cellE_ne hn]
theorem slE_at {ad : Nat → Nat} {M : mM} {k j : Nat} {sh : List (Option (Nat × Nat × Nat))} : (slE ad M k sh)[j]? = (sh[j]?).map (fun s => match s with
  | none => Value.int (M k j)
  | some q => .ref (ad (k + q.2.2))) := by
  simp [slE]
theorem slE_set {ad : Nat → Nat} {M : mM} {k j : Nat} {x : Int32} {sh : List (Option (Nat × Nat × Nat))} (h : sh[j]? = some none) : (slE ad M k sh).set j (.int x) = slE ad (up M k j x) k sh := by
  refine List.ext_getElem? fun n => ?_
  by_cases hn : n = j
  · subst hn
    have hl : n < (slE ad M k sh).length := by
      have := (List.getElem?_eq_some_iff.mp h).1
      simpa [slE] using this
    rw [List.getElem?_set_self hl, slE_at, h]
    simp [up]
  · rw [List.getElem?_set_ne (Ne.symm hn), slE_at, slE_at]
    congr 1
    funext s
    cases s <;> simp [up, hn]
/-- the locals of the machine hold what the small machine's locals say -/
def LH (vl : mV → Value) (nL : Nat) (la : Array Slot) (ls : List mV) : Prop := ls.length = nL ∧ ∃ l, lv_has la nL l ∧ ∀ (i : Nat) (v : Int32 ⊕ (Nat × Nat × Nat)), ls[i]? = some (some v) → (i, vl (some v)) ∈ l
theorem LH.get {vl : mV → Value} {nL : Nat} {la : Array Slot} {ls : List mV} (h : LH vl nL la ls) {i : Nat} {v : Int32 ⊕ (Nat × Nat × Nat)} (hi : ls[i]? = some (some v)) : la[i]? = some (.val (vl (some v))) := by
  obtain ⟨-, l, h1, h2⟩ := h
  exact h1.2.2 _ (h2 i v hi)
theorem vlG_cat (ad roAd : Nat → Nat) (v : mV) : (vlG ad roAd v).category = 1 := by
  unfold vlG
  split <;> rfl
theorem LH.set {ad roAd : Nat → Nat} {nL : Nat} {la' : Array Slot} {ls : List mV} {l : List (Nat × Value)} {i : Nat} {v : Int32 ⊕ (Nat × Nat × Nat)} {x : Value} (hx : vlG ad roAd (some v) = x) (hn : ls.length = nL) (h2 : ∀ (i : Nat) (v : Int32 ⊕ (Nat × Nat × Nat)), ls[i]? = some (some v) → (i, vlG ad roAd (some v)) ∈ l)
    (h : lv_has la' nL ((i, x) :: l.filter (fun q => !(q.1 == i) && !(q.1 + 1 == i && q.2.category == 2)))) : LH (vlG ad roAd) nL la' (ls.set i (some v)) := by
  refine ⟨by simpa using hn, _, h, fun j w hj => ?_⟩
  by_cases hji : j = i
  · subst hji
    have hl : j < ls.length := by
      have := (List.getElem?_eq_some_iff.mp hj).1
      simpa using this
    rw [List.getElem?_set_self hl] at hj
    cases hj
    rw [hx]
    exact List.mem_cons_self
  · rw [List.getElem?_set_ne (Ne.symm hji)] at hj
    refine List.mem_cons_of_mem _ (List.mem_filter.mpr ⟨h2 j w hj, ?_⟩)
    simp [hji, vlG_cat]
section MS
variable {p : Program} {l : Launch} {e : Env} {R : Room} {s : State} {m : MethodId} {args : Array Value} {below : List Frame} {meth : Method} {c : Code} {cells slots : Nat} {Q : State → Prop}
variable {D : va_G} {cA cB : ClassId} {ad roAd : Nat → Nat} {lay : List (Nat × Nat)} {ro : List Nat} {rc : Nat → Nat → Int32} {A : Nat → Prop} {Ts : List Cond} {cc : ByteArray} {nL : Nat} {own : Nat}
/-- what a state holds of the statics, of the links between nest mates -/
def mSt (rc : Nat → Nat → Int32) (roAd : Nat → Nat) (ro : List Nat) (A : Nat → Prop) (U : State) (H : Heap) : Prop :=
  (∀ (i len : Nat), ro[i]? = some len → va_T .int (roAd i) len (fun j => .int (rc i j)) A U H) ∧ (∀ (i : Nat) (q : String × String × Nat), mStT[i]? = some q → ro[i]? = some q.2.2 ∧ va_Z q.1 q.2.1 "[I" (.ref (roAd i)) A U H) ∧ ∀ w ∈ nT, va_Nw w U
/-- what holds all along a method: the machine, the code, the tables' words, the classes, the statics -/
def mEnv (p : Program) (s : State) (m : MethodId) (args : Array Value) (c : Code) (D : va_G) (cA cB : ClassId) (roAd : Nat → Nat) (lay : List (Nat × Nat)) (ro : List Nat) (rc : Nat → Nat → Int32) (A : Nat → Prop) (Ts : List Cond) (cc : ByteArray) (nL own : Nat) : Prop :=
  CallFix p m c cc nL s args Ts (mOwn own) ∧ (∀ w ∈ gT, w ∈ Ts) ∧ va_K D vwCl [(cA, .int), (cB, .boolean)] s ∧ mSt rc roAd ro A s s.heap ∧ layOK lay ∧ ∀ q : Nat, s.heap.size ≤ q → A q
/-- the world: memory M in heap H -/
def mWd (D : va_G) (cA cB : ClassId) (ad : Nat → Nat) (lay : List (Nat × Nat)) (rc : Nat → Nat → Int32) (A : Nat → Prop) (M : mM) (H : Heap) : Prop :=
  va_P D vwCl (wsM cA cB ad lay M) H ∧ va_D A (wsM cA cB ad lay M) ∧ ∀ (i j : Nat), M (1000 + i) j = rc i j
/-- from pc on, with these locals, this stack, this memory -/
def mGo (p : Program) (l : Launch) (e : Env) (R : Room) (s : State) (m : MethodId) (args : Array Value) (below : List Frame) (meth : Method) (c : Code) (cells slots : Nat) (Q : State → Prop) (D : va_G) (cA cB : ClassId) (ad roAd : Nat → Nat) (lay : List (Nat × Nat)) (ro : List Nat) (rc : Nat → Nat → Int32) (A : Nat → Prop) (nL : Nat) (pc : Nat) (ls st : List mV) (M : mM) : Prop :=
  ∀ (H : Heap) (locs : List Loc) (la : Array Slot), mWd D cA cB ad lay rc A M H → va_S A s.heap H locs → LH (vlG ad roAd) nL la ls → (∀ (i : Nat) (v : Int32 ⊕ (Nat × Nat × Nat)), ls[i]? = some (some v) → Gd lay ro (some v)) → (∀ v ∈ st, Gd lay ro v) → W p l e R s m args below meth c H locs cells slots Q (F0 m pc la (st.map (vlG ad roAd)))
theorem GdL_set {ls : List mV} {n : Nat} {v : mV} (h : ∀ (i : Nat) (v : Int32 ⊕ (Nat × Nat × Nat)), ls[i]? = some (some v) → Gd lay ro (some v)) (hv : Gd lay ro v) : ∀ (i : Nat) (w : Int32 ⊕ (Nat × Nat × Nat)), (ls.set n v)[i]? = some (some w) → Gd lay ro (some w) := by
  intro i w hw
  by_cases hi : i = n
  · subst hi
    have hl : i < ls.length := by
      have := (List.getElem?_eq_some_iff.mp hw).1
      simpa using this
    rw [List.getElem?_set_self hl] at hw
    cases hw
    exact hv
  · rw [List.getElem?_set_ne (Ne.symm hi)] at hw
    exact h i w hw
theorem up_ro {M : mM} {k j : Nat} {x : Int32} (hk : k < 1000) (h : ∀ (i j : Nat), M (1000 + i) j = rc i j) : ∀ (i j' : Nat), up M k j x (1000 + i) j' = rc i j' := by
  intro i j'
  rw [← h i j']
  simp [up]
  omega
theorem layOK_lt (hl : layOK lay) {k : Nat} {q : Nat × Nat} (h : lay[k]? = some q) : k < 1000 := Nat.lt_of_lt_of_le (List.getElem?_eq_some_iff.mp h).1 hl.1
end MS
end
section
/-! ONE INSTRUCTION: the kit's rows under the small machine's -/
theorem p1_of {st : List mV} {f : Int32 → List mV → Prop} (h : p1 st f) : ∃ x r, st = mI x :: r ∧ f x r := by
  unfold p1 at h; split at h
  · exact ⟨_, _, rfl, h⟩
  · exact h.elim
theorem p2_of {st : List mV} {f : Int32 → Int32 → List mV → Prop} (h : p2 st f) : ∃ x y r, st = mI y :: mI x :: r ∧ f x y r := by
  unfold p2 at h; split at h
  · exact ⟨_, _, _, rfl, h⟩
  · exact h.elim
theorem pR_of {st : List mV} {f : Nat → Nat → Nat → List mV → Prop} (h : pR st f) : ∃ kd len id r, st = mR kd len id :: r ∧ f kd len id r := by
  unfold pR at h; split at h
  · exact ⟨_, _, _, _, rfl, h⟩
  · exact h.elim
theorem pIR_of {st : List mV} {f : Int32 → Nat → Nat → Nat → List mV → Prop} (h : pIR st f) : ∃ x kd len id r, st = mI x :: mR kd len id :: r ∧ f x kd len id r := by
  unfold pIR at h; split at h
  · exact ⟨_, _, _, _, _, rfl, h⟩
  · exact h.elim
theorem pIIR_of {st : List mV} {f : Int32 → Int32 → Nat → Nat → Nat → List mV → Prop} (h : pIIR st f) : ∃ x i kd len id r, st = mI x :: mI i :: mR kd len id :: r ∧ f x i kd len id r := by
  unfold pIIR at h; split at h
  · exact ⟨_, _, _, _, _, _, rfl, h⟩
  · exact h.elim
theorem a1_of {aux : List Nat} {f : Nat → Prop} (h : a1 aux f) : ∃ a, aux = [a] ∧ f a := by
  unfold a1 at h; split at h
  · exact ⟨_, rfl, h⟩
  · exact h.elim
theorem a2_of {aux : List Nat} {f : Nat → Nat → Prop} (h : a2 aux f) : ∃ a b, aux = [a, b] ∧ f a b := by
  unfold a2 at h; split at h
  · exact ⟨_, _, rfl, h⟩
  · exact h.elim
theorem a3_of {aux : List Nat} {f : Nat → Nat → Nat → Prop} (h : a3 aux f) : ∃ a b c, aux = [a, b, c] ∧ f a b c := by
  unfold a3 at h; split at h
  · exact ⟨_, _, _, rfl, h⟩
  · exact h.elim
theorem a4_of {aux : List Nat} {f : Nat → Nat → Nat → Nat → Prop} (h : a4 aux f) : ∃ a b c d, aux = [a, b, c, d] ∧ f a b c d := by
  unfold a4 at h; split at h
  · exact ⟨_, _, _, _, rfl, h⟩
  · exact h.elim
theorem ldI_of {ls : List mV} {i : Nat} {f : Int32 → Prop} (h : ldI ls i f) : ∃ x, ls[i]? = some (mI x) ∧ f x := by
  unfold ldI at h; split at h
  · exact ⟨_, by assumption, h⟩
  · exact h.elim
theorem ldR_of {ls : List mV} {i : Nat} {f : Nat → Nat → Nat → Prop} (h : ldR ls i f) : ∃ kd len id, ls[i]? = some (mR kd len id) ∧ f kd len id := by
  unfold ldR at h; split at h
  · exact ⟨_, _, _, by assumption, h⟩
  · exact h.elim
theorem sto_of {ls : List mV} {i : Nat} {v : mV} {f : List mV → Prop} (h : sto ls i v f) : i < ls.length ∧ f (ls.set i v) := by
  unfold sto at h; split at h
  · next q => exact ⟨(List.getElem?_eq_some_iff.mp q).1, h⟩
  · exact h.elim
theorem tk_of {f : List mV → List mV → Prop} : ∀ (n : Nat) (st acc : List mV), tk n st acc f → ∃ xs r, st = xs ++ r ∧ xs.length = n ∧ f (xs.reverse ++ acc) r
  | 0, st, acc, h => ⟨[], st, rfl, rfl, h⟩
  | n + 1, v :: st, acc, h => by
    obtain ⟨xs, r, h1, h2, h3⟩ := tk_of n st (v :: acc) h
    exact ⟨v :: xs, r, by rw [h1]; rfl, by rw [List.length_cons, h2], by simpa using h3⟩
  | _ + 1, [], _, h => h.elim
theorem lim_of {r : List mV} {P : Prop} (h : lim r P) : r.length ≤ 8 ∧ P := by
  unfold lim at h; split at h
  · exact ⟨by assumption, h⟩
  · exact h.elim
theorem rcv_of {ci : Nat} {as : List mV} {P : Prop} (h : rcv ci as P) : ∃ len id r, as = mR ci len id :: r ∧ P := by
  unfold rcv at h; split at h
  · split at h
    · next q => subst q; exact ⟨_, _, _, rfl, h⟩
    · exact h.elim
  · exact h.elim
def rtS (v : mV) : List mV := match v with
  | none => []
  | some x => [some x]
def rvl (vl : mV → Value) : mV → Option Value
  | none => none
  | some v => some (vl (some v))
theorem rv_of {ret : Nat} {v : mV} {f : List mV → Prop} (h : rv ret v f) : f (rtS v) := by
  unfold rv at h; split at h
  · exact h
  · exact h
  · exact h
  · exact h.elim
theorem tsw_of {x : Int32} {f : Nat → Prop} : ∀ (ts : List Nat) (n : Int), tsw x ts n f → ∀ (i : Nat) (t : Nat), ts[i]? = some t → x.toInt = n + i → f t
  | [], _, _, i, t, h, _ => by simp at h
  | t0 :: ts, n, h, 0, t, hi, hx => by
    simp at hi
    subst hi
    exact h.1 (by omega)
  | t0 :: ts, n, h, i + 1, t, hi, hx => tsw_of ts (n + 1) h.2 i t (by simpa using hi) (by omega)
theorem mOwn_cl : ∀ ci, ci < 9 → ∃ q, vwCl[ci]? = some q ∧ q.1 = mOwn ci := by
  intro ci h
  match ci, h with
  | 0, _ => exact ⟨_, rfl, rfl⟩
  | 1, _ => exact ⟨_, rfl, rfl⟩
  | 2, _ => exact ⟨_, rfl, rfl⟩
  | 3, _ => exact ⟨_, rfl, rfl⟩
  | 4, _ => exact ⟨_, rfl, rfl⟩
  | 5, _ => exact ⟨_, rfl, rfl⟩
  | 6, _ => exact ⟨_, rfl, rfl⟩
  | 7, _ => exact ⟨_, rfl, rfl⟩
  | 8, _ => exact ⟨_, rfl, rfl⟩
theorem mTab_small : mTab.all (fun q => decide (q.2.2.1 ≤ 41)) = true := by decide +kernel
theorem mSc_pd : mSc.all (fun e => match mTab[e.2.2.1]? with
  | some q => decide ((parseMethodDescriptor q.1.desc).map (fun d => d.parameters.length) = some q.2.2.2.2.2.1)
  | none => false) = true := by decide +kernel
theorem mVc_pd : mVc.all (fun e => match mTab[e.2.2]? with
  | some q => decide ((parseMethodDescriptor q.1.desc).map (fun d => d.parameters.length) = some (q.2.2.2.2.2.1 - 1))
  | none => false) = true := by decide +kernel
/-- the room of a method whose calls go d deep -/
def mRm (d : Nat) : Room := { frames := d, cells := 0, slots := 0, locals := 60 * d }
def mWs (q : MethodName × ByteArray × Nat × Option FieldType × Nat × Nat × Nat) : List Cond := .code q.1 q.2.1 q.2.2.1 q.2.2.2.1 :: gT
section MS
variable {p : Program} {l : Launch} {e : Env} {R : Room} {s : State} {m : MethodId} {args : Array Value} {below : List Frame} {meth : Method} {c : Code} {cells slots : Nat} {Q : State → Prop}
variable {D : va_G} {cA cB : ClassId} {ad roAd : Nat → Nat} {lay : List (Nat × Nat)} {ro : List Nat} {rc : Nat → Nat → Int32} {A : Nat → Prop} {Ts : List Cond} {cc : ByteArray} {nL : Nat} {own : Nat}
def mPc (D : va_G) (cA cB : ClassId) (ad roAd : Nat → Nat) (lay : List (Nat × Nat)) (ro : List Nat) (rc : Nat → Nat → Int32) (sz : Nat) (as : List mV) (M : mM) : Array Value → State → Prop :=
  va_Pc (as.map (vlG ad roAd)) (fun U => U.heap.size = sz ∧ va_P D vwCl (wsM cA cB ad lay M) U.heap ∧ va_D (fun _ => True) (wsM cA cB ad lay M) ∧ va_K D vwCl [(cA, .int), (cB, .boolean)] U ∧ mSt rc roAd ro (va_A (wsM cA cB ad lay M) sz) U U.heap ∧ ∀ (i j : Nat), M (1000 + i) j = rc i j)
def mQc (D : va_G) (cA cB : ClassId) (ad roAd : Nat → Nat) (lay : List (Nat × Nat)) (ro : List Nat) (rc : Nat → Nat → Int32) (A : Nat → Prop) (k : mQ) : Array Value → State → Outcome → State → Prop := fun _ st oc t =>
  (∃ (v : mV) (M' : mM), oc = .returned (rvl (vlG ad roAd) v) ∧ k v M' ∧ (v ≠ none → Gd lay ro v) ∧ mWd D cA cB ad lay rc A M' t.heap) ∧ va_F A st t
/-- method z keeps what is said of a call of it -/
def mCtr (l : Launch) (D : va_G) (cA cB : ClassId) (ad roAd : Nat → Nat) (lay : List (Nat × Nat)) (ro : List Nat) (rc : Nat → Nat → Int32) (d z : Nat) (as : List mV) (M : mM) (k : mQ) : Prop :=
  ∀ q, mTab[z]? = some q → as.length = q.2.2.2.2.2.1 → (∀ v ∈ as, Gd lay ro v) → ∀ sz : Nat, Met l q.1 (mWs q) (mRm d) (mPc D cA cB ad roAd lay ro rc sz as M) (mQc D cA cB ad roAd lay ro rc (va_A (wsM cA cB ad lay M) sz) k) 0 0 (va_A (wsM cA cB ad lay M) sz)
theorem mSt.same {u U : State} {H : Heap} (h : u.vm = U.vm) (k : mSt rc roAd ro A u H) : mSt rc roAd ro A U H := by
  obtain ⟨h1, h2, h3⟩ := k
  refine ⟨fun i len hi => va_T.moved (by rw [h]; exact Vm.Alike.refl _) (h1 i len hi), fun i q hi => ⟨(h2 i q hi).1, va_Z.moved (by rw [h]; exact Vm.Alike.refl _) (h2 i q hi).2⟩, fun w hw => ?_⟩
  obtain ⟨-, hn⟩ := List.mem_filter.mp hw
  have h4 := h3 w hw
  cases w <;> first | (exact Bool.noConfusion hn) | (exact va_Nw.same rfl h h4)
theorem mSt.warm {u U : State} {H : Heap} (hW : u.WarmedH U.vm) (k : mSt rc roAd ro A u H) : mSt rc roAd ro A U H := by
  obtain ⟨h1, h2, h3⟩ := k
  refine ⟨fun i len hi => va_T.moved hW.alike (h1 i len hi), fun i q hi => ⟨(h2 i q hi).1, va_Z.moved hW.alike (h2 i q hi).2⟩, fun w hw => ?_⟩
  obtain ⟨-, hn⟩ := List.mem_filter.mp hw
  have h4 := h3 w hw
  cases w <;> first | (exact Bool.noConfusion hn) | (exact va_Nw.warmF hW h4) | (exact va_Nw.warmM hW h4)
theorem mSt.kept {u : State} {H H1 : Heap} (k : mSt rc roAd ro A u H) (hq : ∀ a : Nat, a < H.size → ¬ A a → H1[a]? = H[a]?) : mSt rc roAd ro A u H1 :=
  ⟨fun i len hi => (k.1 i len hi).kept hq, fun i q hi => ⟨(k.2.1 i q hi).1, (k.2.1 i q hi).2.kept hq⟩, k.2.2⟩
theorem mSt.narrow {u : State} {H : Heap} {B : Nat → Prop} (k : mSt rc roAd ro A u H) (hq : ∀ q, B q → A q) : mSt rc roAd ro B u H :=
  ⟨fun i len hi => (k.1 i len hi).narrow hq, fun i q hi => ⟨(k.2.1 i q hi).1, (k.2.1 i q hi).2.narrow hq⟩, k.2.2⟩
theorem mPc_blind {sz : Nat} {as : List mV} {M : mM} : FrameBlind (mPc D cA cB ad roAd lay ro rc sz as M) := by
  intro a U g mk h
  obtain ⟨h0, h1, h2, h3, h4, h5, h6⟩ := h
  exact ⟨h0, h1, h2, h3, va_K.moved (u := U) (U := U.calling g mk a) (Vm.Alike.refl U.vm) h4, mSt.same (u := U) (U := U.calling g mk a) rfl h5, h6⟩
theorem mA_sub {M : mM} {H : Heap} {locs : List Loc} (hD : va_D A (wsM cA cB ad lay M)) (hS : va_S A s.heap H locs) (hA : ∀ q : Nat, s.heap.size ≤ q → A q) : ∀ q, va_A (wsM cA cB ad lay M) H.size q → A q := by
  intro q h
  rcases h with ⟨k, e, h⟩ | h
  · exact hD.2 k (q, e) h
  · exact hA q (Nat.le_trans hS.1 h)
theorem mPre_of {M : mM} {H : Heap} {locs : List Loc} {as : List mV} (hE : mEnv p s m args c D cA cB roAd lay ro rc A Ts cc nL own) (hw : mWd D cA cB ad lay rc A M H) (hS : va_S A s.heap H locs) {U : State} (hU : U.heap = H) (hW : s.WarmedH U.vm) : mPc D cA cB ad roAd lay ro rc H.size as M (as.map (vlG ad roAd)).toArray U := by
  obtain ⟨-, -, hK, hst, -, hA⟩ := hE
  refine ⟨rfl, by rw [hU], by rw [hU]; exact hw.1, hw.2.1.weaken (fun _ _ _ _ => trivial), va_K.moved hW.alike hK, ?_, hw.2.2⟩
  rw [hU]
  exact ((hst.kept hS.2.1).warm hW).narrow (mA_sub hw.2.1 hS hA)
/-- behind a call -/
theorem mBehind {M : mM} {H : Heap} {locs : List Loc} {la : Array Slot} {pc : Nat} {ls r : List mV} {as : Array Value} {stv : List Value} {k : mQ} (hE : mEnv p s m args c D cA cB roAd lay ro rc A Ts cc nL own) (hw : mWd D cA cB ad lay rc A M H) (hS : va_S A s.heap H locs) (hL : LH (vlG ad roAd) nL la ls) (hGl : ∀ (i : Nat) (v : Int32 ⊕ (Nat × Nat × Nat)), ls[i]? = some (some v) → Gd lay ro (some v)) (hGr : ∀ v ∈ r, Gd lay ro v)
    (hr : va_Run p l e R s m args below meth c H locs cells slots 0 0 (F0 m pc la stv) (r.map (vlG ad roAd)) (mQc D cA cB ad roAd lay ro rc (va_A (wsM cA cB ad lay M) H.size) k as) (va_A (wsM cA cB ad lay M) H.size))
    (hn : ∀ v M', k v M' → mGo p l e R s m args below meth c cells slots Q D cA cB ad roAd lay ro rc A nL (pc + 3) ls (rtS v ++ r) M') : W p l e R s m args below meth c H locs cells slots Q (F0 m pc la stv) := by
  intro T hT X
  obtain ⟨v0, st₀, t, T', L, h0, X', hLo, e1, e2, ⟨⟨v, M', hv, hk, hgv, hw1⟩, hz, hkeep⟩, hst⟩ := hr T hT X
  have hgo := hn v M' hk
  have hA := hE.2.2.2.2.2
  have hsub := mA_sub (s := s) hw.2.1 hS hA
  rw [h0] at hz hkeep
  have hv0 : v0 = rvl (vlG ad roAd) v := by injection hv
  have hS' : va_S A s.heap T'.heap (locs ++ L) := ⟨Nat.le_trans hS.1 (by rw [e1]; exact hz), fun q h1 h2 => by rw [e1, hkeep q (Nat.lt_of_lt_of_le h1 hS.1) (fun z => h2 (hsub q z))]; exact hS.2.1 q h1 h2, fun q hq => by
      rcases List.mem_append.mp hq with h | h
      · exact hS.2.2 q h
      · exact hsub _ (hLo q h)⟩
  have hgw : ∀ x ∈ rtS v ++ r, Gd lay ro x := by
    intro x hx
    rcases List.mem_append.mp hx with h | h
    · cases v with
      | none => simp [rtS] at h
      | some y =>
        simp only [rtS, List.mem_singleton] at h
        rw [h]
        exact hgv (by simp)
    · exact hGr x h
  have hstk : (rtS v ++ r).map (vlG ad roAd) = v0.toList ++ r.map (vlG ad roAd) := by
    rw [List.map_append, hv0]
    cases v <;> rfl
  obtain ⟨t2, a1', b1⟩ := hgo T'.heap (locs ++ L) la ⟨by rw [e1]; exact hw1.1, hw1.2.1.weaken (fun _ _ _ h => hsub _ h), hw1.2.2⟩ hS' hL hGl hgw T' rfl X'
  rw [hstk] at a1'
  exact ⟨t2, hst t2 a1', b1⟩
end MS
end
section
/-! ONE INSTRUCTION, BLOCKS, METHODS: what the small machine says comes true on the machine -/
def rtOK (cc : ByteArray) (rt : Option FieldType) (pc : Nat) : mV → Prop
  | none => decode cc pc = .ok (.return_, 1) ∧ rt = none
  | some (.inl x) => decode cc pc = .ok (.ireturn, 1) ∧ (rt = some .int ∨ (rt = some .boolean ∧ (x = 0 ∨ x = 1)))
  | some (.inr _) => decode cc pc = .ok (.areturn, 1) ∧ ∃ n, rt = some (.object n)
section MS
variable {p : Program} {l : Launch} {e : Env} {R : Room} {s : State} {m : MethodId} {args : Array Value} {below : List Frame} {meth : Method} {c : Code} {cells slots : Nat} {Q : State → Prop}
variable {D : va_G} {cA cB : ClassId} {ad roAd : Nat → Nat} {lay : List (Nat × Nat)} {ro : List Nat} {rc : Nat → Nat → Int32} {A : Nat → Prop} {Ts : List Cond} {cc : ByteArray} {nL : Nat} {own : Nat}
theorem gdc {v : mV} {st : List mV} (hv : Gd lay ro v) (h : ∀ v ∈ st, Gd lay ro v) : ∀ w ∈ v :: st, Gd lay ro w := fun w hw => by
  rcases List.mem_cons.mp hw with rfl | hw
  · exact hv
  · exact h w hw
theorem gdt {v : mV} {st : List mV} (h : ∀ w ∈ v :: st, Gd lay ro w) : ∀ w ∈ st, Gd lay ro w := fun w hw => h w (List.mem_cons_of_mem _ hw)
theorem gdh {v : mV} {st : List mV} (h : ∀ w ∈ v :: st, Gd lay ro w) : Gd lay ro v := h v List.mem_cons_self
theorem ref_rw {kd len id : Nat} (h : Gd lay ro (mR kd len id)) (hk : kd ≠ 51) : lay[id]? = some (kd, len) := by
  have : (if kd = 51 then ro[id]? = some len else lay[id]? = some (kd, len)) := h
  rwa [if_neg hk] at this
theorem ref_ro {len id : Nat} (h : Gd lay ro (mR 51 len id)) : ro[id]? = some len := h
theorem vl_rw {kd len id : Nat} (hk : kd ≠ 51) : vlG ad roAd (mR kd len id) = .ref (ad id) := by simp [vlG, hk]
theorem cell50 {M : mM} {k len : Nat} : cellE cA cB ad M k (50, len) = .inl (cA, len, .inl (M k)) := rfl
theorem cell52 {M : mM} {k len : Nat} : cellE cA cB ad M k (52, len) = .inl (cB, len, .inl (M k)) := rfl
theorem cellO {M : mM} {k kd len : Nat} (h : kd ≠ 50) (h2 : kd ≠ 52) : cellE cA cB ad M k (kd, len) = .inr (kd, slE ad M k (mSh kd)) := by simp [cellE, h, h2]
theorem contains_mem {α : Type} [BEq α] [LawfulBEq α] {x : α} {l : List α} (h : l.contains x = true) : x ∈ l := by simpa using h
theorem rest_sum (r : List mV) : ((r.map (vlG ad roAd)).map fun v => v.category).sum = r.length := by
  induction r with
  | nil => rfl
  | cons a r ih =>
    simp only [List.map_cons, List.sum_cons, List.length_cons, ih, vlG_cat]
    omega

theorem mGood (q : MethodName × ByteArray × Nat × Option FieldType × Nat × Nat × Nat) (hgT : ∀ w ∈ gT, w ∈ Ts) (hq : okMt q) : GoodIn Ts (mWs q) := by
  intro w hw
  rcases List.mem_cons.mp hw with rfl | hw
  · exact ⟨hgT _ hq.1, good_of_word (List.mem_filter.mp hq.1).2⟩
  · exact ⟨hgT _ hw, good_of_word (List.mem_filter.mp hw).2⟩
theorem mTab_at {z : Nat} {q : MethodName × ByteArray × Nat × Option FieldType × Nat × Nat × Nat} (h : mTab[z]? = some q) (hz : z < mCallable) : okMt q ∧ q.2.2.1 ≤ 41 := by
  refine ⟨mTab_ok q (List.mem_of_getElem? (i := z) ?_), ?_⟩
  · rw [List.getElem?_take]
    have : z < 129 := hz
    simp [this, h]
  · have := List.all_eq_true.mp mTab_small q (List.mem_of_getElem? h)
    simpa using this
set_option maxHeartbeats 4000000 in
theorem mInvS {n : Nat} {K : Nat → List mV → List mV → mM → Prop} {Rt : mQ} {Cl : Nat → List mV → mM → mQ → Prop} {aux : List Nat} {k : Int32} {nx : List mV → List mV → mM → Prop} {hd : Nat → Nat} {pc len : Nat} {rt : Option FieldType} {d : Nat} (hE : mEnv p s m args c D cA cB roAd lay ro rc A Ts cc nL own)  (hdec : decode cc pc = .ok (.invokestatic n, len)) (hok : okA own rt hd pc (.invokestatic n) len aux k = true) (hnx : ∀ ls st M, nx ls st M → mGo p l e R s m args below meth c cells slots Q D cA cB ad roAd lay ro rc A nL (pc + len) ls st M)
    (hcl : ∀ z as M k, Cl z as M k → z < mCallable → mCtr l D cA cB ad roAd lay ro rc d z as M k) (hroom : d + 1 ≤ R.frames ∧ 60 * (d + 1) ≤ R.locals) (hcs : cells ≤ R.cells ∧ slots ≤ R.slots)
    {ls st : List mV} {M : mM} (h : stp K Rt Cl (.invokestatic n) aux k nx ls st M) : mGo p l e R s m args below meth c cells slots Q D cA cB ad roAd lay ro rc A nL pc ls st M := by
  obtain ⟨hF, hgT, hK, hst, hlay, hA⟩ := id hE
  obtain ⟨hx, hb, hml, hown, hts⟩ := id hF
  unfold stp at h
  dsimp only at h
  split at h
  case h_1 t =>
    have h0 := p2_of h
    clear h
    obtain ⟨x, y, r, e1, h⟩ := h0
    subst e1
    have h0 := lim_of h
    clear h
    obtain ⟨h8, h⟩ := h0
    simp only [okA, Bool.and_eq_true, beq_iff_eq] at hok
    obtain ⟨rfl, hc⟩ := hok
    have hm := mXl_ok _ (contains_mem hc)
    intro H locs la hw hS hL hGl hGs
    obtain ⟨hn, lv, h1, h2⟩ := id hL
    have h9 := hnx _ _ _ h H locs la hw hS hL hGl (gdc trivial (gdt (gdt hGs)))
    cases t with
    | zero => exact va_mmax hx hb (by rw [hml]; exact h1.1.symm) hown (hts _ (hgT _ hm)) (hts _ (hgT _ math_in.1)) (hts _ (hgT _ math_in.2.2.1)) (hts _ (hgT _ math_in.2.2.2.1)) (by omega) (by rw [rest_sum]; omega) hcs.1 hcs.2 hdec h9
    | succ t => exact va_mmin hx hb (by rw [hml]; exact h1.1.symm) hown (hts _ (hgT _ hm)) (hts _ (hgT _ math_in.2.1)) (hts _ (hgT _ math_in.2.2.1)) (hts _ (hgT _ math_in.2.2.2.2)) (by omega) (by rw [rest_sum]; omega) hcs.1 hcs.2 hdec h9
  case h_2 =>
    have h0 := a3_of h
    clear h
    obtain ⟨z, na, ret, e1, h⟩ := h0
    subst e1
    have h0 := tk_of _ _ _ h
    clear h
    obtain ⟨xs, r, e1, hlen, h⟩ := h0
    subst e1
    have h0 := lim_of h
    clear h
    obtain ⟨h8, h⟩ := h0
    rw [List.append_nil] at h
    simp only [okA, Bool.and_eq_true, Bool.or_eq_true, beq_iff_eq, decide_eq_true_eq] at hok
    obtain ⟨rfl, ⟨hc, hz⟩, hq⟩ := hok
    split at hq
    case h_2 => cases hq
    case h_1 q hq0 =>
      simp only [Bool.and_eq_true, beq_iff_eq] at hq
      obtain ⟨hqn, hqr⟩ := hq
      obtain ⟨hmt, h41⟩ := mTab_at hq0 hz
      intro H locs la hw hS hL hGl hGs
      obtain ⟨hn, lv, h1, h2⟩ := id hL
      have hgx : ∀ v ∈ xs.reverse, Gd lay ro v := fun v hv => hGs v (List.mem_append_left _ (List.mem_reverse.mp hv))
      have hgr : ∀ v ∈ r, Gd lay ro v := fun v hv => hGs v (List.mem_append_right _ hv)
      have hMet := hcl _ _ _ _ h hz q hq0 (by rw [List.length_reverse, hlen, hqn]) hgx H.size
      have hstk : (xs ++ r).map (vlG ad roAd) = (xs.reverse.map (vlG ad roAd)).reverse ++ r.map (vlG ad roAd) := by simp
      have hpre : PreS s H (mPc D cA cB ad roAd lay ro rc H.size xs.reverse M) (xs.reverse.map (vlG ad roAd)) := ⟨mPc_blind, fun U hU hW => mPre_of hE hw hS hU hW⟩
      have hR : (mRm d).frames + 1 ≤ R.frames ∧ 8 + (q.2.2.1 + 11) + (mRm d).locals ≤ R.locals := ⟨hroom.1, by show 8 + (q.2.2.1 + 11) + 60 * d ≤ R.locals; omega⟩
      have hAl : (xs.reverse.map (vlG ad roAd)).length = q.2.2.2.2.2.1 := by rw [List.length_map, List.length_reverse, hlen, hqn]
      have hgo : ∀ v M', (rv ret v fun w => nx ls (w ++ r) M') → mGo p l e R s m args below meth c cells slots Q D cA cB ad roAd lay ro rc A nL (pc + 3) ls (rtS v ++ r) M' := fun v M' hv => hnx _ _ _ (rv_of hv)
      refine mBehind (as := (xs.reverse.map (vlG ad roAd)).toArray) hE hw hS hL hGl hgr (k := fun v M' => rv ret v fun w => nx ls (w ++ r) M') ?_ hgo
      rw [hstk]
      have key : ∀ b, mSc.contains (own, n, z, b) = true → (parseMethodDescriptor q.1.desc).map (fun d => d.parameters.length) = some q.2.2.2.2.2.1 := fun b hb => by
        have h5 := List.all_eq_true.mp mSc_pd _ (contains_mem hb)
        simp only [hq0, decide_eq_true_eq] at h5
        exact h5
      rcases hc with hc | hc
      · have hm := mSc_ok _ (contains_mem hc)
        simp only [okSc, hq0] at hm
        exact va_runS hF hMet ⟨callB_of q.2.2.2.2.2.1 hts (mGood q hgT hmt) rfl rfl rfl (hts _ (hgT _ hmt.2.1)) (hts _ (hgT _ hm.1)) ⟨hmt.2.2.2.2.1, hmt.2.2.2.2.2, key _ hc⟩ hR, hts _ (hgT _ hm.2)⟩ hpre rfl hAl h1.1 rfl (lv_room (by rw [rest_sum]; exact h8)) hdec ⟨hcs.1, hcs.2⟩
      · have hm := mSc_ok _ (contains_mem hc)
        simp only [okSc, hq0] at hm
        exact va_runSN hF hMet ⟨va_cnB q.2.2.2.2.2.1 hts (mGood q hgT hmt) rfl rfl rfl (hst.2.2 _ hm.1) (hts _ (hgT _ hmt.2.1)) ⟨hmt.2.2.2.2.1, hmt.2.2.2.2.2, key _ hc⟩ hR, hts _ (hgT _ hm.2), trivial⟩ hpre rfl hAl h1.1 rfl (lv_room (by rw [rest_sum]; exact h8)) hdec ⟨hcs.1, hcs.2⟩
set_option maxHeartbeats 4000000 in
theorem mInvV {n : Nat} {K : Nat → List mV → List mV → mM → Prop} {Rt : mQ} {Cl : Nat → List mV → mM → mQ → Prop} {aux : List Nat} {k : Int32} {nx : List mV → List mV → mM → Prop} {hd : Nat → Nat} {pc len : Nat} {rt : Option FieldType} {d : Nat} (hE : mEnv p s m args c D cA cB roAd lay ro rc A Ts cc nL own)  (hdec : decode cc pc = .ok (.invokevirtual n, len)) (hok : okA own rt hd pc (.invokevirtual n) len aux k = true) (hnx : ∀ ls st M, nx ls st M → mGo p l e R s m args below meth c cells slots Q D cA cB ad roAd lay ro rc A nL (pc + len) ls st M)
    (hcl : ∀ z as M k, Cl z as M k → z < mCallable → mCtr l D cA cB ad roAd lay ro rc d z as M k) (hroom : d + 1 ≤ R.frames ∧ 60 * (d + 1) ≤ R.locals) (hcs : cells ≤ R.cells ∧ slots ≤ R.slots)
    {ls st : List mV} {M : mM} (h : stp K Rt Cl (.invokevirtual n) aux k nx ls st M) : mGo p l e R s m args below meth c cells slots Q D cA cB ad roAd lay ro rc A nL pc ls st M := by
  obtain ⟨hF, hgT, hK, hst, hlay, hA⟩ := id hE
  obtain ⟨hx, hb, hml, hown, hts⟩ := id hF
  have h0 := a4_of h
  clear h
  obtain ⟨z, na, ret, ci, e1, h⟩ := h0
  subst e1
  have h0 := tk_of _ _ _ h
  clear h
  obtain ⟨xs, r, e1, hlen, h⟩ := h0
  subst e1
  have h0 := lim_of h
  clear h
  obtain ⟨h8, h⟩ := h0
  rw [List.append_nil] at h
  have h0 := rcv_of h
  clear h
  obtain ⟨rl, rid, ys, hys, h⟩ := h0
  simp only [okA, Bool.and_eq_true, beq_iff_eq, decide_eq_true_eq] at hok
  obtain ⟨rfl, ⟨hc, hz⟩, hq⟩ := hok
  split at hq
  case h_2 => cases hq
  case h_1 q hq0 =>
    simp only [Bool.and_eq_true, beq_iff_eq, decide_eq_true_eq] at hq
    obtain ⟨⟨⟨⟨hqn, hqr⟩, hci⟩, hna⟩, hc9⟩ := hq
    obtain ⟨hmt, h41⟩ := mTab_at hq0 hz
    intro H locs la hw hS hL hGl hGs
    obtain ⟨hn, lv, h1, h2⟩ := id hL
    have hgx : ∀ v ∈ xs.reverse, Gd lay ro v := fun v hv => hGs v (List.mem_append_left _ (List.mem_reverse.mp hv))
    have hgr : ∀ v ∈ r, Gd lay ro v := fun v hv => hGs v (List.mem_append_right _ hv)
    have hMet := hcl _ _ _ _ h hz q hq0 (by rw [List.length_reverse, hlen, hqn]) hgx H.size
    have h51 : ci ≠ 51 := by omega
    have hl := ref_rw (hgx _ (by rw [hys]; exact List.mem_cons_self)) h51
    have hws := wsM_at (cA := cA) (cB := cB) (ad := ad) (M := M) hl
    rw [cellO (by omega) (by omega)] at hws
    obtain ⟨qc, hqc, hqc1⟩ := mOwn_cl ci hc9
    have hrec := va_recv hK hw.1 hqc hws
    rw [hqc1, hci, hmt.2.2.1] at hrec
    have hstk : (xs ++ r).map (vlG ad roAd) = (ys.map (vlG ad roAd)).reverse ++ .ref (ad rid) :: r.map (vlG ad roAd) := by
      have : xs = (mR ci rl rid :: ys).reverse := by rw [← hys, List.reverse_reverse]
      rw [this]
      simp [vl_rw h51]
    have has : (xs.reverse.map (vlG ad roAd)) = .ref (ad rid) :: ys.map (vlG ad roAd) := by rw [hys, List.map_cons, vl_rw h51]
    have hpre : PreV s H q.1.cls (ad rid) (mPc D cA cB ad roAd lay ro rc H.size xs.reverse M) (ys.map (vlG ad roAd)) := ⟨mPc_blind, hrec, fun U hU hW => by rw [← has]; exact mPre_of hE hw hS hU hW⟩
    have hR : (mRm d).frames + 1 ≤ R.frames ∧ 8 + (q.2.2.1 + 11) + (mRm d).locals ≤ R.locals := ⟨hroom.1, by show 8 + (q.2.2.1 + 11) + 60 * d ≤ R.locals; omega⟩
    have hAl : (ys.map (vlG ad roAd)).length = q.2.2.2.2.2.1 - 1 := by
      have : xs.reverse.length = na := by rw [List.length_reverse, hlen]
      rw [hys, List.length_cons] at this
      rw [List.length_map]
      omega
    have hgo : ∀ v M', (rv ret v fun w => nx ls (w ++ r) M') → mGo p l e R s m args below meth c cells slots Q D cA cB ad roAd lay ro rc A nL (pc + 3) ls (rtS v ++ r) M' := fun v M' hv => hnx _ _ _ (rv_of hv)
    refine mBehind (as := (Value.ref (ad rid) :: ys.map (vlG ad roAd)).toArray) hE hw hS hL hGl hgr (k := fun v M' => rv ret v fun w => nx ls (w ++ r) M') ?_ hgo
    rw [hstk]
    have hpd : (parseMethodDescriptor q.1.desc).map (fun d => d.parameters.length) = some (q.2.2.2.2.2.1 - 1) := by
      have h5 := List.all_eq_true.mp mVc_pd _ (contains_mem hc)
      simp only [hq0, decide_eq_true_eq] at h5
      exact h5
    have hm := mVc_ok _ (contains_mem hc)
    simp only [okVc, hq0] at hm
    exact va_runV hF hMet ⟨callB_of (q.2.2.2.2.2.1 - 1) hts (mGood q hgT hmt) rfl rfl rfl (hts _ (hgT _ hmt.2.1)) (hts _ (hgT _ hm.1)) ⟨hmt.2.2.2.2.1, hmt.2.2.2.2.2, hpd⟩ hR, hts _ (hgT _ hm.2.1), hts _ (hgT _ hm.2.2)⟩ hpre rfl hAl h1.1 rfl (lv_room (by rw [rest_sum]; exact h8)) hdec ⟨hcs.1, hcs.2⟩

set_option maxHeartbeats 4000000 in
theorem mStp {i : Instr} {K : Nat → List mV → List mV → mM → Prop} {Rt : mQ} {Cl : Nat → List mV → mM → mQ → Prop} {aux : List Nat} {k : Int32} {nx : List mV → List mV → mM → Prop} {hd : Nat → Nat} {pc len : Nat} {rt : Option FieldType} {d : Nat} (hE : mEnv p s m args c D cA cB roAd lay ro rc A Ts cc nL own)  (hdec : decode cc pc = .ok (i, len)) (hok : okA own rt hd pc i len aux k = true)
    (hKt : ∀ t ls st M, K t ls st M → mGo p l e R s m args below meth c cells slots Q D cA cB ad roAd lay ro rc A nL (hd t) ls st M) (hnx : ∀ ls st M, nx ls st M → mGo p l e R s m args below meth c cells slots Q D cA cB ad roAd lay ro rc A nL (pc + len) ls st M)
    (hrt : ∀ (v : mV) M pc ls, Rt v M → rtOK cc rt pc v → (v ≠ none → Gd lay ro v) → mGo p l e R s m args below meth c cells slots Q D cA cB ad roAd lay ro rc A nL pc ls (rtS v) M)
    (hcl : ∀ z as M k, Cl z as M k → z < mCallable → mCtr l D cA cB ad roAd lay ro rc d z as M k) (hroom : d + 1 ≤ R.frames ∧ 60 * (d + 1) ≤ R.locals) (hcs : cells ≤ R.cells ∧ slots ≤ R.slots) (hnop : i ≠ .nop)
    {ls st : List mV} {M : mM} (h : stp K Rt Cl i aux k nx ls st M) : mGo p l e R s m args below meth c cells slots Q D cA cB ad roAd lay ro rc A nL pc ls st M := by
  obtain ⟨hF, hgT, hK, hst, hlay, hA⟩ := id hE
  obtain ⟨hx, hb, hml, hown, hts⟩ := id hF
  cases i
  case iconst n =>
    simp only [okA, Bool.and_eq_true, beq_iff_eq, decide_eq_true_eq] at hok
    obtain ⟨rfl, rfl⟩ := hok
    intro H locs la hw hS hL hGl hGs
    exact lv_iconst hx hb hdec rfl (hnx _ _ _ h H locs la hw hS hL hGl (gdc trivial hGs))
  case bipush n =>
    simp only [okA, Bool.and_eq_true, beq_iff_eq, decide_eq_true_eq] at hok
    obtain ⟨rfl, rfl⟩ := hok
    intro H locs la hw hS hL hGl hGs
    exact lv_bipush hx hb hdec rfl (hnx _ _ _ h H locs la hw hS hL hGl (gdc trivial hGs))
  case sipush n =>
    simp only [okA, Bool.and_eq_true, beq_iff_eq, decide_eq_true_eq] at hok
    obtain ⟨rfl, rfl⟩ := hok
    intro H locs la hw hS hL hGl hGs
    exact lv_sipush hx hb hdec rfl (hnx _ _ _ h H locs la hw hS hL hGl (gdc trivial hGs))
  case ldc n =>
    simp only [okA, Bool.and_eq_true, beq_iff_eq] at hok
    obtain ⟨rfl, hc⟩ := hok
    have hm := mKl_ok _ (contains_mem hc)
    intro H locs la hw hS hL hGl hGs
    exact lv_ldc hx hb hown (hts _ (hgT _ hm)) hdec (hnx _ _ _ h H locs la hw hS hL hGl (gdc trivial hGs))
  case ldc_w n =>
    simp only [okA, Bool.and_eq_true, beq_iff_eq] at hok
    obtain ⟨rfl, hc⟩ := hok
    have hm := mKl_ok _ (contains_mem hc)
    intro H locs la hw hS hL hGl hGs
    exact lv_ldcw hx hb hown (hts _ (hgT _ hm)) hdec (hnx _ _ _ h H locs la hw hS hL hGl (gdc trivial hGs))
  case iload_n n =>
    simp only [okA, beq_iff_eq] at hok
    subst hok
    have h0 := ldI_of h
    clear h
    obtain ⟨x, hi, h⟩ := h0
    intro H locs la hw hS hL hGl hGs
    exact lv_iload_n hx hb hdec rfl (hL.get hi) (hnx _ _ _ h H locs la hw hS hL hGl (gdc trivial hGs))
  case iload n =>
    simp only [okA, beq_iff_eq] at hok
    subst hok
    have h0 := ldI_of h
    clear h
    obtain ⟨x, hi, h⟩ := h0
    intro H locs la hw hS hL hGl hGs
    exact lv_iload hx hb hdec (hL.get hi) (hnx _ _ _ h H locs la hw hS hL hGl (gdc trivial hGs))
  case aload_n n =>
    simp only [okA, beq_iff_eq] at hok
    subst hok
    have h0 := ldR_of h
    clear h
    obtain ⟨kd, ln, id, hi, h⟩ := h0
    intro H locs la hw hS hL hGl hGs
    exact lv_aload_n hx hb hdec rfl (hL.get hi) (hnx _ _ _ h H locs la hw hS hL hGl (gdc (hGl _ _ hi) hGs))
  case aload n =>
    simp only [okA, beq_iff_eq] at hok
    subst hok
    have h0 := ldR_of h
    clear h
    obtain ⟨kd, ln, id, hi, h⟩ := h0
    intro H locs la hw hS hL hGl hGs
    exact lv_aload hx hb hdec (hL.get hi) (hnx _ _ _ h H locs la hw hS hL hGl (gdc (hGl _ _ hi) hGs))
  case istore_n n =>
    simp only [okA, beq_iff_eq] at hok
    subst hok
    have h0 := p1_of h
    clear h
    obtain ⟨x, r, e1, h⟩ := h0
    subst e1
    have h0 := sto_of h
    clear h
    obtain ⟨hi, h⟩ := h0
    intro H locs la hw hS hL hGl hGs
    obtain ⟨hn, lv, h1, h2⟩ := id hL
    exact lv_istore_n hx hb hdec rfl h1 (by rw [← hn]; exact hi) rfl (fun la' hla => hnx _ _ _ h H locs la' hw hS (LH.set (v := .inl x) rfl hn h2 hla) (GdL_set hGl trivial) (gdt hGs))
  case istore n =>
    simp only [okA, beq_iff_eq] at hok
    subst hok
    have h0 := p1_of h
    clear h
    obtain ⟨x, r, e1, h⟩ := h0
    subst e1
    have h0 := sto_of h
    clear h
    obtain ⟨hi, h⟩ := h0
    intro H locs la hw hS hL hGl hGs
    obtain ⟨hn, lv, h1, h2⟩ := id hL
    exact lv_istore hx hb hdec h1 (by rw [← hn]; exact hi) rfl (fun la' hla => hnx _ _ _ h H locs la' hw hS (LH.set (v := .inl x) rfl hn h2 hla) (GdL_set hGl trivial) (gdt hGs))
  case astore_n n =>
    simp only [okA, beq_iff_eq] at hok
    subst hok
    have h0 := pR_of h
    clear h
    obtain ⟨kd, ln, id, r, e1, h⟩ := h0
    subst e1
    have h0 := sto_of h
    clear h
    obtain ⟨hi, h⟩ := h0
    intro H locs la hw hS hL hGl hGs
    obtain ⟨hn, lv, h1, h2⟩ := _root_.id hL
    exact lv_astore_n hx hb hdec rfl h1 (by rw [← hn]; exact hi) rfl (fun la' hla => hnx _ _ _ h H locs la' hw hS (LH.set (v := .inr (kd, ln, id)) rfl hn h2 hla) (GdL_set hGl (gdh hGs)) (gdt hGs))
  case astore n =>
    simp only [okA, beq_iff_eq] at hok
    subst hok
    have h0 := pR_of h
    clear h
    obtain ⟨kd, ln, id, r, e1, h⟩ := h0
    subst e1
    have h0 := sto_of h
    clear h
    obtain ⟨hi, h⟩ := h0
    intro H locs la hw hS hL hGl hGs
    obtain ⟨hn, lv, h1, h2⟩ := _root_.id hL
    exact lv_astore hx hb hdec h1 (by rw [← hn]; exact hi) rfl (fun la' hla => hnx _ _ _ h H locs la' hw hS (LH.set (v := .inr (kd, ln, id)) rfl hn h2 hla) (GdL_set hGl (gdh hGs)) (gdt hGs))
  case iinc n j =>
    simp only [okA, Bool.and_eq_true, beq_iff_eq, decide_eq_true_eq] at hok
    obtain ⟨rfl, rfl⟩ := hok
    have h0 := ldI_of h
    clear h
    obtain ⟨x, hi, h⟩ := h0
    have h0 := sto_of h
    clear h
    obtain ⟨hi2, h⟩ := h0
    intro H locs la hw hS hL hGl hGs
    obtain ⟨hn, lv, h1, h2⟩ := id hL
    obtain ⟨q, hq⟩ := List.getElem?_of_mem (h2 _ _ hi)
    exact lv_iinc hx hb hdec h1 hq rfl (by rw [← hn]; exact hi2) rfl (fun la' hla => hnx _ _ _ h H locs la' hw hS (LH.set (v := .inl (x + Int32.ofInt j)) rfl hn h2 hla) (GdL_set hGl trivial) hGs)
  case iadd =>
    simp only [okA, beq_iff_eq] at hok
    subst hok
    have h0 := p2_of h
    clear h
    obtain ⟨x, y, r, e1, h⟩ := h0
    subst e1
    intro H locs la hw hS hL hGl hGs
    exact lv_iadd hx hb hdec (hnx _ _ _ h H locs la hw hS hL hGl (gdc trivial (gdt (gdt hGs))))
  case isub =>
    simp only [okA, beq_iff_eq] at hok
    subst hok
    have h0 := p2_of h
    clear h
    obtain ⟨x, y, r, e1, h⟩ := h0
    subst e1
    intro H locs la hw hS hL hGl hGs
    exact lv_isub hx hb hdec (hnx _ _ _ h H locs la hw hS hL hGl (gdc trivial (gdt (gdt hGs))))
  case imul =>
    simp only [okA, beq_iff_eq] at hok
    subst hok
    have h0 := p2_of h
    clear h
    obtain ⟨x, y, r, e1, h⟩ := h0
    subst e1
    intro H locs la hw hS hL hGl hGs
    exact lv_imul hx hb hdec (hnx _ _ _ h H locs la hw hS hL hGl (gdc trivial (gdt (gdt hGs))))
  case iand =>
    simp only [okA, beq_iff_eq] at hok
    subst hok
    have h0 := p2_of h
    clear h
    obtain ⟨x, y, r, e1, h⟩ := h0
    subst e1
    intro H locs la hw hS hL hGl hGs
    exact lv_iand hx hb hdec (hnx _ _ _ h H locs la hw hS hL hGl (gdc trivial (gdt (gdt hGs))))
  case ior =>
    simp only [okA, beq_iff_eq] at hok
    subst hok
    have h0 := p2_of h
    clear h
    obtain ⟨x, y, r, e1, h⟩ := h0
    subst e1
    intro H locs la hw hS hL hGl hGs
    exact lv_ior hx hb hdec (hnx _ _ _ h H locs la hw hS hL hGl (gdc trivial (gdt (gdt hGs))))
  case ixor =>
    simp only [okA, beq_iff_eq] at hok
    subst hok
    have h0 := p2_of h
    clear h
    obtain ⟨x, y, r, e1, h⟩ := h0
    subst e1
    intro H locs la hw hS hL hGl hGs
    exact lv_ixor hx hb hdec (hnx _ _ _ h H locs la hw hS hL hGl (gdc trivial (gdt (gdt hGs))))
  case ishl =>
    simp only [okA, beq_iff_eq] at hok
    subst hok
    have h0 := p2_of h
    clear h
    obtain ⟨x, y, r, e1, h⟩ := h0
    subst e1
    intro H locs la hw hS hL hGl hGs
    exact lv_ishl hx hb hdec (hnx _ _ _ h H locs la hw hS hL hGl (gdc trivial (gdt (gdt hGs))))
  case ishr =>
    simp only [okA, beq_iff_eq] at hok
    subst hok
    have h0 := p2_of h
    clear h
    obtain ⟨x, y, r, e1, h⟩ := h0
    subst e1
    intro H locs la hw hS hL hGl hGs
    exact lv_ishr hx hb hdec (hnx _ _ _ h H locs la hw hS hL hGl (gdc trivial (gdt (gdt hGs))))
  case iushr =>
    simp only [okA, beq_iff_eq] at hok
    subst hok
    have h0 := p2_of h
    clear h
    obtain ⟨x, y, r, e1, h⟩ := h0
    subst e1
    intro H locs la hw hS hL hGl hGs
    exact lv_iushr hx hb hdec rfl (hnx _ _ _ h H locs la hw hS hL hGl (gdc trivial (gdt (gdt hGs))))
  case idiv =>
    simp only [okA, beq_iff_eq] at hok
    subst hok
    have h0 := p2_of h
    clear h
    obtain ⟨x, y, r, e1, h0, h⟩ := h0
    subst e1
    intro H locs la hw hS hL hGl hGs
    exact lv_idiv hx hb hdec h0 (hnx _ _ _ h H locs la hw hS hL hGl (gdc trivial (gdt (gdt hGs))))
  case irem =>
    simp only [okA, beq_iff_eq] at hok
    subst hok
    have h0 := p2_of h
    clear h
    obtain ⟨x, y, r, e1, h0, h⟩ := h0
    subst e1
    intro H locs la hw hS hL hGl hGs
    exact lv_irem hx hb hdec h0 (hnx _ _ _ h H locs la hw hS hL hGl (gdc trivial (gdt (gdt hGs))))
  case pop =>
    simp only [okA, beq_iff_eq] at hok
    subst hok
    cases st with
    | nil => exact h.elim
    | cons v r =>
      intro H locs la hw hS hL hGl hGs
      exact lv_pop hx hb hdec (vlG_cat _ _ v) (hnx _ _ _ h H locs la hw hS hL hGl (gdt hGs))
  case dup =>
    simp only [okA, beq_iff_eq] at hok
    subst hok
    cases st with
    | nil => exact h.elim
    | cons v r =>
      intro H locs la hw hS hL hGl hGs
      exact lv_dup hx hb hdec (vlG_cat _ _ v) (hnx _ _ _ h H locs la hw hS hL hGl (gdc (gdh hGs) hGs))
  case ifCond c off =>
    have h0 := p1_of h
    clear h
    obtain ⟨x, r, e1, h⟩ := h0
    subst e1
    have h0 := a1_of h
    clear h
    obtain ⟨t, e1, h⟩ := h0
    subst e1
    simp only [okA, Bool.and_eq_true, beq_iff_eq, decide_eq_true_eq] at hok
    obtain ⟨rfl, ht⟩ := hok
    intro H locs la hw hS hL hGl hGs
    have g := gdt hGs
    cases c
    case eq => exact lv_if_eq hx hb hdec ht (fun q => hKt _ _ _ _ (h.1 q) H locs la hw hS hL hGl g) (fun q => hnx _ _ _ (h.2 q) H locs la hw hS hL hGl g)
    case ne => exact lv_if_ne hx hb hdec ht (fun q => hKt _ _ _ _ (h.1 q) H locs la hw hS hL hGl g) (fun q => hnx _ _ _ (h.2 q) H locs la hw hS hL hGl g)
    case lt => exact lv_if_lt hx hb hdec ht (fun q => hKt _ _ _ _ (h.1 q) H locs la hw hS hL hGl g) (fun q => hnx _ _ _ (h.2 q) H locs la hw hS hL hGl g)
    case ge => exact lv_if_ge hx hb hdec ht (fun q => hKt _ _ _ _ (h.1 q) H locs la hw hS hL hGl g) (fun q => hnx _ _ _ (h.2 q) H locs la hw hS hL hGl g)
    case gt => exact lv_if_gt hx hb hdec ht (fun q => hKt _ _ _ _ (h.1 q) H locs la hw hS hL hGl g) (fun q => hnx _ _ _ (h.2 q) H locs la hw hS hL hGl g)
    case le => exact lv_if_le hx hb hdec ht (fun q => hKt _ _ _ _ (h.1 q) H locs la hw hS hL hGl g) (fun q => hnx _ _ _ (h.2 q) H locs la hw hS hL hGl g)
  case if_icmp c off =>
    have h0 := p2_of h
    clear h
    obtain ⟨x, y, r, e1, h⟩ := h0
    subst e1
    have h0 := a1_of h
    clear h
    obtain ⟨t, e1, h⟩ := h0
    subst e1
    simp only [okA, Bool.and_eq_true, beq_iff_eq, decide_eq_true_eq] at hok
    obtain ⟨rfl, ht⟩ := hok
    intro H locs la hw hS hL hGl hGs
    have g := gdt (gdt hGs)
    cases c
    case eq => exact lv_icmp_eq hx hb hdec ht (fun q => hKt _ _ _ _ (h.1 q) H locs la hw hS hL hGl g) (fun q => hnx _ _ _ (h.2 q) H locs la hw hS hL hGl g)
    case ne => exact lv_icmp_ne hx hb hdec ht (fun q => hKt _ _ _ _ (h.1 q) H locs la hw hS hL hGl g) (fun q => hnx _ _ _ (h.2 q) H locs la hw hS hL hGl g)
    case lt => exact lv_icmp_lt hx hb hdec ht (fun q => hKt _ _ _ _ (h.1 q) H locs la hw hS hL hGl g) (fun q => hnx _ _ _ (h.2 q) H locs la hw hS hL hGl g)
    case ge => exact lv_icmp_ge hx hb hdec ht (fun q => hKt _ _ _ _ (h.1 q) H locs la hw hS hL hGl g) (fun q => hnx _ _ _ (h.2 q) H locs la hw hS hL hGl g)
    case gt => exact lv_icmp_gt hx hb hdec ht (fun q => hKt _ _ _ _ (h.1 q) H locs la hw hS hL hGl g) (fun q => hnx _ _ _ (h.2 q) H locs la hw hS hL hGl g)
    case le => exact lv_icmp_le hx hb hdec ht (fun q => hKt _ _ _ _ (h.1 q) H locs la hw hS hL hGl g) (fun q => hnx _ _ _ (h.2 q) H locs la hw hS hL hGl g)
  case goto off =>
    have h0 := a1_of h
    clear h
    obtain ⟨t, e1, h⟩ := h0
    subst e1
    simp only [okA, Bool.and_eq_true, beq_iff_eq, decide_eq_true_eq] at hok
    obtain ⟨rfl, ht⟩ := hok
    intro H locs la hw hS hL hGl hGs
    exact lv_goto hx hb hdec ht (hKt _ _ _ _ h H locs la hw hS hL hGl hGs)
  case nop =>
    exact absurd rfl hnop
  case tableswitch dd lo hi offs =>
    have h0 := p1_of h
    clear h
    obtain ⟨x, r, e1, h⟩ := h0
    subst e1
    cases aux with
    | nil => exact h.elim
    | cons t0 ts =>
      simp only [okA, Bool.and_eq_true, decide_eq_true_eq] at hok
      obtain ⟨⟨⟨ht, hhi⟩, hsz⟩, hall⟩ := hok
      intro H locs la hw hS hL hGl hGs
      have g := gdt hGs
      by_cases ho : x.toInt < lo ∨ hi < x.toInt
      · exact lv_tableOut hx hb hdec ho ht (hKt _ _ _ _ (h.1 ho) H locs la hw hS hL hGl g)
      · have h1 : ¬ x.toInt < lo := fun q => ho (Or.inl q)
        have h2 : ¬ hi < x.toInt := fun q => ho (Or.inr q)
        have hj : (x.toInt - lo).toNat < ts.length := by omega
        have h3 := List.all_eq_true.mp hall _ (List.mem_range.mpr hj)
        have e1 : ts[(x.toInt - lo).toNat]? = some ts[(x.toInt - lo).toNat] := List.getElem?_eq_getElem hj
        have e2 : offs[(x.toInt - lo).toNat]? = some (offs[(x.toInt - lo).toNat]'(by rw [← hsz]; exact hj)) := Array.getElem?_eq_getElem _
        rw [e1, e2] at h3
        simp only [decide_eq_true_eq] at h3
        exact lv_tableIn hx hb hdec h1 h2 e2 h3 (hKt _ _ _ _ (tsw_of _ _ h.2 _ _ e1 (by omega)) H locs la hw hS hL hGl g)
  case getfield n =>
    have h0 := pR_of h
    clear h
    obtain ⟨kd, ln, id, r, e1, h⟩ := h0
    subst e1
    have h0 := a2_of h
    clear h
    obtain ⟨ci, j, e1, h⟩ := h0
    subst e1
    simp only [okA, Bool.and_eq_true, beq_iff_eq] at hok
    obtain ⟨rfl, hc⟩ := hok
    have hm := mFl_ok _ (contains_mem hc)
    unfold gtf at h
    split at h
    case isFalse => exact h.elim
    case isTrue he =>
      subst he
      intro H locs la hw hS hL hGl hGs
      simp only [okF] at hm
      split at hm
      case h_2 => exact hm.elim
      case h_1 q hq =>
        obtain ⟨hj, hlk⟩ := hm
        have hq2 := vwCl_ok _ (List.mem_of_getElem? hq)
        have hne : kd ≠ 50 ∧ kd ≠ 52 ∧ kd ≠ 51 := by
          have : kd < vwCl.length := (List.getElem?_eq_some_iff.mp hq).1
          have : vwCl.length = 9 := rfl
          omega
        have hl := ref_rw (gdh hGs) hne.2.2
        have hws := wsM_at (cA := cA) (cB := cB) (ad := ad) (M := M) hl
        rw [cellO hne.1 hne.2.1] at hws
        have g := gdt hGs
        show W p l e R s m args below meth c H locs cells slots Q (F0 m pc la (vlG ad roAd (mR kd ln id) :: r.map (vlG ad roAd)))
        rw [vl_rw hne.2.2]
        split at h
        case h_1 hs =>
          exact va_get (v := .int (M id j)) (C := q.1) (T := q.2.1) (N := q.2.2) hx hb hts (fun w hw => hgT _ (hq2.1 w hw)) hown hK hw.1 id hws hq j hj (hts _ (hgT _ hlk)) (fun _ h => h) (by rw [slE_at, hs]; rfl) hdec (hnx _ _ _ h H locs la hw hS hL hGl (gdc trivial g))
        case h_2 kd' len' off hs =>
          have hl2 := (((hlay.2 _ _ _ hl).2 hne.1 hne.2.1).choose_spec).2.2 _ _ _ _ hs
          refine va_get (v := .ref (ad (id + off))) (C := q.1) (T := q.2.1) (N := q.2.2) hx hb hts (fun w hw => hgT _ (hq2.1 w hw)) hown hK hw.1 id hws hq j hj (hts _ (hgT _ hlk)) (fun _ h => h) (by rw [slE_at, hs]; rfl) hdec ?_
          have h9 := hnx _ _ _ h H locs la hw hS hL hGl (gdc (by show (if kd' = 51 then _ else _); rw [if_neg hl2.1]; exact hl2.2) g)
          rw [List.map_cons, vl_rw hl2.1] at h9
          exact h9
        case h_3 => exact h.elim
  case putfield n =>
    have h0 := p1_of h
    clear h
    obtain ⟨v, r1, e1, h⟩ := h0
    subst e1
    have h0 := pR_of h
    clear h
    obtain ⟨kd, ln, id, r, e1, h⟩ := h0
    subst e1
    have h0 := a2_of h
    clear h
    obtain ⟨ci, j, e1, h⟩ := h0
    subst e1
    simp only [okA, Bool.and_eq_true, beq_iff_eq] at hok
    obtain ⟨rfl, hc, hfi⟩ := hok
    have hm := mFl_ok _ (contains_mem hc)
    unfold ptf at h
    split at h
    case isFalse => exact h.elim
    case isTrue he =>
      subst he
      intro H locs la hw hS hL hGl hGs
      simp only [okF] at hm
      split at hm
      case h_2 => exact hm.elim
      case h_1 q hq =>
        rw [hq] at hfi
        simp only [Bool.and_eq_true, decide_eq_true_eq] at hfi
        obtain ⟨hj, hlk⟩ := hm
        have hq2 := vwCl_ok _ (List.mem_of_getElem? hq)
        obtain ⟨ty0, hty⟩ := hq2.2.1
        have hne : kd ≠ 50 ∧ kd ≠ 52 ∧ kd ≠ 51 := by
          have : kd < vwCl.length := (List.getElem?_eq_some_iff.mp hq).1
          have : vwCl.length = 9 := rfl
          omega
        have hl := ref_rw (gdh (gdt hGs)) hne.2.2
        have hws := wsM_at (cA := cA) (cB := cB) (ad := ad) (M := M) hl
        rw [cellO hne.1 hne.2.1] at hws
        have g := gdt (gdt hGs)
        show W p l e R s m args below meth c H locs cells slots Q (F0 m pc la (.int v :: vlG ad roAd (mR kd ln id) :: r.map (vlG ad roAd)))
        rw [vl_rw hne.2.2]
        split at h
        case h_1 hs =>
          refine va_put (v := .int v) (ty := .int) (C := q.1) (T := q.2.1) (N := q.2.2) hx hb hts (fun w hw => hgT _ (hq2.1 w hw)) ty0 hty hq2.2.2 hown hK hw.1 hw.2.1 hS id hws hq j hj (hts _ (hgT _ hlk)) (fun _ h => h) hfi.1 (by rw [hfi.2]; decide +kernel) rfl rfl (by have := (List.getElem?_eq_some_iff.mp hs).1; simpa [slE] using this) hdec (fun H1 locs1 hP1 hD1 hS1 => ?_)
          have e1 : (wsM cA cB ad lay M).set id (ad id, .inr (kd, (slE ad M id (mSh kd)).set j (.int v))) = wsM cA cB ad lay (up M id j v) := wsM_set hl (by rw [cellO hne.1 hne.2.1, slE_set hs])
          rw [e1] at hP1 hD1
          exact hnx _ _ _ h H1 locs1 la ⟨hP1, hD1, up_ro (layOK_lt hlay hl) hw.2.2⟩ hS1 hL hGl g
        case h_2 => exact h.elim
  case getstatic n =>
    have h0 := a1_of h
    clear h
    obtain ⟨j, e1, h⟩ := h0
    subst e1
    simp only [okA, Bool.and_eq_true, Bool.or_eq_true, beq_iff_eq] at hok
    obtain ⟨rfl, hc⟩ := hok
    intro H locs la hw hS hL hGl hGs
    split at h
    case h_2 => exact h.elim
    case h_1 q hq =>
      obtain ⟨hro, hZ⟩ := hst.2.1 j q hq
      have g : ∀ w ∈ mR 51 q.2.2 j :: st, Gd lay ro w := gdc (by exact hro) hGs
      have h9 := hnx _ _ _ h H locs la hw hS hL hGl g
      rcases hc with hc | hc
      · have hm := mSl_ok _ (contains_mem hc)
        simp only [okS, hq] at hm
        exact va_gets hx hb hZ hS hown (hts _ (hgT _ hm)) (fun _ h => h) hdec h9
      · have hm := mSl_ok _ (contains_mem hc)
        simp only [okS, hq] at hm
        exact va_getsN hx hb hZ hS hown (va_Nw.use rfl (hst.2.2 _ hm)) (fun _ h => h) hdec h9
  case iaload =>
    simp only [okA, beq_iff_eq] at hok
    subst hok
    have h0 := pIR_of h
    clear h
    obtain ⟨x, kd, ln, id, r, e1, h⟩ := h0
    subst e1
    intro H locs la hw hS hL hGl hGs
    have g := gdt (gdt hGs)
    unfold ald at h
    split at h
    case isTrue he =>
      subst he
      have hl := ref_rw (gdh (gdt hGs)) (by decide)
      have hws := wsM_at (cA := cA) (cB := cB) (ad := ad) (M := M) hl
      rw [cell50] at hws
      exact va_iald hx hb hK hw.1 id 0 hws rfl h.1 hdec (hnx _ _ _ h.2 H locs la hw hS hL hGl (gdc trivial g))
    case isFalse =>
      split at h
      case isFalse => exact h.elim
      case isTrue he =>
        subst he
        have hl := ref_ro (gdh (gdt hGs))
        have hT := hst.1 id ln hl
        exact va_ti hx hb hT hS h.1 (v := .int (M (1000 + id) x.toNatClampNeg)) (by rw [hw.2.2]) hdec (hnx _ _ _ h.2 H locs la hw hS hL hGl (gdc trivial g))
  case baload =>
    simp only [okA, beq_iff_eq] at hok
    subst hok
    have h0 := pIR_of h
    clear h
    obtain ⟨x, kd, ln, id, r, e1, h⟩ := h0
    subst e1
    intro H locs la hw hS hL hGl hGs
    have g := gdt (gdt hGs)
    unfold bld at h
    split at h
    case isTrue he =>
      subst he
      have hl := ref_rw (gdh (gdt hGs)) (by decide)
      have hws := wsM_at (cA := cA) (cB := cB) (ad := ad) (M := M) hl
      rw [cell52] at hws
      exact va_zald hx hb hK hw.1 id 1 hws rfl h.1 hdec (hnx _ _ _ h.2 H locs la hw hS hL hGl (gdc trivial g))
    case isFalse => exact h.elim
  case iastore =>
    simp only [okA, beq_iff_eq] at hok
    subst hok
    have h0 := pIIR_of h
    clear h
    obtain ⟨x, j, kd, ln, id, r, e1, h⟩ := h0
    subst e1
    intro H locs la hw hS hL hGl hGs
    have g := gdt (gdt (gdt hGs))
    unfold ast at h
    split at h
    case isTrue he =>
      subst he
      have hl := ref_rw (gdh (gdt (gdt hGs))) (by decide)
      have hws := wsM_at (cA := cA) (cB := cB) (ad := ad) (M := M) hl
      rw [cell50] at hws
      refine va_iast hx hb hK hw.1 hw.2.1 hS id 0 hws rfl h.1 hdec (fun H1 locs1 hP1 hD1 hS1 => ?_)
      rw [upd_up, wsM_set hl cell50.symm] at hP1 hD1
      exact hnx _ _ _ h.2 H1 locs1 la ⟨hP1, hD1, up_ro (layOK_lt hlay hl) hw.2.2⟩ hS1 hL hGl g
    case isFalse => exact h.elim
  case bastore =>
    simp only [okA, beq_iff_eq] at hok
    subst hok
    have h0 := pIIR_of h
    clear h
    obtain ⟨x, j, kd, ln, id, r, e1, h⟩ := h0
    subst e1
    intro H locs la hw hS hL hGl hGs
    have g := gdt (gdt (gdt hGs))
    unfold bst at h
    split at h
    case isTrue he =>
      subst he
      have hl := ref_rw (gdh (gdt (gdt hGs))) (by decide)
      have hws := wsM_at (cA := cA) (cB := cB) (ad := ad) (M := M) hl
      rw [cell52] at hws
      refine va_zast hx hb hK hw.1 hw.2.1 hS id 1 hws rfl h.1 hdec (fun H1 locs1 hP1 hD1 hS1 => ?_)
      rw [upd_up, wsM_set hl cell52.symm] at hP1 hD1
      exact hnx _ _ _ h.2 H1 locs1 la ⟨hP1, hD1, up_ro (layOK_lt hlay hl) hw.2.2⟩ hS1 hL hGl g
    case isFalse => exact h.elim
  case arraylength =>
    simp only [okA, beq_iff_eq] at hok
    subst hok
    have h0 := pR_of h
    clear h
    obtain ⟨kd, ln, id, r, e1, h⟩ := h0
    subst e1
    intro H locs la hw hS hL hGl hGs
    have g := gdt hGs
    unfold aln at h
    split at h
    case isTrue he =>
      subst he
      have hl := ref_rw (gdh hGs) (by decide)
      have hws := wsM_at (cA := cA) (cB := cB) (ad := ad) (M := M) hl
      rw [cell50] at hws
      exact va_alen hx hb hK hw.1 id 0 hws rfl rfl hdec (hnx _ _ _ h H locs la hw hS hL hGl (gdc trivial g))
    case isFalse =>
      split at h
      case isFalse => exact h.elim
      case isTrue he =>
        subst he
        have hT := hst.1 id ln (ref_ro (gdh hGs))
        exact va_tlen hx hb hT hS rfl hdec (hnx _ _ _ h H locs la hw hS hL hGl (gdc trivial g))
  case ireturn =>
    have h0 := a1_of h
    clear h
    obtain ⟨b, e1, h⟩ := h0
    subst e1
    simp only [okA, Bool.and_eq_true, beq_iff_eq] at hok
    obtain ⟨rfl, hr⟩ := hok
    split at h
    case h_2 => exact h.elim
    case h_1 x =>
      unfold ire at h
      split at h
      · exact hrt (mI x) M pc ls h ⟨hdec, Or.inl (by simpa using hr)⟩ (fun _ => trivial)
      · exact hrt (mI x) M pc ls h.2 ⟨hdec, Or.inr ⟨by simpa using hr, h.1⟩⟩ (fun _ => trivial)
      · exact h.elim
  case areturn =>
    simp only [okA, Bool.and_eq_true, beq_iff_eq] at hok
    obtain ⟨rfl, hr⟩ := hok
    unfold stp at h
    dsimp only at h
    split at h
    case h_2 => exact h.elim
    case h_1 kd ln id =>
      intro H locs la hw hS hL hGl hGs
      exact hrt (mR kd ln id) M pc ls h ⟨hdec, by split at hr; exact ⟨_, rfl⟩; cases hr⟩ (fun _ => gdh hGs) H locs la hw hS hL hGl hGs
  case return_ =>
    simp only [okA, Bool.and_eq_true, beq_iff_eq, decide_eq_true_eq] at hok
    obtain ⟨rfl, hr⟩ := hok
    unfold stp at h
    dsimp only at h
    split at h
    case h_2 => exact h.elim
    case h_1 => exact hrt none M pc ls h ⟨hdec, hr⟩ (fun h => absurd rfl h)
  case invokestatic n =>
    exact mInvS hE hdec hok hnx hcl hroom hcs h
  case invokevirtual n =>
    exact mInvV hE hdec hok hnx hcl hroom hcs h
  all_goals exact h.elim
end MS
end
section
/-! BLOCKS AND METHODS -/
theorem mTab_fit : mTab.all (fun q => decide (q.2.2.2.2.2.1 ≤ q.2.2.1)) = true := by decide +kernel
theorem lv_args_mem : ∀ (vs : List Value) (n i : Nat) (v : Value), (∀ v ∈ vs, v.category = 1) → vs[i]? = some v → (n + i, v) ∈ lv_args n vs
  | [], _, _, _, _, h => by simp at h
  | w :: vs, n, i, v, hc, h => by
    have hw : ¬ w.category = 2 := by rw [hc w List.mem_cons_self]; decide
    simp only [lv_args, if_neg hw]
    cases i with
    | zero =>
      simp at h
      subst h
      exact List.mem_cons_self
    | succ i =>
      have h9 := lv_args_mem vs (n + 1) i v (fun v hv => hc v (List.mem_cons_of_mem _ hv)) (by simpa using h)
      rw [show n + 1 + i = n + (i + 1) by omega] at h9
      exact List.mem_cons_of_mem _ h9
theorem lg_sl_len : ∀ (vs : List Value), (∀ v ∈ vs, v.category = 1) → (lg_sl vs).length = vs.length
  | [], _ => rfl
  | w :: vs, hc => by
    have hw : ¬ w.category = 2 := by rw [hc w List.mem_cons_self]; decide
    have ih := lg_sl_len vs (fun v hv => hc v (List.mem_cons_of_mem _ hv))
    simp [lg_sl, hw] at ih ⊢
    omega
section MS
variable {p : Program} {l : Launch} {e : Env} {R : Room} {s : State} {m : MethodId} {args : Array Value} {below : List Frame} {meth : Method} {c : Code} {cells slots : Nat} {Q : State → Prop}
variable {D : va_G} {cA cB : ClassId} {ad roAd : Nat → Nat} {lay : List (Nat × Nat)} {ro : List Nat} {rc : Nat → Nat → Int32} {A : Nat → Prop} {Ts : List Cond} {cc : ByteArray} {nL : Nat} {own : Nat}
variable {K : Nat → List mV → List mV → mM → Prop} {Rt : mQ} {Cl : Nat → List mV → mM → mQ → Prop} {hd : Nat → Nat} {rt : Option FieldType} {d : Nat}
theorem mBlk (hE : mEnv p s m args c D cA cB roAd lay ro rc A Ts cc nL own)
    (hKt : ∀ t ls st M, K t ls st M → mGo p l e R s m args below meth c cells slots Q D cA cB ad roAd lay ro rc A nL (hd t) ls st M)
    (hrt : ∀ (v : mV) M pc ls, Rt v M → rtOK cc rt pc v → (v ≠ none → Gd lay ro v) → mGo p l e R s m args below meth c cells slots Q D cA cB ad roAd lay ro rc A nL pc ls (rtS v) M)
    (hcl : ∀ z as M k, Cl z as M k → z < mCallable → mCtr l D cA cB ad roAd lay ro rc d z as M k) (hroom : d + 1 ≤ R.frames ∧ 60 * (d + 1) ≤ R.locals) (hcs : cells ≤ R.cells ∧ slots ≤ R.slots) :
    ∀ (b : List mIns), okBl cc own rt hd b = true → ∀ q r, b = q :: r → ∀ ls st M, bx K Rt Cl b ls st M → mGo p l e R s m args below meth c cells slots Q D cA cB ad roAd lay ro rc A nL q.1 ls st M := by
  intro b
  induction b with
  | nil => intro _ q r h; cases h
  | cons q r ih =>
    intro hok q' r' hqr ls st M h
    cases hqr
    simp only [okBl, Bool.and_eq_true] at hok
    obtain ⟨⟨hi, hnext⟩, hok2⟩ := hok
    by_cases hn : q.2.1 = .nop
    · have h' : stp K Rt Cl q.2.1 q.2.2.2.1 q.2.2.2.2 (bx K Rt Cl r) ls st M := h
      rw [hn] at h'
      obtain ⟨t, ht, h2⟩ := a1_of h'
      unfold okI at hi
      rw [hn] at hi
      dsimp only at hi
      rw [ht] at hi
      simp only [beq_iff_eq] at hi
      have h9 := hKt t ls st M h2
      rw [hi] at h9
      exact h9
    · have hi' : decode cc q.1 = .ok (q.2.1, q.2.2.1) ∧ okA own rt hd q.1 q.2.1 q.2.2.1 q.2.2.2.1 q.2.2.2.2 = true := by
        unfold okI at hi
        split at hi
        · next hq => exact absurd hq hn
        · simpa using hi
      refine mStp hE hi'.1 hi'.2 hKt ?_ hrt hcl hroom hcs hn h
      intro ls st M h
      cases r with
      | nil => exact h.elim
      | cons q2 r2 =>
        simp only [beq_iff_eq] at hnext
        have h9 := ih hok2 q2 r2 rfl ls st M h
        rw [hnext] at h9
        exact h9
theorem mWt (hE : mEnv p s m args c D cA cB roAd lay ro rc A Ts cc nL own) {b : List (List mIns)}
    (hrt : ∀ (v : mV) M pc ls, Rt v M → rtOK cc rt pc v → (v ≠ none → Gd lay ro v) → mGo p l e R s m args below meth c cells slots Q D cA cB ad roAd lay ro rc A nL pc ls (rtS v) M)
    (hcl : ∀ z as M k, Cl z as M k → z < mCallable → mCtr l D cA cB ad roAd lay ro rc d z as M k) (hroom : d + 1 ≤ R.frames ∧ 60 * (d + 1) ≤ R.locals) (hcs : cells ≤ R.cells ∧ slots ≤ R.slots)
    {N : Nat} (hok : ∀ t, N ≤ t → okBl cc own rt (mHd b) (mBk b t) = true) {t : Nat} {ls st : List mV} {M : mM} (ht : N ≤ t) (hN : ∀ X, (∀ t, N ≤ t → ∀ ls st M, bx X Rt Cl (mBk b t) ls st M → X t ls st M) → X t ls st M) : mGo p l e R s m args below meth c cells slots Q D cA cB ad roAd lay ro rc A nL (mHd b t) ls st M := by
  refine hN (fun t ls st M => mGo p l e R s m args below meth c cells slots Q D cA cB ad roAd lay ro rc A nL (mHd b t) ls st M) (fun t ht ls st M h => ?_)
  cases hb : mBk b t with
  | nil => rw [hb] at h; exact h.elim
  | cons q r =>
    have hh : mHd b t = q.1 := by unfold mHd; rw [hb]
    have h9 := mBlk (K := fun t ls st M => mGo p l e R s m args below meth c cells slots Q D cA cB ad roAd lay ro rc A nL (mHd b t) ls st M) hE (fun _ _ _ _ h => h) hrt hcl hroom hcs (mBk b t) (hok t ht) q r hb ls st M h
    rw [hh]
    exact h9
end MS
theorem okM_at {z : Nat} (hz : okM z = true) {q : MethodName × ByteArray × Nat × Option FieldType × Nat × Nat × Nat} (hq : mTab[z]? = some q) : mHd (mB z) 0 = 0 ∧ ∀ t, okBl q.2.1 q.2.2.2.2.1 q.2.2.2.1 (mHd (mB z)) (mBk (mB z) t) = true := by
  unfold okM at hz
  rw [hq] at hz
  simp only [Bool.and_eq_true, beq_iff_eq] at hz
  refine ⟨hz.1, fun t => ?_⟩
  unfold mBk
  cases h : (mB z)[t]? with
  | none => rw [List.getD_eq_getElem?_getD, h]; rfl
  | some b =>
    rw [List.getD_eq_getElem?_getD, h]
    exact List.all_eq_true.mp hz.2 b (List.mem_of_getElem? h)
set_option maxRecDepth 100000 in
theorem okM_all : ∀ z, z < mCallable → okM z = true := by
  have h : ∀ z ∈ List.range 129, okM z = true := by
    have e : List.range 129 = [0, 1, 2, 3, 4, 5, 6, 7, 8, 9, 10, 11, 12, 13, 14, 15, 16, 17, 18, 19, 20, 21, 22, 23, 24, 25, 26, 27, 28, 29, 30, 31, 32, 33, 34, 35, 36, 37, 38, 39, 40, 41, 42, 43, 44, 45, 46, 47, 48, 49, 50, 51, 52, 53, 54, 55, 56, 57, 58, 59, 60, 61, 62, 63, 64, 65, 66, 67, 68, 69, 70, 71, 72, 73, 74, 75, 76, 77, 78, 79, 80, 81, 82, 83, 84, 85, 86, 87, 88, 89, 90, 91, 92, 93, 94, 95, 96, 97, 98, 99, 100, 101, 102, 103, 104, 105, 106, 107, 108, 109, 110, 111, 112, 113, 114, 115, 116, 117, 118, 119, 120, 121, 122, 123, 124, 125, 126, 127, 128] := by decide +kernel
    rw [e]
    exact List.forall_mem_cons.mpr ⟨okM_0, List.forall_mem_cons.mpr ⟨okM_1, List.forall_mem_cons.mpr ⟨okM_2, List.forall_mem_cons.mpr ⟨okM_3, List.forall_mem_cons.mpr ⟨okM_4, List.forall_mem_cons.mpr ⟨okM_5, List.forall_mem_cons.mpr ⟨okM_6, List.forall_mem_cons.mpr ⟨okM_7, List.forall_mem_cons.mpr ⟨okM_8, List.forall_mem_cons.mpr ⟨okM_9, List.forall_mem_cons.mpr ⟨okM_10, List.forall_mem_cons.mpr ⟨okM_11, List.forall_mem_cons.mpr ⟨okM_12, List.forall_mem_cons.mpr ⟨okM_13, List.forall_mem_cons.mpr ⟨okM_14, List.forall_mem_cons.mpr ⟨okM_15, List.forall_mem_cons.mpr ⟨okM_16, List.forall_mem_cons.mpr ⟨okM_17, List.forall_mem_cons.mpr ⟨okM_18, List.forall_mem_cons.mpr ⟨okM_19, List.forall_mem_cons.mpr ⟨okM_20, List.forall_mem_cons.mpr ⟨okM_21, List.forall_mem_cons.mpr ⟨okM_22, List.forall_mem_cons.mpr ⟨okM_23, List.forall_mem_cons.mpr ⟨okM_24, List.forall_mem_cons.mpr ⟨okM_25, List.forall_mem_cons.mpr ⟨okM_26, List.forall_mem_cons.mpr ⟨okM_27, List.forall_mem_cons.mpr ⟨okM_28, List.forall_mem_cons.mpr ⟨okM_29, List.forall_mem_cons.mpr ⟨okM_30, List.forall_mem_cons.mpr ⟨okM_31, List.forall_mem_cons.mpr ⟨okM_32, List.forall_mem_cons.mpr ⟨okM_33, List.forall_mem_cons.mpr ⟨okM_34, List.forall_mem_cons.mpr ⟨okM_35, List.forall_mem_cons.mpr ⟨okM_36, List.forall_mem_cons.mpr ⟨okM_37, List.forall_mem_cons.mpr ⟨okM_38, List.forall_mem_cons.mpr ⟨okM_39, List.forall_mem_cons.mpr ⟨okM_40, List.forall_mem_cons.mpr ⟨okM_41, List.forall_mem_cons.mpr ⟨okM_42, List.forall_mem_cons.mpr ⟨okM_43, List.forall_mem_cons.mpr ⟨okM_44, List.forall_mem_cons.mpr ⟨okM_45, List.forall_mem_cons.mpr ⟨okM_46, List.forall_mem_cons.mpr ⟨okM_47, List.forall_mem_cons.mpr ⟨okM_48, List.forall_mem_cons.mpr ⟨okM_49, List.forall_mem_cons.mpr ⟨okM_50, List.forall_mem_cons.mpr ⟨okM_51, List.forall_mem_cons.mpr ⟨okM_52, List.forall_mem_cons.mpr ⟨okM_53, List.forall_mem_cons.mpr ⟨okM_54, List.forall_mem_cons.mpr ⟨okM_55, List.forall_mem_cons.mpr ⟨okM_56, List.forall_mem_cons.mpr ⟨okM_57, List.forall_mem_cons.mpr ⟨okM_58, List.forall_mem_cons.mpr ⟨okM_59, List.forall_mem_cons.mpr ⟨okM_60, List.forall_mem_cons.mpr ⟨okM_61, List.forall_mem_cons.mpr ⟨okM_62, List.forall_mem_cons.mpr ⟨okM_63, List.forall_mem_cons.mpr ⟨okM_64, List.forall_mem_cons.mpr ⟨okM_65, List.forall_mem_cons.mpr ⟨okM_66, List.forall_mem_cons.mpr ⟨okM_67, List.forall_mem_cons.mpr ⟨okM_68, List.forall_mem_cons.mpr ⟨okM_69, List.forall_mem_cons.mpr ⟨okM_70, List.forall_mem_cons.mpr ⟨okM_71, List.forall_mem_cons.mpr ⟨okM_72, List.forall_mem_cons.mpr ⟨okM_73, List.forall_mem_cons.mpr ⟨okM_74, List.forall_mem_cons.mpr ⟨okM_75, List.forall_mem_cons.mpr ⟨okM_76, List.forall_mem_cons.mpr ⟨okM_77, List.forall_mem_cons.mpr ⟨okM_78, List.forall_mem_cons.mpr ⟨okM_79, List.forall_mem_cons.mpr ⟨okM_80, List.forall_mem_cons.mpr ⟨okM_81, List.forall_mem_cons.mpr ⟨okM_82, List.forall_mem_cons.mpr ⟨okM_83, List.forall_mem_cons.mpr ⟨okM_84, List.forall_mem_cons.mpr ⟨okM_85, List.forall_mem_cons.mpr ⟨okM_86, List.forall_mem_cons.mpr ⟨okM_87, List.forall_mem_cons.mpr ⟨okM_88, List.forall_mem_cons.mpr ⟨okM_89, List.forall_mem_cons.mpr ⟨okM_90, List.forall_mem_cons.mpr ⟨okM_91, List.forall_mem_cons.mpr ⟨okM_92, List.forall_mem_cons.mpr ⟨okM_93, List.forall_mem_cons.mpr ⟨okM_94, List.forall_mem_cons.mpr ⟨okM_95, List.forall_mem_cons.mpr ⟨okM_96, List.forall_mem_cons.mpr ⟨okM_97, List.forall_mem_cons.mpr ⟨okM_98, List.forall_mem_cons.mpr ⟨okM_99, List.forall_mem_cons.mpr ⟨okM_100, List.forall_mem_cons.mpr ⟨okM_101, List.forall_mem_cons.mpr ⟨okM_102, List.forall_mem_cons.mpr ⟨okM_103, List.forall_mem_cons.mpr ⟨okM_104, List.forall_mem_cons.mpr ⟨okM_105, List.forall_mem_cons.mpr ⟨okM_106, List.forall_mem_cons.mpr ⟨okM_107, List.forall_mem_cons.mpr ⟨okM_108, List.forall_mem_cons.mpr ⟨okM_109, List.forall_mem_cons.mpr ⟨okM_110, List.forall_mem_cons.mpr ⟨okM_111, List.forall_mem_cons.mpr ⟨okM_112, List.forall_mem_cons.mpr ⟨okM_113, List.forall_mem_cons.mpr ⟨okM_114, List.forall_mem_cons.mpr ⟨okM_115, List.forall_mem_cons.mpr ⟨okM_116, List.forall_mem_cons.mpr ⟨okM_117, List.forall_mem_cons.mpr ⟨okM_118, List.forall_mem_cons.mpr ⟨okM_119, List.forall_mem_cons.mpr ⟨okM_120, List.forall_mem_cons.mpr ⟨okM_121, List.forall_mem_cons.mpr ⟨okM_122, List.forall_mem_cons.mpr ⟨okM_123, List.forall_mem_cons.mpr ⟨okM_124, List.forall_mem_cons.mpr ⟨okM_125, List.forall_mem_cons.mpr ⟨okM_126, List.forall_mem_cons.mpr ⟨okM_127, List.forall_mem_cons.mpr ⟨okM_128, fun _ h => absurd h List.not_mem_nil⟩⟩⟩⟩⟩⟩⟩⟩⟩⟩⟩⟩⟩⟩⟩⟩⟩⟩⟩⟩⟩⟩⟩⟩⟩⟩⟩⟩⟩⟩⟩⟩⟩⟩⟩⟩⟩⟩⟩⟩⟩⟩⟩⟩⟩⟩⟩⟩⟩⟩⟩⟩⟩⟩⟩⟩⟩⟩⟩⟩⟩⟩⟩⟩⟩⟩⟩⟩⟩⟩⟩⟩⟩⟩⟩⟩⟩⟩⟩⟩⟩⟩⟩⟩⟩⟩⟩⟩⟩⟩⟩⟩⟩⟩⟩⟩⟩⟩⟩⟩⟩⟩⟩⟩⟩⟩⟩⟩⟩⟩⟩⟩⟩⟩⟩⟩⟩⟩⟩⟩⟩⟩⟩⟩⟩⟩⟩⟩⟩
  exact fun z hz => h z (List.mem_range.mpr hz)

set_option maxHeartbeats 4000000 in
/-- EVERY METHOD KEEPS WHAT THE SMALL MACHINE SAYS OF IT -/
theorem mMet (l : Launch) (D : va_G) (cA cB : ClassId) (ad roAd : Nat → Nat) (lay : List (Nat × Nat)) (ro : List Nat) (rc : Nat → Nat → Int32) (hlay : layOK lay) : ∀ (d z : Nat) (as : List mV) (M : mM) (k : mQ), wpD mB mNL d z as M k → z < mCallable → mCtr l D cA cB ad roAd lay ro rc d z as M k := by
  intro d
  induction d with
  | zero => intro z as M k h; exact h.elim
  | succ d ih =>
    intro z as M k h hz q hq hlen hgd sz
    obtain ⟨hmt, h41⟩ := mTab_at hq hz
    obtain ⟨hd0, hokb⟩ := okM_at (okM_all z hz) hq
    have hnl : mNL z = q.2.2.1 := by unfold mNL; rw [hq]
    have hfit : q.2.2.2.2.2.1 ≤ q.2.2.1 := by
      have := List.all_eq_true.mp mTab_fit q (List.mem_of_getElem? hq)
      simpa using this
    refine Met.ofW (cc := q.2.1) (maxL := q.2.2.1) (ret := q.2.2.2.1) hmt.2.2.2.1 rfl ?_
    intro p e s m args below meth c s₁ B hml hv
    obtain ⟨rfl, hsz, hP, hD0, hK, hst, hro⟩ := hv
    have hts := atoms_spec (ws := mWs q) B.pre
    have hown : s.vm.findClass (mOwn q.2.2.2.2.1) = some m.cls := by rw [hmt.2.2.1]; exact findClass_of_methodNamed B.named
    have hlocks := B.notSynchronized
    have hr := B.returns
    subst hsz
    have hD := hD0.self (sz := s.heap.size)
    have hE : mEnv p s m (as.map (vlG ad roAd)).toArray c D cA cB roAd lay ro rc (va_A (wsM cA cB ad lay M) s.heap.size) (mWs q) q.2.1 q.2.2.1 q.2.2.2.2.1 := ⟨⟨B.exec, B.bytes, hml, hown, hts⟩, fun w hw => List.mem_cons_of_mem _ hw, hK, hst, hlay, fun q h => Or.inr h⟩
    have hc1 : ∀ v ∈ as.map (vlG ad roAd), v.category = 1 := fun v hv => by
      obtain ⟨w, -, rfl⟩ := List.mem_map.mp hv
      exact vlG_cat _ _ w
    have hle : (lg_sl (as.map (vlG ad roAd))).length ≤ q.2.2.1 := by rw [lg_sl_len _ hc1, List.length_map, hlen]; exact hfit
    have hl := lv_entry (as.map (vlG ad roAd)) hle
    rw [lg_entry_eq]
    have hLH : LH (vlG ad roAd) q.2.2.1 ((lg_sl (as.map (vlG ad roAd)) ++ List.replicate (q.2.2.1 - (lg_sl (as.map (vlG ad roAd))).length) Slot.unset).toArray) (entL (mNL z) as) := by
      refine ⟨by rw [hnl]; simp [entL]; omega, _, hl, fun i v hi => ?_⟩
      unfold entL at hi
      by_cases h9 : i < as.length
      · rw [List.getElem?_append_left h9] at hi
        have := lv_args_mem (as.map (vlG ad roAd)) 0 i (vlG ad roAd (some v)) hc1 (by rw [List.getElem?_map, hi]; rfl)
        rwa [Nat.zero_add] at this
      · rw [List.getElem?_append_right (by omega), List.getElem?_replicate] at hi
        split at hi <;> cases hi
    have hGl : ∀ (i : Nat) (v : Int32 ⊕ (Nat × Nat × Nat)), (entL (mNL z) as)[i]? = some (some v) → Gd lay ro (some v) := by
      intro i v hi
      unfold entL at hi
      by_cases h9 : i < as.length
      · rw [List.getElem?_append_left h9] at hi
        exact hgd _ (List.mem_of_getElem? hi)
      · rw [List.getElem?_append_right (by omega), List.getElem?_replicate] at hi
        split at hi <;> cases hi
    have hgo := mWt (p := p) (l := l) (e := e) (R := (headSpec (mWs q) (mRm (d + 1))).room) (s := s) (m := m) (args := (as.map (vlG ad roAd)).toArray) (below := below) (meth := meth) (c := c) (cells := 0) (slots := 0)
      (Q := MQ below (mQc D cA cB ad roAd lay ro rc (va_A (wsM cA cB ad lay M) s.heap.size) k) (as.map (vlG ad roAd)).toArray s 0 0 (va_A (wsM cA cB ad lay M) s.heap.size)) (ad := ad) (Rt := k) (rt := q.2.2.2.1) (b := mB z) (d := d) hE ?_ (fun z as M k h hz => ih z as M k h hz) ⟨Nat.le_refl _, Nat.le_refl _⟩ ⟨Nat.le_refl _, Nat.le_refl _⟩ (N := 0) (fun t _ => hokb t) (t := 0) (ls := entL (mNL z) as) (st := []) (M := M) (Nat.le_refl 0) (fun X hX => h X (fun t => hX t (Nat.zero_le _)))
    · rw [hd0] at hgo
      exact hgo s.heap [] _ ⟨hP, hD, hro⟩ va_S.rf hLH hGl (fun v hv => by simp at hv)
    · intro v M' pc ls hk hrt hgv H locs la hw hS hL hGl2 hGs
      have fin : ∀ t : State, t.heap = H → mQc D cA cB ad roAd lay ro rc (va_A (wsM cA cB ad lay M) s.heap.size) k (as.map (vlG ad roAd)).toArray s (.returned (rvl (vlG ad roAd) v)) t := fun t ht => ⟨⟨v, M', rfl, hk, hgv, by rw [ht]; exact hw⟩, hS.F ht⟩
      match v, hrt, hgv, fin with
      | none, hrt, hgv, fin => exact W.vret B.exec B.bytes (by rw [hr]; exact hrt.2) (fun t ht _ => fin t ht) hS.2.2 hrt.1
      | some (.inl x), hrt, hgv, fin =>
        rcases hrt.2 with h1 | ⟨h1, h2⟩
        · exact W.iret B.exec B.bytes (by rw [hr]; exact h1) (fun t ht _ => fin t ht) hS.2.2 hrt.1
        · exact W.zret (ty := .boolean) B.exec B.bytes (by rw [hr]; exact h1) (by rcases h2 with rfl | rfl <;> rfl) (fun t ht _ => fin t ht) hS.2.2 hrt.1
      | some (.inr (kd, ln, id)), hrt, hgv, fin =>
        obtain ⟨n, h1⟩ := hrt.2
        exact W.aret B.exec B.bytes (by rw [hr]; exact h1) (Or.inl ⟨n, rfl⟩) (Or.inr ⟨_, rfl⟩) (fun t ht _ => fin t ht) hS.2.2 hrt.1
end
section
abbrev jJ (b : List (List mIns)) (d : Nat) (k : mQ) (t : Nat) (ls st : List mV) (M : mM) : Prop := Wt (wpD mB mNL d) (mBk b) k t ls st M
abbrev wI (r : mV) (f : Int32 → Prop) : Prop := match r with
  | some (.inl x) => f x
  | _ => False
abbrev wV (r : mV) (P : Prop) : Prop := match r with
  | none => P
  | _ => False
abbrev wR (kd : Nat) (r : mV) (f : Nat → Prop) : Prop := match r with
  | some (.inr (kd', 0, id)) => if kd' = kd then f id else False
  | _ => False
theorem cI {d z : Nat} {as : List mV} {M : mM} {f : Int32 → mM → Prop} {g : mM → List mV → Prop} (hfg : ∀ x M', f x M' → g M' [mI x]) (h : wpD mB mNL d z as M (fun r M' => wI r fun x => f x M')) : wpD mB mNL d z as M (fun v M' => rv 1 v (g M')) :=
  wpD_mono mB mNL d _ _ _ _ _ (fun v M' h => by
    unfold wI at h; split at h
    · exact hfg _ _ h
    · exact h.elim) h
theorem cV {d z : Nat} {as : List mV} {M : mM} {f : mM → Prop} {g : mM → List mV → Prop} (hfg : ∀ M', f M' → g M' []) (h : wpD mB mNL d z as M (fun r M' => wV r (f M'))) : wpD mB mNL d z as M (fun v M' => rv 0 v (g M')) :=
  wpD_mono mB mNL d _ _ _ _ _ (fun v M' h => by
    unfold wV at h; split at h
    · exact hfg _ h
    · exact h.elim) h
theorem cR {kd d z : Nat} {as : List mV} {M : mM} {f : Nat → mM → Prop} {g : mM → List mV → Prop} (hfg : ∀ x M', f x M' → g M' [mR kd 0 x]) (h : wpD mB mNL d z as M (fun r M' => wR kd r fun x => f x M')) : wpD mB mNL d z as M (fun v M' => rv 2 v (g M')) :=
  wpD_mono mB mNL d _ _ _ _ _ (fun v M' h9 => by
    clear h
    unfold wR at h9; split at h9
    · split at h9
      · next e => subst e; exact hfg _ _ h9
      · exact h9.elim
    · exact h9.elim) h
abbrev zX0_litresAt : Nat := 0
abbrev zX0_heatAt : Nat := 1
abbrev zX0_tenthsAt : Nat := 2
abbrev zX0_follow : Nat := 3
abbrev zX0_meetHouse : Nat := 4
abbrev zX0_worthOfServed : Nat := 5
abbrev zX1_add : Nat := 6
abbrev zX1_clear : Nat := 7
abbrev zX1_fitsTo : Nat := 8
abbrev zX1_copyOf : Nat := 9
abbrev zX2_kindOf : Nat := 10
abbrev zX2_lossAheadOf : Nat := 11
abbrev zX2_brookAheadOf : Nat := 12
abbrev zX2_isFull : Nat := 13
abbrev zX2_houseSets : Nat := 14
abbrev zX2_brookSets : Nat := 15
abbrev zX2_pipeBits : Nat := 16
abbrev zX2_clear : Nat := 17
abbrev zX2_addHouse : Nat := 18
abbrev zX2_insertHouse : Nat := 19
abbrev zX2_coverPipes : Nat := 20
abbrev zX2_copyOf : Nat := 21
abbrev zX3_search : Nat := 22
abbrev zX3_worthLeft : Nat := 23
abbrev zX3_descend : Nat := 24
abbrev zX4_addSign : Nat := 25
abbrev zX4_clear : Nat := 26
abbrev zX4_brooksIn : Nat := 27
abbrev zX4_drawsIn : Nat := 28
abbrev zX4_readLane : Nat := 29
abbrev zX4_readDay : Nat := 30
abbrev zX4_keepHour : Nat := 31
abbrev zX4_kindBySign : Nat := 32
abbrev zX5_forgetPlans : Nat := 33
abbrev zX5_improve : Nat := 34
abbrev zX5_sumWorthBehind : Nat := 35
abbrev zX5_mayWin : Nat := 36
abbrev zX5_offer : Nat := 37
abbrev zX5_descend : Nat := 38
abbrev zX6_springValue : Nat := 39
abbrev zX6_kindValue : Nat := 40
abbrev zX6_isWanting : Nat := 41
abbrev zX6_heatBehindPipe : Nat := 42
abbrev zX6_isHarmed : Nat := 43
abbrev zX6_isServed : Nat := 44
abbrev zX6_copyOf : Nat := 45
abbrev zX7_spring : Nat := 46
abbrev zX7_kind : Nat := 47
abbrev zX7_say : Nat := 48
abbrev zX7_wipe : Nat := 49
abbrev zX7_fault : Nat := 50
abbrev zX7_lane : Nat := 51
abbrev zX7_house : Nat := 52
abbrev zX7_at : Nat := 53
abbrev zX7_run : Nat := 54
abbrev zX7_judge : Nat := 55
abbrev zX7_best : Nat := 56
abbrev zX7_moss : Nat := 57
abbrev zX7_cools : Nat := 58
abbrev zX7_put : Nat := 59
abbrev zX7_where : Nat := 60
abbrev zX7_order : Nat := 61
abbrev zX7_felt : Nat := 62
abbrev zX7_forget : Nat := 63
abbrev zX7_fits : Nat := 64
abbrev zX7_door : Nat := 65
abbrev zX7_winter : Nat := 66
abbrev zX7_image : Nat := 67
abbrev zX7_restore : Nat := 68
abbrev zX7_told : Nat := 69
abbrev zX7_isNoHour : Nat := 70
abbrev zX7_isNoKind : Nat := 71
abbrev zX7_isNoHouse : Nat := 72
abbrev zX7_areNoBrooks : Nat := 73
abbrev zX7_areNoDraws : Nat := 74
abbrev zX7_imageOf : Nat := 75
abbrev zX7_planAsItIs : Nat := 76
abbrev zX7_searchMoss : Nat := 77
abbrev zX7_searchPlace : Nat := 78
abbrev zX7_gatherFitting : Nat := 79
abbrev zX7_mostAlike : Nat := 80
abbrev zX7_cell : Nat := 81
abbrev zX7_setCell : Nat := 82
abbrev zX7_exchange : Nat := 83
abbrev zX7_copyRow : Nat := 84
abbrev zX7_hasBit : Nat := 85
abbrev zX7_lowestBit : Nat := 86
abbrev zX8_layKind : Nat := 87
abbrev zX8_in : Nat := 88
abbrev zX8_has : Nat := 89
abbrev zX8_bits : Nat := 90
abbrev zX8_spring : Nat := 91
abbrev zX8_mostOf : Nat := 92
abbrev zX8_kind : Nat := 93
abbrev zX8_say : Nat := 94
abbrev zX8_wipe : Nat := 95
abbrev zX8_kindOf : Nat := 96
abbrev zX8_laneFault : Nat := 97
abbrev zX8_dayFault : Nat := 98
abbrev zX8_fault : Nat := 99
abbrev zX8_lane : Nat := 100
abbrev zX8_house : Nat := 101
abbrev zX8_asLane : Nat := 102
abbrev zX8_go : Nat := 103
abbrev zX8_areBits : Nat := 104
abbrev zX8_at : Nat := 105
abbrev zX8_run : Nat := 106
abbrev zX8_judge : Nat := 107
abbrev zX8_worthOf : Nat := 108
abbrev zX8_layBest : Nat := 109
abbrev zX8_best : Nat := 110
abbrev zX8_moss : Nat := 111
abbrev zX8_cools : Nat := 112
abbrev zX8_putAt : Nat := 113
abbrev zX8_put : Nat := 114
abbrev zX8_where : Nat := 115
abbrev zX8_nextOrder : Nat := 116
abbrev zX8_change : Nat := 117
abbrev zX8_order : Nat := 118
abbrev zX8_felt : Nat := 119
abbrev zX8_forget : Nat := 120
abbrev zX8_isFelt : Nat := 121
abbrev zX8_fits : Nat := 122
abbrev zX8_door : Nat := 123
abbrev zX8_winter : Nat := 124
abbrev zX8_image : Nat := 125
abbrev zX8_restore : Nat := 126
abbrev zX8_told : Nat := 127
abbrev zJ6_bitCount_0f7a4 : Nat := 128
abbrev zL_law : Nat := 129
end
section
theorem v_X0_litresAt_0 {d : Nat} {k : mQ} {M : mM} (v1 : Int32)
  (h : wpD mB mNL d zX7_cell [mR 50 9 24, mI v1] M (fun r_2 M_1 => wI r_2 fun x_4 =>
  k (mI x_4) M_1)) :
  wpD mB mNL (d + 1) zX0_litresAt [mR 0 0 23, mI v1] M k := (show jJ kB_X0_litresAt d k 0 [mR 0 0 23, mI v1] [] M from Wt.blk (wpD_mono mB mNL d) (cI (fun x_4 M_1 h_3 => h_3) h))
theorem v_X0_heatAt_0 {d : Nat} {k : mQ} {M : mM} (v1 : Int32)
  (h : wpD mB mNL d zX7_cell [mR 50 9 25, mI v1] M (fun r_2 M_1 => wI r_2 fun x_4 =>
  k (mI x_4) M_1)) :
  wpD mB mNL (d + 1) zX0_heatAt [mR 0 0 23, mI v1] M k := (show jJ kB_X0_heatAt d k 0 [mR 0 0 23, mI v1] [] M from Wt.blk (wpD_mono mB mNL d) (cI (fun x_4 M_1 h_3 => h_3) h))
theorem v_X0_tenthsAt_0 {d : Nat} {k : mQ} {M : mM} (v1 : Int32)
  (h : wpD mB mNL d zX0_litresAt [mR 0 0 23, mI v1] M (fun r_2 M_1 => wI r_2 fun x_4 =>
  ((x_4 ≤ 0 → k (mI 0) M_1) ∧
     (¬ x_4 ≤ 0 → wpD mB mNL d zX0_heatAt [mR 0 0 23, mI v1] M_1 (fun r_6 M_5 => wI r_6 fun x_8 =>
      (¬ x_4 = (0 : Int32) ∧ k (mI (x_8 / x_4)) M_5)))))) :
  wpD mB mNL (d + 1) zX0_tenthsAt [mR 0 0 23, mI v1] M k := (show jJ kB_X0_tenthsAt d k 0 [mR 0 0 23, mI v1, none] [] M from Wt.blk (wpD_mono mB mNL d) (cI (fun x_4 M_1 h_3 => And.intro (fun c_9 => Wt.blk (wpD_mono mB mNL d) (Wt.blk (wpD_mono mB mNL d) ((h_3.1 c_9)))) (fun c_9 => cI (fun x_8 M_5 h_7 => And.intro h_7.1 (Wt.blk (wpD_mono mB mNL d) (h_7.2))) (h_3.2 c_9))) h))
theorem v_X0_follow_0 {d : Nat} {k : mQ} {M : mM} (v1 : Int32) (v2 : Int32) (v3 : Int32) (v4 : Int32)
  (h : wpD mB mNL d zX6_springValue [mR 6 0 35, mI 0] M (fun r_2 M_1 => wI r_2 fun x_4 =>
  jJ kB_X0_follow d k 1 [mR 0 0 23, mI v1, mI v2, mI v3, mI v4, mR 2 0 38, mI x_4, mI (x_4 * v1), mI 0, none] [] (up (up (up (up M_1 23 0 0) 23 1 0) 23 3 0) 23 4 0))) :
  wpD mB mNL (d + 1) zX0_follow [mR 0 0 23, mI v1, mI v2, mI v3, mI v4] M k := (show jJ kB_X0_follow d k 0 [mR 0 0 23, mI v1, mI v2, mI v3, mI v4, none, none, none, none, none] [] M from Wt.blk (wpD_mono mB mNL d) (cI (fun x_4 M_1 h_3 => h_3) h))
theorem v_X0_follow_1 {d : Nat} {k : mQ} {M : mM} (v1 : Int32) (v2 : Int32) (v3 : Int32) (v4 : Int32) (v6 : Int32) (v7 : Int32) (v8 : Int32) (u9 : mV)
  (h : (((M 38 0) ≤ v8 → wpD mB mNL d zX7_setCell [mR 50 9 24, mI (M 38 0), mI v6] M (fun r_6 M_5 => wV r_6 (
    wpD mB mNL d zX7_setCell [mR 50 9 25, mI (M_5 38 0), mI v7] M_5 (fun r_9 M_8 => wV r_9 (
      k none (up M_8 23 2 ((M_8 23 1) ||| (v4 &&& ((M_8 23 0) ^^^ (-1)))))))))) ∧
   (¬ (M 38 0) ≤ v8 → wpD mB mNL d zX2_lossAheadOf [mR 2 0 38, mI v8] M (fun r_12 M_11 => wI r_12 fun x_14 =>
    wpD mB mNL d zX6_heatBehindPipe [mR 6 0 35, mI x_14, mI v6, mI v7] M_11 (fun r_16 M_15 => wI r_16 fun x_18 =>
      wpD mB mNL d zX2_brookAheadOf [mR 2 0 38, mI v8] (up M_15 23 3 ((M_15 23 3) + (v7 - x_18))) (fun r_20 M_19 => wI r_20 fun x_22 =>
        wpD mB mNL d zX7_hasBit [mI v3, mI x_22] M_19 (fun r_24 M_23 => wI r_24 fun x_26 =>
          ((x_26 = 0 → jJ kB_X0_follow d k 2 [mR 0 0 23, mI v1, mI v2, mI v3, mI v4, mR 2 0 38, mI v6, mI x_18, mI v8, mI x_18] [] M_23) ∧
             (¬ x_26 = 0 → wpD mB mNL d zX6_springValue [mR 6 0 35, mI 3] M_23 (fun r_28 M_27 => wI r_28 fun x_30 =>
              wpD mB mNL d zX6_springValue [mR 6 0 35, mI 3] M_27 (fun r_32 M_31 => wI r_32 fun x_34 =>
                wpD mB mNL d zX6_springValue [mR 6 0 35, mI 4] M_31 (fun r_36 M_35 => wI r_36 fun x_38 =>
                  jJ kB_X0_follow d k 2 [mR 0 0 23, mI v1, mI v2, mI v3, mI v4, mR 2 0 38, mI (v6 + x_30), mI (x_18 + (x_34 * x_38)), mI v8, mI x_18] [] M_35)))))))))))) :
  jJ kB_X0_follow d k 1 [mR 0 0 23, mI v1, mI v2, mI v3, mI v4, mR 2 0 38, mI v6, mI v7, mI v8, u9] [] M := Wt.blk (wpD_mono mB mNL d) (And.intro (fun c_40 => Wt.blk (wpD_mono mB mNL d) (cV (fun M_5 h_7 => cV (fun M_8 h_10 => h_10) h_7) (h.1 c_40))) (fun c_40 => cI (fun x_14 M_11 h_13 => cI (fun x_18 M_15 h_17 => cI (fun x_22 M_19 h_21 => cI (fun x_26 M_23 h_25 => And.intro (fun c_39 => (h_25.1 c_39)) (fun c_39 => cI (fun x_30 M_27 h_29 => cI (fun x_34 M_31 h_33 => cI (fun x_38 M_35 h_37 => h_37) h_33) h_29) (h_25.2 c_39))) h_21) h_17) h_13) (h.2 c_40)))
theorem v_X0_follow_2 {d : Nat} {k : mQ} {M : mM} (v1 : Int32) (v2 : Int32) (v3 : Int32) (v4 : Int32) (v6 : Int32) (v7 : Int32) (v8 : Int32) (v9 : Int32)
  (h : wpD mB mNL d zX7_setCell [mR 50 9 24, mI v8, mI v6] M (fun r_42 M_41 => wV r_42 (
  wpD mB mNL d zX7_setCell [mR 50 9 25, mI v8, mI v7] M_41 (fun r_45 M_44 => wV r_45 (
    wpD mB mNL d zX7_hasBit [mI v4, mI v8] M_44 (fun r_48 M_47 => wI r_48 fun x_50 =>
      wpD mB mNL d zX0_meetHouse [mR 0 0 23, mI v8, mI v2, mI v6, mI v7, mI x_50] M_47 (fun r_52 M_51 => wI r_52 fun x_54 =>
        jJ kB_X0_follow d k 1 [mR 0 0 23, mI v1, mI v2, mI v3, mI v4, mR 2 0 38, mI v6, mI (v7 - x_54), mI (v8 + 1), mI v9] [] M_51))))))) :
  jJ kB_X0_follow d k 2 [mR 0 0 23, mI v1, mI v2, mI v3, mI v4, mR 2 0 38, mI v6, mI v7, mI v8, mI v9] [] M := Wt.blk (wpD_mono mB mNL d) (cV (fun M_41 h_43 => cV (fun M_44 h_46 => cI (fun x_50 M_47 h_49 => cI (fun x_54 M_51 h_53 => h_53) h_49) h_46) h_43) h)
theorem v_X0_meetHouse_0 {d : Nat} {k : mQ} {M : mM} (v1 : Int32) (v2 : Int32) (v3 : Int32) (v4 : Int32) (v5 : Int32)
  (h : wpD mB mNL d zX2_kindOf [mR 2 0 38, mI v1] M (fun r_2 M_1 => wI r_2 fun x_4 =>
  wpD mB mNL d zX6_isHarmed [mR 6 0 35, mI x_4, mI v3, mI v4] M_1 (fun r_6 M_5 => wI r_6 fun x_8 =>
    ((x_8 = 0 → ((v5 = 0 → k (mI 0) M_5) ∧
         (¬ v5 = 0 → wpD mB mNL d zX6_isServed [mR 6 0 35, mI x_4, mI v2, mI v3, mI v4] M_5 (fun r_10 M_9 => wI r_10 fun x_12 =>
          ((¬ x_12 = 0 → wpD mB mNL d zX6_kindValue [mR 6 0 35, mI 2, mI x_4] (up M_9 23 0 ((M_9 23 0) ||| (1 <<< (v1 &&& 31)))) (fun r_14 M_13 => wI r_14 fun x_16 =>
              wpD mB mNL d zX6_kindValue [mR 6 0 35, mI 2, mI x_4] (up M_13 23 4 ((M_9 23 4) + x_16)) (fun r_18 M_17 => wI r_18 fun x_20 =>
                k (mI x_20) M_17))) ∧
             (x_12 = 0 → k (mI 0) M_9)))))) ∧
       (¬ x_8 = 0 → k (mI 0) (up M_5 23 1 ((M_5 23 1) ||| (1 <<< (v1 &&& 31))))))))) :
  wpD mB mNL (d + 1) zX0_meetHouse [mR 0 0 23, mI v1, mI v2, mI v3, mI v4, mI v5] M k := (show jJ kB_X0_meetHouse d k 0 [mR 0 0 23, mI v1, mI v2, mI v3, mI v4, mI v5, none] [] M from Wt.blk (wpD_mono mB mNL d) (cI (fun x_4 M_1 h_3 => cI (fun x_8 M_5 h_7 => And.intro (fun c_23 => Wt.blk (wpD_mono mB mNL d) (And.intro (fun c_22 => Wt.blk (wpD_mono mB mNL d) (((h_7.1 c_23).1 c_22))) (fun c_22 => cI (fun x_12 M_9 h_11 => And.intro (fun c_21 => Wt.blk (wpD_mono mB mNL d) (cI (fun x_16 M_13 h_15 => cI (fun x_20 M_17 h_19 => h_19) h_15) (h_11.1 c_21))) (fun c_21 => Wt.blk (wpD_mono mB mNL d) ((h_11.2 c_21)))) ((h_7.1 c_23).2 c_22)))) (fun c_23 => (h_7.2 c_23))) h_3) h))
theorem v_X0_worthOfServed_0 {d : Nat} {k : mQ} {M : mM} 
  (h : jJ kB_X0_worthOfServed d k 1 [mR 0 0 23, mI 0, mI 0] [] M) :
  wpD mB mNL (d + 1) zX0_worthOfServed [mR 0 0 23] M k := (show jJ kB_X0_worthOfServed d k 0 [mR 0 0 23, none, none] [] M from Wt.blk (wpD_mono mB mNL d) (h))
theorem v_X0_worthOfServed_1 {d : Nat} {k : mQ} {M : mM} (v1 : Int32) (v2 : Int32)
  (h : (((M 38 0) ≤ v2 → k (mI v1) M) ∧
   (¬ (M 38 0) ≤ v2 → wpD mB mNL d zX7_hasBit [mI (M 23 0), mI v2] M (fun r_2 M_1 => wI r_2 fun x_4 =>
    ((x_4 = 0 → jJ kB_X0_worthOfServed d k 1 [mR 0 0 23, mI v1, mI (v2 + 1)] [] M_1) ∧
       (¬ x_4 = 0 → wpD mB mNL d zX2_kindOf [mR 2 0 38, mI v2] M_1 (fun r_6 M_5 => wI r_6 fun x_8 =>
        wpD mB mNL d zX6_kindValue [mR 6 0 35, mI 3, mI x_8] M_5 (fun r_10 M_9 => wI r_10 fun x_12 =>
          jJ kB_X0_worthOfServed d k 1 [mR 0 0 23, mI (v1 + x_12), mI (v2 + 1)] [] M_9)))))))) :
  jJ kB_X0_worthOfServed d k 1 [mR 0 0 23, mI v1, mI v2] [] M := Wt.blk (wpD_mono mB mNL d) (And.intro (fun c_14 => Wt.blk (wpD_mono mB mNL d) ((h.1 c_14))) (fun c_14 => cI (fun x_4 M_1 h_3 => And.intro (fun c_13 => Wt.blk (wpD_mono mB mNL d) ((h_3.1 c_13))) (fun c_13 => cI (fun x_8 M_5 h_7 => cI (fun x_12 M_9 h_11 => Wt.blk (wpD_mono mB mNL d) (h_11)) h_7) (h_3.2 c_13))) (h.2 c_14)))
theorem v_X1_add_0 {d : Nat} {k : mQ} {M : mM} (o : Nat) (v1 : Int32) (v2 : Int32) (v3 : Int32)
  (h : (((M o 0) < 6 → wpD mB mNL d zX7_setCell [mR 50 6 (o + 1), mI (M o 0), mI v1] M (fun r_2 M_1 => wV r_2 (
    wpD mB mNL d zX7_setCell [mR 50 6 (o + 2), mI (M_1 o 0), mI v2] M_1 (fun r_5 M_4 => wV r_5 (
      wpD mB mNL d zX7_setCell [mR 50 6 (o + 3), mI (M_4 o 0), mI v3] M_4 (fun r_8 M_7 => wV r_8 (
        k (mI 1) (up M_7 o 0 ((M_7 o 0) + 1))))))))) ∧
   (¬ (M o 0) < 6 → k (mI 0) M))) :
  wpD mB mNL (d + 1) zX1_add [mR 1 0 o, mI v1, mI v2, mI v3] M k := (show jJ kB_X1_add d k 0 [mR 1 0 o, mI v1, mI v2, mI v3] [] M from Wt.blk (wpD_mono mB mNL d) (And.intro (fun c_10 => Wt.blk (wpD_mono mB mNL d) (cV (fun M_1 h_3 => cV (fun M_4 h_6 => cV (fun M_7 h_9 => And.intro (Or.inr rfl) h_9) h_6) h_3) (h.1 c_10))) (fun c_10 => And.intro (Or.inl rfl) (h.2 c_10))))
theorem v_X1_clear_0 {d : Nat} {k : mQ} {M : mM} (o : Nat)
  (h : k (mI (M o 0)) (up M o 0 0)) :
  wpD mB mNL (d + 1) zX1_clear [mR 1 0 o] M k := (show jJ kB_X1_clear d k 0 [mR 1 0 o, none] [] M from Wt.blk (wpD_mono mB mNL d) (h))
theorem v_X1_fitsTo_0 {d : Nat} {k : mQ} {M : mM} (o : Nat)
  (h : jJ kB_X1_fitsTo d k 1 [mR 1 0 o, mR 0 0 23, mI 0, none] [] M) :
  wpD mB mNL (d + 1) zX1_fitsTo [mR 1 0 o, mR 0 0 23] M k := (show jJ kB_X1_fitsTo d k 0 [mR 1 0 o, mR 0 0 23, none, none] [] M from Wt.blk (wpD_mono mB mNL d) (h))
theorem v_X1_fitsTo_1 {d : Nat} {k : mQ} {M : mM} (o : Nat) (v2 : Int32) (u3 : mV)
  (h : (((M o 0) ≤ v2 → k (mI 1) M) ∧
   (¬ (M o 0) ≤ v2 → wpD mB mNL d zX7_cell [mR 50 6 (o + 1), mI v2] M (fun r_2 M_1 => wI r_2 fun x_4 =>
    wpD mB mNL d zX0_tenthsAt [mR 0 0 23, mI x_4] M_1 (fun r_6 M_5 => wI r_6 fun x_8 =>
      wpD mB mNL d zX7_cell [mR 50 6 (o + 2), mI v2] M_5 (fun r_10 M_9 => wI r_10 fun x_12 =>
        ((x_8 < x_12 → k (mI 0) M_9) ∧
           (¬ x_8 < x_12 → wpD mB mNL d zX7_cell [mR 50 6 (o + 3), mI v2] M_9 (fun r_14 M_13 => wI r_14 fun x_16 =>
            ((x_8 ≤ x_16 → jJ kB_X1_fitsTo d k 1 [mR 1 0 o, mR 0 0 23, mI (v2 + 1), mI x_8] [] M_13) ∧
               (¬ x_8 ≤ x_16 → k (mI 0) M_13))))))))))) :
  jJ kB_X1_fitsTo d k 1 [mR 1 0 o, mR 0 0 23, mI v2, u3] [] M := Wt.blk (wpD_mono mB mNL d) (And.intro (fun c_19 => Wt.blk (wpD_mono mB mNL d) (And.intro (Or.inr rfl) (h.1 c_19))) (fun c_19 => cI (fun x_4 M_1 h_3 => cI (fun x_8 M_5 h_7 => cI (fun x_12 M_9 h_11 => And.intro (fun c_18 => Wt.blk (wpD_mono mB mNL d) (And.intro (Or.inl rfl) (h_11.1 c_18))) (fun c_18 => cI (fun x_16 M_13 h_15 => And.intro (fun c_17 => Wt.blk (wpD_mono mB mNL d) ((h_15.1 c_17))) (fun c_17 => Wt.blk (wpD_mono mB mNL d) (And.intro (Or.inl rfl) (h_15.2 c_17)))) (h_11.2 c_18))) h_7) h_3) (h.2 c_19)))
theorem v_X1_copyOf_0 {d : Nat} {k : mQ} {M : mM} (o : Nat) (o1 : Nat)
  (h : wpD mB mNL d zX7_copyRow [mR 50 6 (o1 + 1), mR 50 6 (o + 1)] (up M o 0 (M o1 0)) (fun r_2 M_1 => wV r_2 (
  wpD mB mNL d zX7_copyRow [mR 50 6 (o1 + 2), mR 50 6 (o + 2)] M_1 (fun r_5 M_4 => wV r_5 (
    wpD mB mNL d zX7_copyRow [mR 50 6 (o1 + 3), mR 50 6 (o + 3)] M_4 (fun r_8 M_7 => wV r_8 (
      k none M_7))))))) :
  wpD mB mNL (d + 1) zX1_copyOf [mR 1 0 o, mR 1 0 o1] M k := (show jJ kB_X1_copyOf d k 0 [mR 1 0 o, mR 1 0 o1] [] M from Wt.blk (wpD_mono mB mNL d) (cV (fun M_1 h_3 => cV (fun M_4 h_6 => cV (fun M_7 h_9 => h_9) h_6) h_3) h))
theorem v_X2_kindOf_0 {d : Nat} {k : mQ} {M : mM} (o : Nat) (v1 : Int32)
  (h : wpD mB mNL d zX7_cell [mR 50 8 (o + 1), mI v1] M (fun r_2 M_1 => wI r_2 fun x_4 =>
  k (mI x_4) M_1)) :
  wpD mB mNL (d + 1) zX2_kindOf [mR 2 0 o, mI v1] M k := (show jJ kB_X2_kindOf d k 0 [mR 2 0 o, mI v1] [] M from Wt.blk (wpD_mono mB mNL d) (cI (fun x_4 M_1 h_3 => h_3) h))
theorem v_X2_lossAheadOf_0 {d : Nat} {k : mQ} {M : mM} (o : Nat) (v1 : Int32)
  (h : wpD mB mNL d zX7_cell [mR 50 8 (o + 2), mI v1] M (fun r_2 M_1 => wI r_2 fun x_4 =>
  k (mI x_4) M_1)) :
  wpD mB mNL (d + 1) zX2_lossAheadOf [mR 2 0 o, mI v1] M k := (show jJ kB_X2_lossAheadOf d k 0 [mR 2 0 o, mI v1] [] M from Wt.blk (wpD_mono mB mNL d) (cI (fun x_4 M_1 h_3 => h_3) h))
theorem v_X2_brookAheadOf_0 {d : Nat} {k : mQ} {M : mM} (o : Nat) (v1 : Int32)
  (h : wpD mB mNL d zX7_cell [mR 50 8 (o + 3), mI v1] M (fun r_2 M_1 => wI r_2 fun x_4 =>
  k (mI x_4) M_1)) :
  wpD mB mNL (d + 1) zX2_brookAheadOf [mR 2 0 o, mI v1] M k := (show jJ kB_X2_brookAheadOf d k 0 [mR 2 0 o, mI v1] [] M from Wt.blk (wpD_mono mB mNL d) (cI (fun x_4 M_1 h_3 => h_3) h))
theorem v_X2_isFull_0 {d : Nat} {k : mQ} {M : mM} (o : Nat)
  (h : (((M o 0) < 8 → k (mI 0) M) ∧
   (¬ (M o 0) < 8 → k (mI 1) M))) :
  wpD mB mNL (d + 1) zX2_isFull [mR 2 0 o] M k := (show jJ kB_X2_isFull d k 0 [mR 2 0 o] [] M from Wt.blk (wpD_mono mB mNL d) (And.intro (fun c_1 => Wt.blk (wpD_mono mB mNL d) (Wt.blk (wpD_mono mB mNL d) (And.intro (Or.inl rfl) (h.1 c_1)))) (fun c_1 => Wt.blk (wpD_mono mB mNL d) (And.intro (Or.inr rfl) (h.2 c_1)))))
theorem v_X2_houseSets_0 {d : Nat} {k : mQ} {M : mM} (o : Nat)
  (h : k (mI (1 <<< ((M o 0) &&& 31))) M) :
  wpD mB mNL (d + 1) zX2_houseSets [mR 2 0 o] M k := (show jJ kB_X2_houseSets d k 0 [mR 2 0 o] [] M from Wt.blk (wpD_mono mB mNL d) (h))
theorem v_X2_brookSets_0 {d : Nat} {k : mQ} {M : mM} (o : Nat)
  (h : k (mI (1 <<< ((M o 1) &&& 31))) M) :
  wpD mB mNL (d + 1) zX2_brookSets [mR 2 0 o] M k := (show jJ kB_X2_brookSets d k 0 [mR 2 0 o] [] M from Wt.blk (wpD_mono mB mNL d) (h))
theorem v_X2_pipeBits_0 {d : Nat} {k : mQ} {M : mM} (o : Nat)
  (h : jJ kB_X2_pipeBits d k 1 [mR 2 0 o, mI 0, mI 0] [] M) :
  wpD mB mNL (d + 1) zX2_pipeBits [mR 2 0 o] M k := (show jJ kB_X2_pipeBits d k 0 [mR 2 0 o, none, none] [] M from Wt.blk (wpD_mono mB mNL d) (h))
theorem v_X2_pipeBits_1 {d : Nat} {k : mQ} {M : mM} (o : Nat) (v1 : Int32) (v2 : Int32)
  (h : (((M o 0) ≤ v2 → k (mI v1) M) ∧
   (¬ (M o 0) ≤ v2 → wpD mB mNL d zX2_lossAheadOf [mR 2 0 o, mI v2] M (fun r_2 M_1 => wI r_2 fun x_4 =>
    ((x_4 ≤ 0 → jJ kB_X2_pipeBits d k 1 [mR 2 0 o, mI v1, mI (v2 + 1)] [] M_1) ∧
       (¬ x_4 ≤ 0 → jJ kB_X2_pipeBits d k 1 [mR 2 0 o, mI (v1 ||| (1 <<< (v2 &&& 31))), mI (v2 + 1)] [] M_1)))))) :
  jJ kB_X2_pipeBits d k 1 [mR 2 0 o, mI v1, mI v2] [] M := Wt.blk (wpD_mono mB mNL d) (And.intro (fun c_6 => Wt.blk (wpD_mono mB mNL d) ((h.1 c_6))) (fun c_6 => cI (fun x_4 M_1 h_3 => And.intro (fun c_5 => Wt.blk (wpD_mono mB mNL d) ((h_3.1 c_5))) (fun c_5 => Wt.blk (wpD_mono mB mNL d) ((h_3.2 c_5)))) (h.2 c_6)))
theorem v_X2_clear_0 {d : Nat} {k : mQ} {M : mM} (o : Nat)
  (h : k none (up (up M o 0 0) o 1 0)) :
  wpD mB mNL (d + 1) zX2_clear [mR 2 0 o] M k := (show jJ kB_X2_clear d k 0 [mR 2 0 o] [] M from Wt.blk (wpD_mono mB mNL d) (h))
theorem v_X2_addHouse_0 {d : Nat} {k : mQ} {M : mM} (o : Nat) (v1 : Int32) (v2 : Int32) (v3 : Int32)
  (h : wpD mB mNL d zX2_isFull [mR 2 0 o] M (fun r_2 M_1 => wI r_2 fun x_4 =>
  ((x_4 = 0 → wpD mB mNL d zX7_setCell [mR 50 8 (o + 1), mI (M_1 o 0), mI v1] M_1 (fun r_6 M_5 => wV r_6 (
      wpD mB mNL d zX7_setCell [mR 50 8 (o + 2), mI (M_5 o 0), mI v2] M_5 (fun r_9 M_8 => wV r_9 (
        ((v3 = 0 → jJ kB_X2_addHouse d k 3 [mR 2 0 o, mI v1, mI v2, mI v3] [mI (-6), mI (M_8 o 0), mR 50 8 (o + 3)] M_8) ∧
           (¬ v3 = 0 → jJ kB_X2_addHouse d k 3 [mR 2 0 o, mI v1, mI v2, mI v3] [mI (M_8 o 1), mI (M_8 o 0), mR 50 8 (o + 3)] M_8))))))) ∧
     (¬ x_4 = 0 → k none M_1)))) :
  wpD mB mNL (d + 1) zX2_addHouse [mR 2 0 o, mI v1, mI v2, mI v3] M k := (show jJ kB_X2_addHouse d k 0 [mR 2 0 o, mI v1, mI v2, mI v3] [] M from Wt.blk (wpD_mono mB mNL d) (cI (fun x_4 M_1 h_3 => And.intro (fun c_12 => Wt.blk (wpD_mono mB mNL d) (cV (fun M_5 h_7 => cV (fun M_8 h_10 => And.intro (fun c_11 => Wt.blk (wpD_mono mB mNL d) ((h_10.1 c_11))) (fun c_11 => (h_10.2 c_11))) h_7) (h_3.1 c_12))) (fun c_12 => (h_3.2 c_12))) h))
theorem v_X2_addHouse_3 {d : Nat} {k : mQ} {M : mM} (o : Nat) (v1 : Int32) (v2 : Int32) (v3 : Int32) (s1 : Int32) (s2 : Int32)
  (h : wpD mB mNL d zX7_setCell [mR 50 8 (o + 3), mI s1, mI s2] M (fun r_14 M_13 => wV r_14 (
  ((v3 = 0 → k none (up M_13 o 0 ((M_13 o 0) + 1))) ∧
     (¬ v3 = 0 → k none (up (up M_13 o 0 ((M_13 o 0) + 1)) o 1 (((up M_13 o 0 ((M_13 o 0) + 1)) o 1) + 1))))))) :
  jJ kB_X2_addHouse d k 3 [mR 2 0 o, mI v1, mI v2, mI v3] [mI s2, mI s1, mR 50 8 (o + 3)] M := Wt.blk (wpD_mono mB mNL d) (cV (fun M_13 h_15 => And.intro (fun c_16 => Wt.blk (wpD_mono mB mNL d) ((h_15.1 c_16))) (fun c_16 => Wt.blk (wpD_mono mB mNL d) ((h_15.2 c_16)))) h)
theorem v_X2_insertHouse_0 {d : Nat} {k : mQ} {M : mM} (o : Nat) (v1 : Int32) (v2 : Int32)
  (h : wpD mB mNL d zX2_isFull [mR 2 0 o] M (fun r_2 M_1 => wI r_2 fun x_4 =>
  ((x_4 = 0 → jJ kB_X2_insertHouse d k 2 [mR 2 0 o, mI v1, mI v2, mI (M_1 o 0)] [] M_1) ∧
     (¬ x_4 = 0 → k none M_1)))) :
  wpD mB mNL (d + 1) zX2_insertHouse [mR 2 0 o, mI v1, mI v2] M k := (show jJ kB_X2_insertHouse d k 0 [mR 2 0 o, mI v1, mI v2, none] [] M from Wt.blk (wpD_mono mB mNL d) (cI (fun x_4 M_1 h_3 => And.intro (fun c_5 => Wt.blk (wpD_mono mB mNL d) ((h_3.1 c_5))) (fun c_5 => (h_3.2 c_5))) h))
theorem v_X2_insertHouse_2 {d : Nat} {k : mQ} {M : mM} (o : Nat) (v1 : Int32) (v2 : Int32) (v3 : Int32)
  (h : ((v3 ≤ v2 → wpD mB mNL d zX7_setCell [mR 50 8 (o + 1), mI v2, mI v1] M (fun r_7 M_6 => wV r_7 (
    wpD mB mNL d zX7_setCell [mR 50 8 (o + 2), mI v2, mI 0] M_6 (fun r_10 M_9 => wV r_10 (
      wpD mB mNL d zX7_setCell [mR 50 8 (o + 3), mI v2, mI (-6)] M_9 (fun r_13 M_12 => wV r_13 (
        k none (up M_12 o 0 ((M_12 o 0) + 1))))))))) ∧
   (¬ v3 ≤ v2 → wpD mB mNL d zX7_cell [mR 50 8 (o + 1), mI (v3 - 1)] M (fun r_16 M_15 => wI r_16 fun x_18 =>
    wpD mB mNL d zX7_setCell [mR 50 8 (o + 1), mI v3, mI x_18] M_15 (fun r_20 M_19 => wV r_20 (
      wpD mB mNL d zX7_cell [mR 50 8 (o + 2), mI (v3 - 1)] M_19 (fun r_23 M_22 => wI r_23 fun x_25 =>
        wpD mB mNL d zX7_setCell [mR 50 8 (o + 2), mI v3, mI x_25] M_22 (fun r_27 M_26 => wV r_27 (
          wpD mB mNL d zX7_cell [mR 50 8 (o + 3), mI (v3 - 1)] M_26 (fun r_30 M_29 => wI r_30 fun x_32 =>
            wpD mB mNL d zX7_setCell [mR 50 8 (o + 3), mI v3, mI x_32] M_29 (fun r_34 M_33 => wV r_34 (
              jJ kB_X2_insertHouse d k 2 [mR 2 0 o, mI v1, mI v2, mI (v3 + (-1))] [] M_33)))))))))))) :
  jJ kB_X2_insertHouse d k 2 [mR 2 0 o, mI v1, mI v2, mI v3] [] M := Wt.blk (wpD_mono mB mNL d) (And.intro (fun c_36 => Wt.blk (wpD_mono mB mNL d) (cV (fun M_6 h_8 => cV (fun M_9 h_11 => cV (fun M_12 h_14 => h_14) h_11) h_8) (h.1 c_36))) (fun c_36 => cI (fun x_18 M_15 h_17 => cV (fun M_19 h_21 => cI (fun x_25 M_22 h_24 => cV (fun M_26 h_28 => cI (fun x_32 M_29 h_31 => cV (fun M_33 h_35 => h_35) h_31) h_28) h_24) h_21) h_17) (h.2 c_36)))
theorem v_X2_coverPipes_0 {d : Nat} {k : mQ} {M : mM} (o : Nat) (v1 : Int32)
  (h : jJ kB_X2_coverPipes d k 1 [mR 2 0 o, mI v1, mI 0] [] M) :
  wpD mB mNL (d + 1) zX2_coverPipes [mR 2 0 o, mI v1] M k := (show jJ kB_X2_coverPipes d k 0 [mR 2 0 o, mI v1, none] [] M from Wt.blk (wpD_mono mB mNL d) (h))
theorem v_X2_coverPipes_1 {d : Nat} {k : mQ} {M : mM} (o : Nat) (v1 : Int32) (v2 : Int32)
  (h : (((M o 0) ≤ v2 → k none M) ∧
   (¬ (M o 0) ≤ v2 → wpD mB mNL d zX7_hasBit [mI v1, mI v2] M (fun r_2 M_1 => wI r_2 fun x_4 =>
    ((x_4 = 0 → jJ kB_X2_coverPipes d k 1 [mR 2 0 o, mI v1, mI (v2 + 1)] [] M_1) ∧
       (¬ x_4 = 0 → wpD mB mNL d zX7_setCell [mR 50 8 (o + 2), mI v2, mI 0] M_1 (fun r_6 M_5 => wV r_6 (
        jJ kB_X2_coverPipes d k 1 [mR 2 0 o, mI v1, mI (v2 + 1)] [] M_5)))))))) :
  jJ kB_X2_coverPipes d k 1 [mR 2 0 o, mI v1, mI v2] [] M := Wt.blk (wpD_mono mB mNL d) (And.intro (fun c_9 => Wt.blk (wpD_mono mB mNL d) ((h.1 c_9))) (fun c_9 => cI (fun x_4 M_1 h_3 => And.intro (fun c_8 => Wt.blk (wpD_mono mB mNL d) ((h_3.1 c_8))) (fun c_8 => cV (fun M_5 h_7 => Wt.blk (wpD_mono mB mNL d) (h_7)) (h_3.2 c_8))) (h.2 c_9)))
theorem v_X2_copyOf_0 {d : Nat} {k : mQ} {M : mM} (o : Nat) (o1 : Nat)
  (h : wpD mB mNL d zX7_copyRow [mR 50 8 (o1 + 1), mR 50 8 (o + 1)] (up (up M o 0 (M o1 0)) o 1 ((up M o 0 (M o1 0)) o1 1)) (fun r_2 M_1 => wV r_2 (
  wpD mB mNL d zX7_copyRow [mR 50 8 (o1 + 2), mR 50 8 (o + 2)] M_1 (fun r_5 M_4 => wV r_5 (
    wpD mB mNL d zX7_copyRow [mR 50 8 (o1 + 3), mR 50 8 (o + 3)] M_4 (fun r_8 M_7 => wV r_8 (
      k none M_7))))))) :
  wpD mB mNL (d + 1) zX2_copyOf [mR 2 0 o, mR 2 0 o1] M k := (show jJ kB_X2_copyOf d k 0 [mR 2 0 o, mR 2 0 o1] [] M from Wt.blk (wpD_mono mB mNL d) (cV (fun M_1 h_3 => cV (fun M_4 h_6 => cV (fun M_7 h_9 => h_9) h_6) h_3) h))
theorem v_X3_search_0 {d : Nat} {k : mQ} {M : mM} (v1 : Int32)
  (h : wpD mB mNL d zX6_springValue [mR 6 0 35, mI 0] (up (up M 32 4 v1) 32 0 (-6)) (fun r_2 M_1 => wI r_2 fun x_4 =>
  wpD mB mNL d zX6_springValue [mR 6 0 35, mI 1] M_1 (fun r_6 M_5 => wI r_6 fun x_8 =>
    wpD mB mNL d zX3_descend [mR 3 0 32, mI 0, mI 0, mI (x_4 * x_8), mI 0] M_5 (fun r_10 M_9 => wV r_10 (
      k none M_9))))) :
  wpD mB mNL (d + 1) zX3_search [mR 3 0 32, mI v1] M k := (show jJ kB_X3_search d k 0 [mR 3 0 32, mI v1] [] M from Wt.blk (wpD_mono mB mNL d) (cI (fun x_4 M_1 h_3 => cI (fun x_8 M_5 h_7 => cV (fun M_9 h_11 => h_11) h_7) h_3) h))
theorem v_X3_worthLeft_0 {d : Nat} {k : mQ} {M : mM} (v1 : Int32)
  (h : jJ kB_X3_worthLeft d k 1 [mR 3 0 32, mI v1, mI 0, mI 0, none] [] M) :
  wpD mB mNL (d + 1) zX3_worthLeft [mR 3 0 32, mI v1] M k := (show jJ kB_X3_worthLeft d k 0 [mR 3 0 32, mI v1, none, none, none] [] M from Wt.blk (wpD_mono mB mNL d) (h))
theorem v_X3_worthLeft_1 {d : Nat} {k : mQ} {M : mM} (v1 : Int32) (v2 : Int32) (v3 : Int32) (u4 : mV)
  (h : (((M 38 0) ≤ v3 → k (mI v2) M) ∧
   (¬ (M 38 0) ≤ v3 → wpD mB mNL d zX2_kindOf [mR 2 0 38, mI v3] M (fun r_2 M_1 => wI r_2 fun x_4 =>
    wpD mB mNL d zX7_hasBit [mI v1, mI v3] M_1 (fun r_6 M_5 => wI r_6 fun x_8 =>
      ((¬ x_8 = 0 → jJ kB_X3_worthLeft d k 1 [mR 3 0 32, mI v1, mI v2, mI (v3 + 1), mI x_4] [] M_5) ∧
         (x_8 = 0 → wpD mB mNL d zX6_isWanting [mR 6 0 35, mI x_4, mI (M_5 32 4)] M_5 (fun r_10 M_9 => wI r_10 fun x_12 =>
          ((x_12 = 0 → jJ kB_X3_worthLeft d k 1 [mR 3 0 32, mI v1, mI v2, mI (v3 + 1), mI x_4] [] M_9) ∧
             (¬ x_12 = 0 → wpD mB mNL d zX6_kindValue [mR 6 0 35, mI 3, mI x_4] M_9 (fun r_14 M_13 => wI r_14 fun x_16 =>
              jJ kB_X3_worthLeft d k 1 [mR 3 0 32, mI v1, mI (v2 + x_16), mI (v3 + 1), mI x_4] [] M_13))))))))))) :
  jJ kB_X3_worthLeft d k 1 [mR 3 0 32, mI v1, mI v2, mI v3, u4] [] M := Wt.blk (wpD_mono mB mNL d) (And.intro (fun c_19 => Wt.blk (wpD_mono mB mNL d) ((h.1 c_19))) (fun c_19 => cI (fun x_4 M_1 h_3 => cI (fun x_8 M_5 h_7 => And.intro (fun c_18 => Wt.blk (wpD_mono mB mNL d) ((h_7.1 c_18))) (fun c_18 => cI (fun x_12 M_9 h_11 => And.intro (fun c_17 => Wt.blk (wpD_mono mB mNL d) ((h_11.1 c_17))) (fun c_17 => cI (fun x_16 M_13 h_15 => Wt.blk (wpD_mono mB mNL d) (h_15)) (h_11.2 c_17))) (h_7.2 c_18))) h_3) (h.2 c_19)))
theorem v_X3_descend_0 {d : Nat} {k : mQ} {M : mM} (v1 : Int32) (v2 : Int32) (v3 : Int32) (v4 : Int32)
  (h : wpD mB mNL d zX3_worthLeft [mR 3 0 32, mI v2] M (fun r_2 M_1 => wI r_2 fun x_4 =>
  (((M_1 32 0) < (v4 + x_4) → (((M_1 38 0) ≤ v1 → jJ kB_X3_descend d k 2 [mR 3 0 32, mI v1, mI v2, mI v3, mI v4, mR 6 0 35, none, none, none, none, none] [] M_1) ∧
       (¬ (M_1 38 0) ≤ v1 → ((v1 < 7 → wpD mB mNL d zX6_springValue [mR 6 0 35, mI 0] M_1 (fun r_6 M_5 => wI r_6 fun x_8 =>
          wpD mB mNL d zX2_lossAheadOf [mR 2 0 38, mI v1] M_5 (fun r_10 M_9 => wI r_10 fun x_12 =>
            wpD mB mNL d zX6_heatBehindPipe [mR 6 0 35, mI x_12, mI x_8, mI v3] M_9 (fun r_14 M_13 => wI r_14 fun x_16 =>
              jJ kB_X3_descend d k 4 [mR 3 0 32, mI v1, mI v2, mI v3, mI v4, mR 6 0 35, mI x_8, mI x_16, mI 0, none, none] [] M_13)))) ∧
         (¬ v1 < 7 → jJ kB_X3_descend d k 2 [mR 3 0 32, mI v1, mI v2, mI v3, mI v4, mR 6 0 35, none, none, none, none, none] [] M_1))))) ∧
     (¬ (M_1 32 0) < (v4 + x_4) → k none M_1)))) :
  wpD mB mNL (d + 1) zX3_descend [mR 3 0 32, mI v1, mI v2, mI v3, mI v4] M k := (show jJ kB_X3_descend d k 0 [mR 3 0 32, mI v1, mI v2, mI v3, mI v4, none, none, none, none, none, none] [] M from Wt.blk (wpD_mono mB mNL d) (cI (fun x_4 M_1 h_3 => And.intro (fun c_19 => Wt.blk (wpD_mono mB mNL d) (And.intro (fun c_18 => ((h_3.1 c_19).1 c_18)) (fun c_18 => And.intro (fun c_17 => Wt.blk (wpD_mono mB mNL d) (cI (fun x_8 M_5 h_7 => cI (fun x_12 M_9 h_11 => cI (fun x_16 M_13 h_15 => h_15) h_11) h_7) (((h_3.1 c_19).2 c_18).1 c_17))) (fun c_17 => (((h_3.1 c_19).2 c_18).2 c_17))))) (fun c_19 => (h_3.2 c_19))) h))
theorem v_X3_descend_2 {d : Nat} {k : mQ} {M : mM} (v1 : Int32) (v2 : Int32) (v3 : Int32) (v4 : Int32) (u6 : mV) (u7 : mV) (u8 : mV) (u9 : mV) (u10 : mV)
  (h : wpD mB mNL d zX7_copyRow [mR 50 7 34, mR 50 7 33] (up M 32 0 v4) (fun r_21 M_20 => wV r_21 (
  k none M_20))) :
  jJ kB_X3_descend d k 2 [mR 3 0 32, mI v1, mI v2, mI v3, mI v4, mR 6 0 35, u6, u7, u8, u9, u10] [] M := Wt.blk (wpD_mono mB mNL d) (cV (fun M_20 h_22 => h_22) h)
theorem v_X3_descend_4 {d : Nat} {k : mQ} {M : mM} (v1 : Int32) (v2 : Int32) (v3 : Int32) (v4 : Int32) (v6 : Int32) (v7 : Int32) (v8 : Int32) (u9 : mV) (u10 : mV)
  (h : (((M 38 0) ≤ v8 → k none M) ∧
   (¬ (M 38 0) ≤ v8 → wpD mB mNL d zX2_kindOf [mR 2 0 38, mI v8] M (fun r_24 M_23 => wI r_24 fun x_26 =>
    wpD mB mNL d zX7_hasBit [mI v2, mI v8] M_23 (fun r_28 M_27 => wI r_28 fun x_30 =>
      ((¬ x_30 = 0 → jJ kB_X3_descend d k 4 [mR 3 0 32, mI v1, mI v2, mI v3, mI v4, mR 6 0 35, mI v6, mI v7, mI (v8 + 1), mI x_26, u10] [] M_27) ∧
         (x_30 = 0 → wpD mB mNL d zX6_isHarmed [mR 6 0 35, mI x_26, mI v6, mI v7] M_27 (fun r_32 M_31 => wI r_32 fun x_34 =>
          ((¬ x_34 = 0 → jJ kB_X3_descend d k 4 [mR 3 0 32, mI v1, mI v2, mI v3, mI v4, mR 6 0 35, mI v6, mI v7, mI (v8 + 1), mI x_26, u10] [] M_31) ∧
             (x_34 = 0 → wpD mB mNL d zX6_isServed [mR 6 0 35, mI x_26, mI (M_31 32 4), mI v6, mI v7] M_31 (fun r_36 M_35 => wI r_36 fun x_38 =>
              wpD mB mNL d zX7_setCell [mR 50 7 34, mI v1, mI v8] M_35 (fun r_40 M_39 => wV r_40 (
                ((x_38 = 0 → jJ kB_X3_descend d k 6 [mR 3 0 32, mI v1, mI v2, mI v3, mI v4, mR 6 0 35, mI v6, mI v7, mI v8, mI x_26, mI x_38] [mI v7, mI (v2 ||| (1 <<< (v8 &&& 31))), mI (v1 + 1), mR 3 0 32] M_39) ∧
                   (¬ x_38 = 0 → wpD mB mNL d zX6_kindValue [mR 6 0 35, mI 2, mI x_26] M_39 (fun r_43 M_42 => wI r_43 fun x_45 =>
                    jJ kB_X3_descend d k 6 [mR 3 0 32, mI v1, mI v2, mI v3, mI v4, mR 6 0 35, mI v6, mI v7, mI v8, mI x_26, mI x_38] [mI (v7 - x_45), mI (v2 ||| (1 <<< (v8 &&& 31))), mI (v1 + 1), mR 3 0 32] M_42)))))))))))))))) :
  jJ kB_X3_descend d k 4 [mR 3 0 32, mI v1, mI v2, mI v3, mI v4, mR 6 0 35, mI v6, mI v7, mI v8, u9, u10] [] M := Wt.blk (wpD_mono mB mNL d) (And.intro (fun c_49 => Wt.blk (wpD_mono mB mNL d) ((h.1 c_49))) (fun c_49 => cI (fun x_26 M_23 h_25 => cI (fun x_30 M_27 h_29 => And.intro (fun c_48 => Wt.blk (wpD_mono mB mNL d) ((h_29.1 c_48))) (fun c_48 => cI (fun x_34 M_31 h_33 => And.intro (fun c_47 => Wt.blk (wpD_mono mB mNL d) ((h_33.1 c_47))) (fun c_47 => cI (fun x_38 M_35 h_37 => cV (fun M_39 h_41 => And.intro (fun c_46 => Wt.blk (wpD_mono mB mNL d) ((h_41.1 c_46))) (fun c_46 => cI (fun x_45 M_42 h_44 => h_44) (h_41.2 c_46))) h_37) (h_33.2 c_47))) (h_29.2 c_48))) h_25) (h.2 c_49)))
theorem v_X3_descend_6 {d : Nat} {k : mQ} {M : mM} (v1 : Int32) (v2 : Int32) (v3 : Int32) (v4 : Int32) (v6 : Int32) (v7 : Int32) (v8 : Int32) (v9 : Int32) (v10 : Int32) (s1 : Int32) (s2 : Int32) (s3 : Int32)
  (h : ((v10 = 0 → jJ kB_X3_descend d k 8 [mR 3 0 32, mI v1, mI v2, mI v3, mI v4, mR 6 0 35, mI v6, mI v7, mI v8, mI v9, mI v10] [mI v4, mI s3, mI s2, mI s1, mR 3 0 32] M) ∧
   (¬ v10 = 0 → wpD mB mNL d zX6_kindValue [mR 6 0 35, mI 3, mI v9] M (fun r_51 M_50 => wI r_51 fun x_53 =>
    jJ kB_X3_descend d k 8 [mR 3 0 32, mI v1, mI v2, mI v3, mI v4, mR 6 0 35, mI v6, mI v7, mI v8, mI v9, mI v10] [mI (v4 + x_53), mI s3, mI s2, mI s1, mR 3 0 32] M_50)))) :
  jJ kB_X3_descend d k 6 [mR 3 0 32, mI v1, mI v2, mI v3, mI v4, mR 6 0 35, mI v6, mI v7, mI v8, mI v9, mI v10] [mI s3, mI s2, mI s1, mR 3 0 32] M := Wt.blk (wpD_mono mB mNL d) (And.intro (fun c_54 => Wt.blk (wpD_mono mB mNL d) ((h.1 c_54))) (fun c_54 => cI (fun x_53 M_50 h_52 => h_52) (h.2 c_54)))
theorem v_X3_descend_8 {d : Nat} {k : mQ} {M : mM} (v1 : Int32) (v2 : Int32) (v3 : Int32) (v4 : Int32) (v6 : Int32) (v7 : Int32) (v8 : Int32) (v9 : Int32) (v10 : Int32) (s1 : Int32) (s2 : Int32) (s3 : Int32) (s4 : Int32)
  (h : wpD mB mNL d zX3_descend [mR 3 0 32, mI s1, mI s2, mI s3, mI s4] M (fun r_56 M_55 => wV r_56 (
  jJ kB_X3_descend d k 4 [mR 3 0 32, mI v1, mI v2, mI v3, mI v4, mR 6 0 35, mI v6, mI v7, mI (v8 + 1), mI v9, mI v10] [] M_55))) :
  jJ kB_X3_descend d k 8 [mR 3 0 32, mI v1, mI v2, mI v3, mI v4, mR 6 0 35, mI v6, mI v7, mI v8, mI v9, mI v10] [mI s4, mI s3, mI s2, mI s1, mR 3 0 32] M := Wt.blk (wpD_mono mB mNL d) (cV (fun M_55 h_57 => Wt.blk (wpD_mono mB mNL d) (h_57)) h)
theorem v_X4_addSign_0 {d : Nat} {k : mQ} {M : mM} (v1 : Int32)
  (h : (((M 15 0) < 48 → wpD mB mNL d zX7_setCell [mR 50 48 20, mI (M 15 0), mI v1] M (fun r_2 M_1 => wV r_2 (
    k (mI 1) (up M_1 15 0 ((M_1 15 0) + 1))))) ∧
   (¬ (M 15 0) < 48 → k (mI 0) M))) :
  wpD mB mNL (d + 1) zX4_addSign [mR 4 0 15, mI v1] M k := (show jJ kB_X4_addSign d k 0 [mR 4 0 15, mI v1] [] M from Wt.blk (wpD_mono mB mNL d) (And.intro (fun c_4 => Wt.blk (wpD_mono mB mNL d) (cV (fun M_1 h_3 => And.intro (Or.inr rfl) h_3) (h.1 c_4))) (fun c_4 => And.intro (Or.inl rfl) (h.2 c_4))))
theorem v_X4_clear_0 {d : Nat} {k : mQ} {M : mM} 
  (h : k (mI (M 15 0)) (up M 15 0 0)) :
  wpD mB mNL (d + 1) zX4_clear [mR 4 0 15] M k := (show jJ kB_X4_clear d k 0 [mR 4 0 15, none] [] M from Wt.blk (wpD_mono mB mNL d) (h))
theorem v_X4_brooksIn_0 {d : Nat} {k : mQ} {M : mM} (v1 : Int32)
  (h : wpD mB mNL d zX7_cell [mR 50 6 21, mI v1] M (fun r_2 M_1 => wI r_2 fun x_4 =>
  k (mI x_4) M_1)) :
  wpD mB mNL (d + 1) zX4_brooksIn [mR 4 0 15, mI v1] M k := (show jJ kB_X4_brooksIn d k 0 [mR 4 0 15, mI v1] [] M from Wt.blk (wpD_mono mB mNL d) (cI (fun x_4 M_1 h_3 => h_3) h))
theorem v_X4_drawsIn_0 {d : Nat} {k : mQ} {M : mM} (v1 : Int32)
  (h : wpD mB mNL d zX7_cell [mR 50 6 22, mI v1] M (fun r_2 M_1 => wI r_2 fun x_4 =>
  k (mI x_4) M_1)) :
  wpD mB mNL (d + 1) zX4_drawsIn [mR 4 0 15, mI v1] M k := (show jJ kB_X4_drawsIn d k 0 [mR 4 0 15, mI v1] [] M from Wt.blk (wpD_mono mB mNL d) (cI (fun x_4 M_1 h_3 => h_3) h))
theorem v_X4_readLane_0 {d : Nat} {k : mQ} {M : mM} 
  (h : wpD mB mNL d zX2_clear [mR 2 0 16] M (fun r_2 M_1 => wV r_2 (
  jJ kB_X4_readLane d k 1 [mR 4 0 15, mI 0, mI 0, mI 0, none, none] [] M_1))) :
  wpD mB mNL (d + 1) zX4_readLane [mR 4 0 15] M k := (show jJ kB_X4_readLane d k 0 [mR 4 0 15, none, none, none, none, none] [] M from Wt.blk (wpD_mono mB mNL d) (cV (fun M_1 h_3 => h_3) h))
theorem v_X4_readLane_1 {d : Nat} {k : mQ} {M : mM} (v1 : Int32) (v2 : Int32) (v3 : Int32) (u4 : mV) (u5 : mV)
  (h : (((M 15 0) ≤ v3 → (((M 16 0) = 0 → k (mI (M 15 0)) M) ∧
     (¬ (M 16 0) = 0 → ((0 < v1 → k (mI (M 15 0)) M) ∧
       (¬ 0 < v1 → ((v2 = 0 → k (mI (-6)) M) ∧
         (¬ v2 = 0 → k (mI (M 15 0)) M))))))) ∧
   (¬ (M 15 0) ≤ v3 → wpD mB mNL d zX7_cell [mR 50 48 20, mI v3] M (fun r_8 M_7 => wI r_8 fun x_10 =>
    wpD mB mNL d zX4_kindBySign [mI x_10] M_7 (fun r_12 M_11 => wI r_12 fun x_14 =>
      wpD mB mNL d zX2_isFull [mR 2 0 16] M_11 (fun r_16 M_15 => wI r_16 fun x_18 =>
        ((x_18 = 0 → ((x_14 = (-6) → ((x_10 < 49 → jJ kB_X4_readLane d k 4 [mR 4 0 15, mI v1, mI v2, mI v3, mI x_10, mI x_14] [] M_15) ∧
               (¬ x_10 < 49 → ((57 < x_10 → jJ kB_X4_readLane d k 4 [mR 4 0 15, mI v1, mI v2, mI v3, mI x_10, mI x_14] [] M_15) ∧
                 (¬ 57 < x_10 → ((¬ v1 = 0 → jJ kB_X4_readLane d k 4 [mR 4 0 15, mI v1, mI v2, mI v3, mI x_10, mI x_14] [] M_15) ∧
                   (v1 = 0 → ((¬ v2 = 0 → jJ kB_X4_readLane d k 4 [mR 4 0 15, mI v1, mI v2, mI v3, mI x_10, mI x_14] [] M_15) ∧
                     (v2 = 0 → jJ kB_X4_readLane d k 1 [mR 4 0 15, mI (x_10 - 48), mI v2, mI (v3 + 1), mI x_10, mI x_14] [] M_15))))))))) ∧
             (¬ x_14 = (-6) → wpD mB mNL d zX2_addHouse [mR 2 0 16, mI x_14, mI v1, mI v2] M_15 (fun r_24 M_23 => wV r_24 (
              jJ kB_X4_readLane d k 1 [mR 4 0 15, mI 0, mI 0, mI (v3 + 1), mI x_10, mI x_14] [] M_23))))) ∧
           (¬ x_18 = 0 → k (mI v3) M_15)))))))) :
  jJ kB_X4_readLane d k 1 [mR 4 0 15, mI v1, mI v2, mI v3, u4, u5] [] M := Wt.blk (wpD_mono mB mNL d) (And.intro (fun c_28 => Wt.blk (wpD_mono mB mNL d) (And.intro (fun c_6 => Wt.blk (wpD_mono mB mNL d) (Wt.blk (wpD_mono mB mNL d) (((h.1 c_28).1 c_6)))) (fun c_6 => And.intro (fun c_5 => Wt.blk (wpD_mono mB mNL d) (Wt.blk (wpD_mono mB mNL d) ((((h.1 c_28).2 c_6).1 c_5)))) (fun c_5 => And.intro (fun c_4 => Wt.blk (wpD_mono mB mNL d) (Wt.blk (wpD_mono mB mNL d) (((((h.1 c_28).2 c_6).2 c_5).1 c_4)))) (fun c_4 => Wt.blk (wpD_mono mB mNL d) (Wt.blk (wpD_mono mB mNL d) (((((h.1 c_28).2 c_6).2 c_5).2 c_4)))))))) (fun c_28 => cI (fun x_10 M_7 h_9 => cI (fun x_14 M_11 h_13 => cI (fun x_18 M_15 h_17 => And.intro (fun c_27 => Wt.blk (wpD_mono mB mNL d) (And.intro (fun c_26 => Wt.blk (wpD_mono mB mNL d) (And.intro (fun c_22 => (((h_17.1 c_27).1 c_26).1 c_22)) (fun c_22 => And.intro (fun c_21 => ((((h_17.1 c_27).1 c_26).2 c_22).1 c_21)) (fun c_21 => And.intro (fun c_20 => (((((h_17.1 c_27).1 c_26).2 c_22).2 c_21).1 c_20)) (fun c_20 => And.intro (fun c_19 => ((((((h_17.1 c_27).1 c_26).2 c_22).2 c_21).2 c_20).1 c_19)) (fun c_19 => Wt.blk (wpD_mono mB mNL d) (((((((h_17.1 c_27).1 c_26).2 c_22).2 c_21).2 c_20).2 c_19)))))))) (fun c_26 => cV (fun M_23 h_25 => Wt.blk (wpD_mono mB mNL d) (h_25)) ((h_17.1 c_27).2 c_26)))) (fun c_27 => (h_17.2 c_27))) h_13) h_9) (h.2 c_28)))
theorem v_X4_readLane_4 {d : Nat} {k : mQ} {M : mM} (v1 : Int32) (v2 : Int32) (v3 : Int32) (v4 : Int32) (v5 : Int32)
  (h : ((¬ v4 = 42 → k (mI v3) M) ∧
   (v4 = 42 → ((¬ v2 = 0 → k (mI v3) M) ∧
     (v2 = 0 → ((4 ≤ (M 16 1) → k (mI v3) M) ∧
       (¬ 4 ≤ (M 16 1) → jJ kB_X4_readLane d k 1 [mR 4 0 15, mI v1, mI 1, mI (v3 + 1), mI v4, mI v5] [] M))))))) :
  jJ kB_X4_readLane d k 4 [mR 4 0 15, mI v1, mI v2, mI v3, mI v4, mI v5] [] M := Wt.blk (wpD_mono mB mNL d) (And.intro (fun c_31 => Wt.blk (wpD_mono mB mNL d) ((h.1 c_31))) (fun c_31 => And.intro (fun c_30 => Wt.blk (wpD_mono mB mNL d) (((h.2 c_31).1 c_30))) (fun c_30 => And.intro (fun c_29 => Wt.blk (wpD_mono mB mNL d) ((((h.2 c_31).2 c_30).1 c_29))) (fun c_29 => Wt.blk (wpD_mono mB mNL d) ((((h.2 c_31).2 c_30).2 c_29))))))
theorem v_X4_readDay_0 {d : Nat} {k : mQ} {M : mM} (o1 : Nat)
  (h : jJ kB_X4_readDay d k 1 [mR 4 0 15, mR 2 0 o1, mI 0, mI 0, mI 0, mI 0, none, none, none] [] M) :
  wpD mB mNL (d + 1) zX4_readDay [mR 4 0 15, mR 2 0 o1] M k := (show jJ kB_X4_readDay d k 0 [mR 4 0 15, mR 2 0 o1, none, none, none, none, none, none, none] [] M from Wt.blk (wpD_mono mB mNL d) (h))
theorem v_X4_readDay_1 {d : Nat} {k : mQ} {M : mM} (o1 : Nat) (v2 : Int32) (v3 : Int32) (v4 : Int32) (v5 : Int32) (u6 : mV) (u7 : mV) (u8 : mV)
  (h : (((M 15 0) ≤ v5 → wpD mB mNL d zX4_keepHour [mR 4 0 15, mI v2, mI v3, mI v4] M (fun r_2 M_1 => wV r_2 (
    ((5 ≤ v2 → k (mI (-6)) M_1) ∧
       (¬ 5 ≤ v2 → k (mI (M_1 15 0)) M_1))))) ∧
   (¬ (M 15 0) ≤ v5 → wpD mB mNL d zX7_cell [mR 50 48 20, mI v5] M (fun r_6 M_5 => wI r_6 fun x_8 =>
    ((¬ x_8 = 47 → jJ kB_X4_readDay d k 2 [mR 4 0 15, mR 2 0 o1, mI v2, mI v3, mI v4, mI v5, mI x_8, mI (x_8 - 49), mI (x_8 - 65)] [] M_5) ∧
       (x_8 = 47 → ((5 ≤ v2 → jJ kB_X4_readDay d k 2 [mR 4 0 15, mR 2 0 o1, mI v2, mI v3, mI v4, mI v5, mI x_8, mI (x_8 - 49), mI (x_8 - 65)] [] M_5) ∧
         (¬ 5 ≤ v2 → wpD mB mNL d zX4_keepHour [mR 4 0 15, mI v2, mI v3, mI v4] M_5 (fun r_10 M_9 => wV r_10 (
          jJ kB_X4_readDay d k 1 [mR 4 0 15, mR 2 0 o1, mI (v2 + 1), mI 0, mI 0, mI (v5 + 1), mI x_8, mI (x_8 - 49), mI (x_8 - 65)] [] M_9)))))))))) :
  jJ kB_X4_readDay d k 1 [mR 4 0 15, mR 2 0 o1, mI v2, mI v3, mI v4, mI v5, u6, u7, u8] [] M := Wt.blk (wpD_mono mB mNL d) (And.intro (fun c_14 => Wt.blk (wpD_mono mB mNL d) (cV (fun M_1 h_3 => And.intro (fun c_4 => Wt.blk (wpD_mono mB mNL d) (Wt.blk (wpD_mono mB mNL d) ((h_3.1 c_4)))) (fun c_4 => Wt.blk (wpD_mono mB mNL d) ((h_3.2 c_4)))) (h.1 c_14))) (fun c_14 => cI (fun x_8 M_5 h_7 => And.intro (fun c_13 => (h_7.1 c_13)) (fun c_13 => And.intro (fun c_12 => ((h_7.2 c_13).1 c_12)) (fun c_12 => cV (fun M_9 h_11 => Wt.blk (wpD_mono mB mNL d) (h_11)) ((h_7.2 c_13).2 c_12)))) (h.2 c_14)))
theorem v_X4_readDay_2 {d : Nat} {k : mQ} {M : mM} (o1 : Nat) (v2 : Int32) (v3 : Int32) (v4 : Int32) (v5 : Int32) (v6 : Int32) (v7 : Int32) (v8 : Int32)
  (h : ((v7 < 0 → jJ kB_X4_readDay d k 3 [mR 4 0 15, mR 2 0 o1, mI v2, mI v3, mI v4, mI v5, mI v6, mI v7, mI v8] [] M) ∧
   (¬ v7 < 0 → (((M o1 1) ≤ v7 → jJ kB_X4_readDay d k 3 [mR 4 0 15, mR 2 0 o1, mI v2, mI v3, mI v4, mI v5, mI v6, mI v7, mI v8] [] M) ∧
     (¬ (M o1 1) ≤ v7 → wpD mB mNL d zX7_hasBit [mI v3, mI v7] M (fun r_16 M_15 => wI r_16 fun x_18 =>
      ((¬ x_18 = 0 → jJ kB_X4_readDay d k 3 [mR 4 0 15, mR 2 0 o1, mI v2, mI v3, mI v4, mI v5, mI v6, mI v7, mI v8] [] M_15) ∧
         (x_18 = 0 → jJ kB_X4_readDay d k 1 [mR 4 0 15, mR 2 0 o1, mI v2, mI (v3 ||| (1 <<< (v7 &&& 31))), mI v4, mI (v5 + 1), mI v6, mI v7, mI v8] [] M_15)))))))) :
  jJ kB_X4_readDay d k 2 [mR 4 0 15, mR 2 0 o1, mI v2, mI v3, mI v4, mI v5, mI v6, mI v7, mI v8] [] M := Wt.blk (wpD_mono mB mNL d) (And.intro (fun c_21 => (h.1 c_21)) (fun c_21 => And.intro (fun c_20 => ((h.2 c_21).1 c_20)) (fun c_20 => cI (fun x_18 M_15 h_17 => And.intro (fun c_19 => (h_17.1 c_19)) (fun c_19 => Wt.blk (wpD_mono mB mNL d) ((h_17.2 c_19)))) ((h.2 c_21).2 c_20))))
theorem v_X4_readDay_3 {d : Nat} {k : mQ} {M : mM} (o1 : Nat) (v2 : Int32) (v3 : Int32) (v4 : Int32) (v5 : Int32) (v6 : Int32) (v7 : Int32) (v8 : Int32)
  (h : ((v8 < 0 → k (mI v5) M) ∧
   (¬ v8 < 0 → (((M o1 0) ≤ v8 → k (mI v5) M) ∧
     (¬ (M o1 0) ≤ v8 → wpD mB mNL d zX7_hasBit [mI v4, mI v8] M (fun r_23 M_22 => wI r_23 fun x_25 =>
      ((¬ x_25 = 0 → k (mI v5) M_22) ∧
         (x_25 = 0 → jJ kB_X4_readDay d k 1 [mR 4 0 15, mR 2 0 o1, mI v2, mI v3, mI (v4 ||| (1 <<< (v8 &&& 31))), mI (v5 + 1), mI v6, mI v7, mI v8] [] M_22)))))))) :
  jJ kB_X4_readDay d k 3 [mR 4 0 15, mR 2 0 o1, mI v2, mI v3, mI v4, mI v5, mI v6, mI v7, mI v8] [] M := Wt.blk (wpD_mono mB mNL d) (And.intro (fun c_28 => Wt.blk (wpD_mono mB mNL d) ((h.1 c_28))) (fun c_28 => And.intro (fun c_27 => Wt.blk (wpD_mono mB mNL d) (((h.2 c_28).1 c_27))) (fun c_27 => cI (fun x_25 M_22 h_24 => And.intro (fun c_26 => Wt.blk (wpD_mono mB mNL d) ((h_24.1 c_26))) (fun c_26 => Wt.blk (wpD_mono mB mNL d) ((h_24.2 c_26)))) ((h.2 c_28).2 c_27))))
theorem v_X4_keepHour_0 {d : Nat} {k : mQ} {M : mM} (v1 : Int32) (v2 : Int32) (v3 : Int32)
  (h : wpD mB mNL d zX7_setCell [mR 50 6 21, mI v1, mI v2] M (fun r_2 M_1 => wV r_2 (
  wpD mB mNL d zX7_setCell [mR 50 6 22, mI v1, mI v3] M_1 (fun r_5 M_4 => wV r_5 (
    k none M_4))))) :
  wpD mB mNL (d + 1) zX4_keepHour [mR 4 0 15, mI v1, mI v2, mI v3] M k := (show jJ kB_X4_keepHour d k 0 [mR 4 0 15, mI v1, mI v2, mI v3] [] M from Wt.blk (wpD_mono mB mNL d) (cV (fun M_1 h_3 => cV (fun M_4 h_6 => h_6) h_3) h))
theorem v_X4_kindBySign_0 {d : Nat} {k : mQ} {M : mM} (v0 : Int32)
  (h : jJ kB_X4_kindBySign d k 1 [mI v0, mI 0] [] M) :
  wpD mB mNL (d + 1) zX4_kindBySign [mI v0] M k := (show jJ kB_X4_kindBySign d k 0 [mI v0, none] [] M from Wt.blk (wpD_mono mB mNL d) (h))
theorem v_X4_kindBySign_1 {d : Nat} {k : mQ} {M : mM} (v0 : Int32) (v1 : Int32)
  (h : ((6 ≤ v1 → k (mI (-6)) M) ∧
   (¬ 6 ≤ v1 → wpD mB mNL d zX7_cell [mR 51 6 5, mI v1] M (fun r_2 M_1 => wI r_2 fun x_4 =>
    ((¬ x_4 = v0 → jJ kB_X4_kindBySign d k 1 [mI v0, mI (v1 + 1)] [] M_1) ∧
       (x_4 = v0 → k (mI v1) M_1)))))) :
  jJ kB_X4_kindBySign d k 1 [mI v0, mI v1] [] M := Wt.blk (wpD_mono mB mNL d) (And.intro (fun c_6 => Wt.blk (wpD_mono mB mNL d) ((h.1 c_6))) (fun c_6 => cI (fun x_4 M_1 h_3 => And.intro (fun c_5 => Wt.blk (wpD_mono mB mNL d) ((h_3.1 c_5))) (fun c_5 => (h_3.2 c_5))) (h.2 c_6)))
theorem v_X5_forgetPlans_0 {d : Nat} {k : mQ} {M : mM} 
  (h : k none (up (up (up M 26 1 (-6)) 26 2 (-6)) 26 3 0)) :
  wpD mB mNL (d + 1) zX5_forgetPlans [mR 5 0 26] M k := (show jJ kB_X5_forgetPlans d k 0 [mR 5 0 26] [] M from Wt.blk (wpD_mono mB mNL d) (h))
theorem v_X5_improve_0 {d : Nat} {k : mQ} {M : mM} (v1 : Int32)
  (h : wpD mB mNL d zX6_springValue [mR 6 0 35, mI 0] M (fun r_2 M_1 => wI r_2 fun x_4 =>
  wpD mB mNL d zX5_sumWorthBehind [mR 5 0 26] (up (up M_1 26 5 v1) 26 2 (-6)) (fun r_6 M_5 => wV r_6 (
    jJ kB_X5_improve d k 1 [mR 5 0 26, mI v1, mI (M 26 1), mI x_4, mI 0] [] M_5)))) :
  wpD mB mNL (d + 1) zX5_improve [mR 5 0 26, mI v1] M k := (show jJ kB_X5_improve d k 0 [mR 5 0 26, mI v1, none, none, none] [] M from Wt.blk (wpD_mono mB mNL d) (cI (fun x_4 M_1 h_3 => cV (fun M_5 h_7 => h_7) h_3) h))
theorem v_X5_improve_1 {d : Nat} {k : mQ} {M : mM} (v1 : Int32) (v2 : Int32) (v3 : Int32) (v4 : Int32)
  (h : wpD mB mNL d zX2_brookSets [mR 2 0 27] M (fun r_9 M_8 => wI r_9 fun x_11 =>
  ((x_11 ≤ v4 → (((M_8 26 1) ≤ v2 → k (mI 0) M_8) ∧
       (¬ (M_8 26 1) ≤ v2 → k (mI 1) M_8))) ∧
     (¬ x_11 ≤ v4 → wpD mB mNL d zX6_springValue [mR 6 0 35, mI 1] (up M_8 26 6 v4) (fun r_14 M_13 => wI r_14 fun x_16 =>
      wpD mB mNL d zX5_descend [mR 5 0 26, mI 0, mI v3, mI (v3 * x_16), mI 0, mI 0] M_13 (fun r_18 M_17 => wV r_18 (
        jJ kB_X5_improve d k 1 [mR 5 0 26, mI v1, mI v2, mI v3, mI (v4 + 1)] [] M_17))))))) :
  jJ kB_X5_improve d k 1 [mR 5 0 26, mI v1, mI v2, mI v3, mI v4] [] M := Wt.blk (wpD_mono mB mNL d) (cI (fun x_11 M_8 h_10 => And.intro (fun c_20 => Wt.blk (wpD_mono mB mNL d) (And.intro (fun c_12 => Wt.blk (wpD_mono mB mNL d) (Wt.blk (wpD_mono mB mNL d) (And.intro (Or.inl rfl) ((h_10.1 c_20).1 c_12)))) (fun c_12 => Wt.blk (wpD_mono mB mNL d) (And.intro (Or.inr rfl) ((h_10.1 c_20).2 c_12))))) (fun c_20 => cI (fun x_16 M_13 h_15 => cV (fun M_17 h_19 => h_19) h_15) (h_10.2 c_20))) h)
theorem v_X5_sumWorthBehind_0 {d : Nat} {k : mQ} {M : mM} 
  (h : wpD mB mNL d zX7_setCell [mR 50 9 31, mI (M 27 0), mI 0] M (fun r_2 M_1 => wV r_2 (
  jJ kB_X5_sumWorthBehind d k 1 [mR 5 0 26, mI 0, mI ((M_1 27 0) - 1), none] [] M_1))) :
  wpD mB mNL (d + 1) zX5_sumWorthBehind [mR 5 0 26] M k := (show jJ kB_X5_sumWorthBehind d k 0 [mR 5 0 26, none, none, none] [] M from Wt.blk (wpD_mono mB mNL d) (cV (fun M_1 h_3 => h_3) h))
theorem v_X5_sumWorthBehind_1 {d : Nat} {k : mQ} {M : mM} (v1 : Int32) (v2 : Int32) (u3 : mV)
  (h : ((v2 < 0 → k none M) ∧
   (¬ v2 < 0 → wpD mB mNL d zX2_kindOf [mR 2 0 27, mI v2] M (fun r_5 M_4 => wI r_5 fun x_7 =>
    wpD mB mNL d zX6_isWanting [mR 6 0 35, mI x_7, mI (M_4 26 5)] M_4 (fun r_9 M_8 => wI r_9 fun x_11 =>
      ((x_11 = 0 → jJ kB_X5_sumWorthBehind d k 2 [mR 5 0 26, mI v1, mI v2, mI x_7] [] M_8) ∧
         (¬ x_11 = 0 → wpD mB mNL d zX6_kindValue [mR 6 0 35, mI 3, mI x_7] M_8 (fun r_13 M_12 => wI r_13 fun x_15 =>
          jJ kB_X5_sumWorthBehind d k 2 [mR 5 0 26, mI (v1 + x_15), mI v2, mI x_7] [] M_12)))))))) :
  jJ kB_X5_sumWorthBehind d k 1 [mR 5 0 26, mI v1, mI v2, u3] [] M := Wt.blk (wpD_mono mB mNL d) (And.intro (fun c_17 => Wt.blk (wpD_mono mB mNL d) ((h.1 c_17))) (fun c_17 => cI (fun x_7 M_4 h_6 => cI (fun x_11 M_8 h_10 => And.intro (fun c_16 => (h_10.1 c_16)) (fun c_16 => cI (fun x_15 M_12 h_14 => h_14) (h_10.2 c_16))) h_6) (h.2 c_17)))
theorem v_X5_sumWorthBehind_2 {d : Nat} {k : mQ} {M : mM} (v1 : Int32) (v2 : Int32) (v3 : Int32)
  (h : wpD mB mNL d zX7_setCell [mR 50 9 31, mI v2, mI v1] M (fun r_19 M_18 => wV r_19 (
  jJ kB_X5_sumWorthBehind d k 1 [mR 5 0 26, mI v1, mI (v2 + (-1)), mI v3] [] M_18))) :
  jJ kB_X5_sumWorthBehind d k 2 [mR 5 0 26, mI v1, mI v2, mI v3] [] M := Wt.blk (wpD_mono mB mNL d) (cV (fun M_18 h_20 => h_20) h)
theorem v_X5_mayWin_0 {d : Nat} {k : mQ} {M : mM} (v1 : Int32)
  (h : (((M 26 1) < v1 → k (mI 1) M) ∧
   (¬ (M 26 1) < v1 → ((¬ v1 = (M 26 1) → k (mI 0) M) ∧
     (v1 = (M 26 1) → ((¬ (M 26 6) = (M 26 2) → k (mI 0) M) ∧
       ((M 26 6) = (M 26 2) → k (mI 1) M))))))) :
  wpD mB mNL (d + 1) zX5_mayWin [mR 5 0 26, mI v1] M k := (show jJ kB_X5_mayWin d k 0 [mR 5 0 26, mI v1] [] M from Wt.blk (wpD_mono mB mNL d) (And.intro (fun c_3 => Wt.blk (wpD_mono mB mNL d) (Wt.blk (wpD_mono mB mNL d) (And.intro (Or.inr rfl) (h.1 c_3)))) (fun c_3 => And.intro (fun c_2 => Wt.blk (wpD_mono mB mNL d) (Wt.blk (wpD_mono mB mNL d) (And.intro (Or.inl rfl) ((h.2 c_3).1 c_2)))) (fun c_2 => And.intro (fun c_1 => Wt.blk (wpD_mono mB mNL d) (Wt.blk (wpD_mono mB mNL d) (And.intro (Or.inl rfl) (((h.2 c_3).2 c_2).1 c_1)))) (fun c_1 => Wt.blk (wpD_mono mB mNL d) (Wt.blk (wpD_mono mB mNL d) (And.intro (Or.inr rfl) (((h.2 c_3).2 c_2).2 c_1))))))))
theorem v_X5_offer_0 {d : Nat} {k : mQ} {M : mM} (v1 : Int32) (v2 : Int32)
  (h : (((M 26 1) < v2 → jJ kB_X5_offer d k 1 [mR 5 0 26, mI v1, mI v2] [] M) ∧
   (¬ (M 26 1) < v2 → ((¬ v2 = (M 26 1) → k none M) ∧
     (v2 = (M 26 1) → ((¬ (M 26 6) = (M 26 2) → k none M) ∧
       ((M 26 6) = (M 26 2) → (((M 26 3) ≤ v1 → k none M) ∧
         (¬ (M 26 3) ≤ v1 → jJ kB_X5_offer d k 1 [mR 5 0 26, mI v1, mI v2] [] M))))))))) :
  wpD mB mNL (d + 1) zX5_offer [mR 5 0 26, mI v1, mI v2] M k := (show jJ kB_X5_offer d k 0 [mR 5 0 26, mI v1, mI v2] [] M from Wt.blk (wpD_mono mB mNL d) (And.intro (fun c_4 => (h.1 c_4)) (fun c_4 => And.intro (fun c_3 => Wt.blk (wpD_mono mB mNL d) (((h.2 c_4).1 c_3))) (fun c_3 => And.intro (fun c_2 => Wt.blk (wpD_mono mB mNL d) ((((h.2 c_4).2 c_3).1 c_2))) (fun c_2 => And.intro (fun c_1 => Wt.blk (wpD_mono mB mNL d) (((((h.2 c_4).2 c_3).2 c_2).1 c_1))) (fun c_1 => ((((h.2 c_4).2 c_3).2 c_2).2 c_1)))))))
theorem v_X5_offer_1 {d : Nat} {k : mQ} {M : mM} (v1 : Int32) (v2 : Int32)
  (h : k none (up (up (up M 26 1 v2) 26 2 (M 26 6)) 26 3 v1)) :
  jJ kB_X5_offer d k 1 [mR 5 0 26, mI v1, mI v2] [] M := Wt.blk (wpD_mono mB mNL d) (Wt.blk (wpD_mono mB mNL d) (h))
theorem v_X5_descend_0 {d : Nat} {k : mQ} {M : mM} (v1 : Int32) (v2 : Int32) (v3 : Int32) (v4 : Int32) (v5 : Int32)
  (h : (((M 27 0) ≤ v1 → jJ kB_X5_descend d k 1 [mR 5 0 26, mI v1, mI v2, mI v3, mI v4, mI v5, none, none, none, none] [] M) ∧
   (¬ (M 27 0) ≤ v1 → ((v1 < 8 → wpD mB mNL d zX7_cell [mR 50 9 31, mI v1] M (fun r_2 M_1 => wI r_2 fun x_4 =>
      wpD mB mNL d zX5_mayWin [mR 5 0 26, mI (v5 + x_4)] M_1 (fun r_6 M_5 => wI r_6 fun x_8 =>
        ((¬ x_8 = 0 → wpD mB mNL d zX2_lossAheadOf [mR 2 0 27, mI v1] M_5 (fun r_10 M_9 => wI r_10 fun x_12 =>
            wpD mB mNL d zX6_heatBehindPipe [mR 6 0 35, mI x_12, mI v2, mI v3] M_9 (fun r_14 M_13 => wI r_14 fun x_16 =>
              wpD mB mNL d zX2_brookAheadOf [mR 2 0 27, mI v1] M_13 (fun r_18 M_17 => wI r_18 fun x_20 =>
                wpD mB mNL d zX7_hasBit [mI (M_13 26 6), mI x_20] M_17 (fun r_22 M_21 => wI r_22 fun x_24 =>
                  ((x_24 = 0 → jJ kB_X5_descend d k 4 [mR 5 0 26, mI v1, mI v2, mI v3, mI v4, mI v5, mR 6 0 35, mI v2, mI x_16, none] [] M_21) ∧
                     (¬ x_24 = 0 → wpD mB mNL d zX6_springValue [mR 6 0 35, mI 3] M_21 (fun r_26 M_25 => wI r_26 fun x_28 =>
                      wpD mB mNL d zX6_springValue [mR 6 0 35, mI 3] M_25 (fun r_30 M_29 => wI r_30 fun x_32 =>
                        wpD mB mNL d zX6_springValue [mR 6 0 35, mI 4] M_29 (fun r_34 M_33 => wI r_34 fun x_36 =>
                          jJ kB_X5_descend d k 4 [mR 5 0 26, mI v1, mI v2, mI v3, mI v4, mI v5, mR 6 0 35, mI (v2 + x_28), mI (x_16 + (x_32 * x_36)), none] [] M_33)))))))))) ∧
           (x_8 = 0 → k none M_5))))) ∧
     (¬ v1 < 8 → jJ kB_X5_descend d k 1 [mR 5 0 26, mI v1, mI v2, mI v3, mI v4, mI v5, none, none, none, none] [] M))))) :
  wpD mB mNL (d + 1) zX5_descend [mR 5 0 26, mI v1, mI v2, mI v3, mI v4, mI v5] M k := (show jJ kB_X5_descend d k 0 [mR 5 0 26, mI v1, mI v2, mI v3, mI v4, mI v5, none, none, none, none] [] M from Wt.blk (wpD_mono mB mNL d) (And.intro (fun c_40 => (h.1 c_40)) (fun c_40 => And.intro (fun c_39 => Wt.blk (wpD_mono mB mNL d) (cI (fun x_4 M_1 h_3 => cI (fun x_8 M_5 h_7 => And.intro (fun c_38 => Wt.blk (wpD_mono mB mNL d) (cI (fun x_12 M_9 h_11 => cI (fun x_16 M_13 h_15 => cI (fun x_20 M_17 h_19 => cI (fun x_24 M_21 h_23 => And.intro (fun c_37 => (h_23.1 c_37)) (fun c_37 => cI (fun x_28 M_25 h_27 => cI (fun x_32 M_29 h_31 => cI (fun x_36 M_33 h_35 => h_35) h_31) h_27) (h_23.2 c_37))) h_19) h_15) h_11) (h_7.1 c_38))) (fun c_38 => (h_7.2 c_38))) h_3) ((h.2 c_40).1 c_39))) (fun c_39 => ((h.2 c_40).2 c_39)))))
theorem v_X5_descend_1 {d : Nat} {k : mQ} {M : mM} (v1 : Int32) (v2 : Int32) (v3 : Int32) (v4 : Int32) (v5 : Int32) (u6 : mV) (u7 : mV) (u8 : mV) (u9 : mV)
  (h : wpD mB mNL d zX5_offer [mR 5 0 26, mI v4, mI v5] M (fun r_42 M_41 => wV r_42 (
  k none M_41))) :
  jJ kB_X5_descend d k 1 [mR 5 0 26, mI v1, mI v2, mI v3, mI v4, mI v5, u6, u7, u8, u9] [] M := Wt.blk (wpD_mono mB mNL d) (cV (fun M_41 h_43 => h_43) h)
theorem v_X5_descend_4 {d : Nat} {k : mQ} {M : mM} (v1 : Int32) (v2 : Int32) (v3 : Int32) (v4 : Int32) (v5 : Int32) (v7 : Int32) (v8 : Int32) (u9 : mV)
  (h : wpD mB mNL d zX2_kindOf [mR 2 0 27, mI v1] M (fun r_45 M_44 => wI r_45 fun x_47 =>
  wpD mB mNL d zX6_isHarmed [mR 6 0 35, mI x_47, mI v7, mI v8] M_44 (fun r_49 M_48 => wI r_49 fun x_51 =>
    ((x_51 = 0 → wpD mB mNL d zX6_isServed [mR 6 0 35, mI x_47, mI (M_48 26 5), mI v7, mI v8] M_48 (fun r_53 M_52 => wI r_53 fun x_55 =>
        ((x_55 = 0 → jJ kB_X5_descend d k 6 [mR 5 0 26, mI v1, mI v2, mI v3, mI v4, mI v5, mR 6 0 35, mI v7, mI v8, mI x_47] [] M_52) ∧
           (¬ x_55 = 0 → wpD mB mNL d zX6_kindValue [mR 6 0 35, mI 2, mI x_47] M_52 (fun r_57 M_56 => wI r_57 fun x_59 =>
            wpD mB mNL d zX6_kindValue [mR 6 0 35, mI 3, mI x_47] M_56 (fun r_61 M_60 => wI r_61 fun x_63 =>
              wpD mB mNL d zX5_descend [mR 5 0 26, mI (v1 + 1), mI v7, mI (v8 - x_59), mI (v4 ||| (1 <<< (v1 &&& 31))), mI (v5 + x_63)] M_60 (fun r_65 M_64 => wV r_65 (
                jJ kB_X5_descend d k 6 [mR 5 0 26, mI v1, mI v2, mI v3, mI v4, mI v5, mR 6 0 35, mI v7, mI v8, mI x_47] [] M_64)))))))) ∧
       (¬ x_51 = 0 → k none M_48))))) :
  jJ kB_X5_descend d k 4 [mR 5 0 26, mI v1, mI v2, mI v3, mI v4, mI v5, mR 6 0 35, mI v7, mI v8, u9] [] M := Wt.blk (wpD_mono mB mNL d) (cI (fun x_47 M_44 h_46 => cI (fun x_51 M_48 h_50 => And.intro (fun c_68 => Wt.blk (wpD_mono mB mNL d) (cI (fun x_55 M_52 h_54 => And.intro (fun c_67 => (h_54.1 c_67)) (fun c_67 => cI (fun x_59 M_56 h_58 => cI (fun x_63 M_60 h_62 => cV (fun M_64 h_66 => h_66) h_62) h_58) (h_54.2 c_67))) (h_50.1 c_68))) (fun c_68 => (h_50.2 c_68))) h_46) h)
theorem v_X5_descend_6 {d : Nat} {k : mQ} {M : mM} (v1 : Int32) (v2 : Int32) (v3 : Int32) (v4 : Int32) (v5 : Int32) (v7 : Int32) (v8 : Int32) (v9 : Int32)
  (h : wpD mB mNL d zX5_descend [mR 5 0 26, mI (v1 + 1), mI v7, mI v8, mI v4, mI v5] M (fun r_70 M_69 => wV r_70 (
  k none M_69))) :
  jJ kB_X5_descend d k 6 [mR 5 0 26, mI v1, mI v2, mI v3, mI v4, mI v5, mR 6 0 35, mI v7, mI v8, mI v9] [] M := Wt.blk (wpD_mono mB mNL d) (cV (fun M_69 h_71 => h_71) h)
theorem v_X6_springValue_0 {d : Nat} {k : mQ} {M : mM} (o : Nat) (v1 : Int32)
  (h : wpD mB mNL d zX7_cell [mR 50 5 (o + 1), mI v1] M (fun r_2 M_1 => wI r_2 fun x_4 =>
  k (mI x_4) M_1)) :
  wpD mB mNL (d + 1) zX6_springValue [mR 6 0 o, mI v1] M k := (show jJ kB_X6_springValue d k 0 [mR 6 0 o, mI v1] [] M from Wt.blk (wpD_mono mB mNL d) (cI (fun x_4 M_1 h_3 => h_3) h))
theorem v_X6_kindValue_0 {d : Nat} {k : mQ} {M : mM} (o : Nat) (v1 : Int32) (v2 : Int32)
  (h : wpD mB mNL d zX7_cell [mR 50 30 (o + 2), mI ((v1 * 6) + v2)] M (fun r_2 M_1 => wI r_2 fun x_4 =>
  k (mI x_4) M_1)) :
  wpD mB mNL (d + 1) zX6_kindValue [mR 6 0 o, mI v1, mI v2] M k := (show jJ kB_X6_kindValue d k 0 [mR 6 0 o, mI v1, mI v2] [] M from Wt.blk (wpD_mono mB mNL d) (cI (fun x_4 M_1 h_3 => h_3) h))
theorem v_X6_isWanting_0 {d : Nat} {k : mQ} {M : mM} (o : Nat) (v1 : Int32) (v2 : Int32)
  (h : wpD mB mNL d zX6_kindValue [mR 6 0 o, mI 4, mI v1] M (fun r_2 M_1 => wI r_2 fun x_4 =>
  wpD mB mNL d zX7_hasBit [mI x_4, mI v2] M_1 (fun r_6 M_5 => wI r_6 fun x_8 =>
    ((x_8 = 0 ∨ x_8 = 1) ∧ k (mI x_8) M_5)))) :
  wpD mB mNL (d + 1) zX6_isWanting [mR 6 0 o, mI v1, mI v2] M k := (show jJ kB_X6_isWanting d k 0 [mR 6 0 o, mI v1, mI v2] [] M from Wt.blk (wpD_mono mB mNL d) (cI (fun x_4 M_1 h_3 => cI (fun x_8 M_5 h_7 => h_7) h_3) h))
theorem v_X6_heatBehindPipe_0 {d : Nat} {k : mQ} {M : mM} (o : Nat) (v1 : Int32) (v2 : Int32) (v3 : Int32)
  (h : wpD mB mNL d zX6_springValue [mR 6 0 o, mI 2] M (fun r_2 M_1 => wI r_2 fun x_4 =>
  (((x_4 * v2) ≤ v3 → k (mI (if (v3 - ((10 * v1) * v2)) < (x_4 * v2) then (x_4 * v2) else (v3 - ((10 * v1) * v2)))) M_1) ∧
     (¬ (x_4 * v2) ≤ v3 → k (mI v3) M_1)))) :
  wpD mB mNL (d + 1) zX6_heatBehindPipe [mR 6 0 o, mI v1, mI v2, mI v3] M k := (show jJ kB_X6_heatBehindPipe d k 0 [mR 6 0 o, mI v1, mI v2, mI v3, none] [] M from Wt.blk (wpD_mono mB mNL d) (cI (fun x_4 M_1 h_3 => And.intro (fun c_5 => Wt.blk (wpD_mono mB mNL d) (Wt.blk (wpD_mono mB mNL d) ((h_3.1 c_5)))) (fun c_5 => Wt.blk (wpD_mono mB mNL d) ((h_3.2 c_5)))) h))
theorem v_X6_isHarmed_0 {d : Nat} {k : mQ} {M : mM} (o : Nat) (v1 : Int32) (v2 : Int32) (v3 : Int32)
  (h : wpD mB mNL d zX6_kindValue [mR 6 0 o, mI 1, mI v1] M (fun r_2 M_1 => wI r_2 fun x_4 =>
  ((v3 ≤ (x_4 * v2) → k (mI 0) M_1) ∧
     (¬ v3 ≤ (x_4 * v2) → k (mI 1) M_1)))) :
  wpD mB mNL (d + 1) zX6_isHarmed [mR 6 0 o, mI v1, mI v2, mI v3] M k := (show jJ kB_X6_isHarmed d k 0 [mR 6 0 o, mI v1, mI v2, mI v3] [] M from Wt.blk (wpD_mono mB mNL d) (cI (fun x_4 M_1 h_3 => And.intro (fun c_5 => Wt.blk (wpD_mono mB mNL d) (Wt.blk (wpD_mono mB mNL d) (And.intro (Or.inl rfl) (h_3.1 c_5)))) (fun c_5 => Wt.blk (wpD_mono mB mNL d) (And.intro (Or.inr rfl) (h_3.2 c_5)))) h))
theorem v_X6_isServed_0 {d : Nat} {k : mQ} {M : mM} (o : Nat) (v1 : Int32) (v2 : Int32) (v3 : Int32) (v4 : Int32)
  (h : wpD mB mNL d zX6_kindValue [mR 6 0 o, mI 4, mI v1] M (fun r_2 M_1 => wI r_2 fun x_4 =>
  wpD mB mNL d zX7_hasBit [mI x_4, mI v2] M_1 (fun r_6 M_5 => wI r_6 fun x_8 =>
    ((x_8 = 0 → k (mI 0) M_5) ∧
       (¬ x_8 = 0 → wpD mB mNL d zX6_kindValue [mR 6 0 o, mI 0, mI v1] M_5 (fun r_10 M_9 => wI r_10 fun x_12 =>
        ((v4 < (x_12 * v3) → k (mI 0) M_9) ∧
           (¬ v4 < (x_12 * v3) → wpD mB mNL d zX6_kindValue [mR 6 0 o, mI 2, mI v1] M_9 (fun r_14 M_13 => wI r_14 fun x_16 =>
            wpD mB mNL d zX6_springValue [mR 6 0 o, mI 2] M_13 (fun r_18 M_17 => wI r_18 fun x_20 =>
              (((v4 - x_16) < (x_20 * v3) → k (mI 0) M_17) ∧
                 (¬ (v4 - x_16) < (x_20 * v3) → k (mI 1) M_17)))))))))))) :
  wpD mB mNL (d + 1) zX6_isServed [mR 6 0 o, mI v1, mI v2, mI v3, mI v4] M k := (show jJ kB_X6_isServed d k 0 [mR 6 0 o, mI v1, mI v2, mI v3, mI v4] [] M from Wt.blk (wpD_mono mB mNL d) (cI (fun x_4 M_1 h_3 => cI (fun x_8 M_5 h_7 => And.intro (fun c_23 => Wt.blk (wpD_mono mB mNL d) (Wt.blk (wpD_mono mB mNL d) (And.intro (Or.inl rfl) (h_7.1 c_23)))) (fun c_23 => cI (fun x_12 M_9 h_11 => And.intro (fun c_22 => Wt.blk (wpD_mono mB mNL d) (Wt.blk (wpD_mono mB mNL d) (And.intro (Or.inl rfl) (h_11.1 c_22)))) (fun c_22 => cI (fun x_16 M_13 h_15 => cI (fun x_20 M_17 h_19 => And.intro (fun c_21 => Wt.blk (wpD_mono mB mNL d) (Wt.blk (wpD_mono mB mNL d) (And.intro (Or.inl rfl) (h_19.1 c_21)))) (fun c_21 => Wt.blk (wpD_mono mB mNL d) (And.intro (Or.inr rfl) (h_19.2 c_21)))) h_15) (h_11.2 c_22))) (h_7.2 c_23))) h_3) h))
theorem v_X6_copyOf_0 {d : Nat} {k : mQ} {M : mM} (o : Nat) (o1 : Nat)
  (h : wpD mB mNL d zX7_copyRow [mR 50 5 (o1 + 1), mR 50 5 (o + 1)] M (fun r_2 M_1 => wV r_2 (
  wpD mB mNL d zX7_copyRow [mR 50 30 (o1 + 2), mR 50 30 (o + 2)] M_1 (fun r_5 M_4 => wV r_5 (
    wpD mB mNL d zX2_copyOf [mR 2 0 (o + 3), mR 2 0 (o1 + 3)] M_4 (fun r_8 M_7 => wV r_8 (
      wpD mB mNL d zX1_copyOf [mR 1 0 (o + 7), mR 1 0 (o1 + 7)] M_7 (fun r_11 M_10 => wV r_11 (
        k none M_10))))))))) :
  wpD mB mNL (d + 1) zX6_copyOf [mR 6 0 o, mR 6 0 o1] M k := (show jJ kB_X6_copyOf d k 0 [mR 6 0 o, mR 6 0 o1] [] M from Wt.blk (wpD_mono mB mNL d) (cV (fun M_1 h_3 => cV (fun M_4 h_6 => cV (fun M_7 h_9 => cV (fun M_10 h_12 => h_12) h_9) h_6) h_3) h))
theorem v_J6_bitCount_0f7a4_0 {d : Nat} {k : mQ} {M : mM} (v0 : Int32)
  (h : k (mI ((((((((v0 - (((v0.toUInt32 >>> ((1 : Int32).toUInt32 &&& Int32.toUInt32 31)).toInt32) &&& 1431655765)) &&& 858993459) + ((((v0 - (((v0.toUInt32 >>> ((1 : Int32).toUInt32 &&& Int32.toUInt32 31)).toInt32) &&& 1431655765)).toUInt32 >>> ((2 : Int32).toUInt32 &&& Int32.toUInt32 31)).toInt32) &&& 858993459)) + (((((v0 - (((v0.toUInt32 >>> ((1 : Int32).toUInt32 &&& Int32.toUInt32 31)).toInt32) &&& 1431655765)) &&& 858993459) + ((((v0 - (((v0.toUInt32 >>> ((1 : Int32).toUInt32 &&& Int32.toUInt32 31)).toInt32) &&& 1431655765)).toUInt32 >>> ((2 : Int32).toUInt32 &&& Int32.toUInt32 31)).toInt32) &&& 858993459)).toUInt32 >>> ((4 : Int32).toUInt32 &&& Int32.toUInt32 31)).toInt32)) &&& 252645135) + (((((((v0 - (((v0.toUInt32 >>> ((1 : Int32).toUInt32 &&& Int32.toUInt32 31)).toInt32) &&& 1431655765)) &&& 858993459) + ((((v0 - (((v0.toUInt32 >>> ((1 : Int32).toUInt32 &&& Int32.toUInt32 31)).toInt32) &&& 1431655765)).toUInt32 >>> ((2 : Int32).toUInt32 &&& Int32.toUInt32 31)).toInt32) &&& 858993459)) + (((((v0 - (((v0.toUInt32 >>> ((1 : Int32).toUInt32 &&& Int32.toUInt32 31)).toInt32) &&& 1431655765)) &&& 858993459) + ((((v0 - (((v0.toUInt32 >>> ((1 : Int32).toUInt32 &&& Int32.toUInt32 31)).toInt32) &&& 1431655765)).toUInt32 >>> ((2 : Int32).toUInt32 &&& Int32.toUInt32 31)).toInt32) &&& 858993459)).toUInt32 >>> ((4 : Int32).toUInt32 &&& Int32.toUInt32 31)).toInt32)) &&& 252645135).toUInt32 >>> ((8 : Int32).toUInt32 &&& Int32.toUInt32 31)).toInt32)) + ((((((((v0 - (((v0.toUInt32 >>> ((1 : Int32).toUInt32 &&& Int32.toUInt32 31)).toInt32) &&& 1431655765)) &&& 858993459) + ((((v0 - (((v0.toUInt32 >>> ((1 : Int32).toUInt32 &&& Int32.toUInt32 31)).toInt32) &&& 1431655765)).toUInt32 >>> ((2 : Int32).toUInt32 &&& Int32.toUInt32 31)).toInt32) &&& 858993459)) + (((((v0 - (((v0.toUInt32 >>> ((1 : Int32).toUInt32 &&& Int32.toUInt32 31)).toInt32) &&& 1431655765)) &&& 858993459) + ((((v0 - (((v0.toUInt32 >>> ((1 : Int32).toUInt32 &&& Int32.toUInt32 31)).toInt32) &&& 1431655765)).toUInt32 >>> ((2 : Int32).toUInt32 &&& Int32.toUInt32 31)).toInt32) &&& 858993459)).toUInt32 >>> ((4 : Int32).toUInt32 &&& Int32.toUInt32 31)).toInt32)) &&& 252645135) + (((((((v0 - (((v0.toUInt32 >>> ((1 : Int32).toUInt32 &&& Int32.toUInt32 31)).toInt32) &&& 1431655765)) &&& 858993459) + ((((v0 - (((v0.toUInt32 >>> ((1 : Int32).toUInt32 &&& Int32.toUInt32 31)).toInt32) &&& 1431655765)).toUInt32 >>> ((2 : Int32).toUInt32 &&& Int32.toUInt32 31)).toInt32) &&& 858993459)) + (((((v0 - (((v0.toUInt32 >>> ((1 : Int32).toUInt32 &&& Int32.toUInt32 31)).toInt32) &&& 1431655765)) &&& 858993459) + ((((v0 - (((v0.toUInt32 >>> ((1 : Int32).toUInt32 &&& Int32.toUInt32 31)).toInt32) &&& 1431655765)).toUInt32 >>> ((2 : Int32).toUInt32 &&& Int32.toUInt32 31)).toInt32) &&& 858993459)).toUInt32 >>> ((4 : Int32).toUInt32 &&& Int32.toUInt32 31)).toInt32)) &&& 252645135).toUInt32 >>> ((8 : Int32).toUInt32 &&& Int32.toUInt32 31)).toInt32)).toUInt32 >>> ((16 : Int32).toUInt32 &&& Int32.toUInt32 31)).toInt32)) &&& 63)) M) :
  wpD mB mNL (d + 1) zJ6_bitCount_0f7a4 [mI v0] M k := (show jJ kB_J6_bitCount_0f7a4 d k 0 [mI v0] [] M from Wt.blk (wpD_mono mB mNL d) (h))
end
section
theorem v_X7_spring_0 {d : Nat} {k : mQ} {M : mM} (v1 : Int32) (v2 : Int32)
  (h : ((v1 < 0 → k (mI (-1)) M) ∧
   (¬ v1 < 0 → ((v1 ≤ 4 → wpD mB mNL d zX7_cell [mR 51 5 1, mI v1] M (fun r_2 M_1 => wI r_2 fun x_4 =>
      ((v2 < x_4 → k (mI (-2)) M_1) ∧
         (¬ v2 < x_4 → wpD mB mNL d zX7_cell [mR 51 5 2, mI v1] M_1 (fun r_6 M_5 => wI r_6 fun x_8 =>
          ((v2 ≤ x_8 → wpD mB mNL d zX7_exchange [mR 50 5 36, mI v1, mI v2] M_5 (fun r_10 M_9 => wI r_10 fun x_12 =>
              k (mI x_12) M_9)) ∧
             (¬ v2 ≤ x_8 → k (mI (-2)) M_5))))))) ∧
     (¬ v1 ≤ 4 → k (mI (-1)) M))))) :
  wpD mB mNL (d + 1) zX7_spring [mR 7 0 14, mI v1, mI v2] M k := (show jJ kB_X7_spring d k 0 [mR 7 0 14, mI v1, mI v2] [] M from Wt.blk (wpD_mono mB mNL d) (And.intro (fun c_16 => Wt.blk (wpD_mono mB mNL d) ((h.1 c_16))) (fun c_16 => And.intro (fun c_15 => Wt.blk (wpD_mono mB mNL d) (cI (fun x_4 M_1 h_3 => And.intro (fun c_14 => Wt.blk (wpD_mono mB mNL d) ((h_3.1 c_14))) (fun c_14 => cI (fun x_8 M_5 h_7 => And.intro (fun c_13 => Wt.blk (wpD_mono mB mNL d) (cI (fun x_12 M_9 h_11 => h_11) (h_7.1 c_13))) (fun c_13 => Wt.blk (wpD_mono mB mNL d) ((h_7.2 c_13)))) (h_3.2 c_14))) ((h.2 c_16).1 c_15))) (fun c_15 => Wt.blk (wpD_mono mB mNL d) (((h.2 c_16).2 c_15))))))
theorem v_X7_kind_0 {d : Nat} {k : mQ} {M : mM} (v1 : Int32) (v2 : Int32) (v3 : Int32)
  (h : wpD mB mNL d zX7_isNoKind [mI v1] M (fun r_2 M_1 => wI r_2 fun x_4 =>
  ((x_4 = 0 → ((v2 < 0 → k (mI (-2)) M_1) ∧
       (¬ v2 < 0 → ((4 < v2 → k (mI (-2)) M_1) ∧
         (¬ 4 < v2 → ((v3 < 0 → k (mI (-2)) M_1) ∧
           (¬ v3 < 0 → wpD mB mNL d zX7_cell [mR 51 5 4, mI v2] M_1 (fun r_6 M_5 => wI r_6 fun x_8 =>
            ((v3 ≤ x_8 → wpD mB mNL d zX7_exchange [mR 50 30 37, mI ((v2 * 6) + v1), mI v3] M_5 (fun r_10 M_9 => wI r_10 fun x_12 =>
                k (mI x_12) M_9)) ∧
               (¬ v3 ≤ x_8 → k (mI (-2)) M_5)))))))))) ∧
     (¬ x_4 = 0 → k (mI (-1)) M_1)))) :
  wpD mB mNL (d + 1) zX7_kind [mR 7 0 14, mI v1, mI v2, mI v3] M k := (show jJ kB_X7_kind d k 0 [mR 7 0 14, mI v1, mI v2, mI v3] [] M from Wt.blk (wpD_mono mB mNL d) (cI (fun x_4 M_1 h_3 => And.intro (fun c_17 => Wt.blk (wpD_mono mB mNL d) (And.intro (fun c_16 => Wt.blk (wpD_mono mB mNL d) (((h_3.1 c_17).1 c_16))) (fun c_16 => And.intro (fun c_15 => Wt.blk (wpD_mono mB mNL d) ((((h_3.1 c_17).2 c_16).1 c_15))) (fun c_15 => And.intro (fun c_14 => Wt.blk (wpD_mono mB mNL d) (((((h_3.1 c_17).2 c_16).2 c_15).1 c_14))) (fun c_14 => cI (fun x_8 M_5 h_7 => And.intro (fun c_13 => Wt.blk (wpD_mono mB mNL d) (cI (fun x_12 M_9 h_11 => h_11) (h_7.1 c_13))) (fun c_13 => Wt.blk (wpD_mono mB mNL d) ((h_7.2 c_13)))) ((((h_3.1 c_17).2 c_16).2 c_15).2 c_14)))))) (fun c_17 => (h_3.2 c_17))) h))
theorem v_X7_say_0 {d : Nat} {k : mQ} {M : mM} (v1 : Int32)
  (h : ((v1 < 33 → k (mI (-2)) M) ∧
   (¬ v1 < 33 → ((v1 ≤ 126 → wpD mB mNL d zX4_addSign [mR 4 0 15, mI v1] M (fun r_2 M_1 => wI r_2 fun x_4 =>
      ((x_4 = 0 → k (mI (-4)) M_1) ∧
         (¬ x_4 = 0 → k (mI (M_1 15 0)) M_1)))) ∧
     (¬ v1 ≤ 126 → k (mI (-2)) M))))) :
  wpD mB mNL (d + 1) zX7_say [mR 7 0 14, mI v1] M k := (show jJ kB_X7_say d k 0 [mR 7 0 14, mI v1] [] M from Wt.blk (wpD_mono mB mNL d) (And.intro (fun c_7 => Wt.blk (wpD_mono mB mNL d) ((h.1 c_7))) (fun c_7 => And.intro (fun c_6 => Wt.blk (wpD_mono mB mNL d) (cI (fun x_4 M_1 h_3 => And.intro (fun c_5 => Wt.blk (wpD_mono mB mNL d) (Wt.blk (wpD_mono mB mNL d) ((h_3.1 c_5)))) (fun c_5 => Wt.blk (wpD_mono mB mNL d) ((h_3.2 c_5)))) ((h.2 c_7).1 c_6))) (fun c_6 => Wt.blk (wpD_mono mB mNL d) (((h.2 c_7).2 c_6))))))
theorem v_X7_wipe_0 {d : Nat} {k : mQ} {M : mM} 
  (h : wpD mB mNL d zX4_clear [mR 4 0 15] M (fun r_2 M_1 => wI r_2 fun x_4 =>
  k (mI x_4) M_1)) :
  wpD mB mNL (d + 1) zX7_wipe [mR 7 0 14] M k := (show jJ kB_X7_wipe d k 0 [mR 7 0 14] [] M from Wt.blk (wpD_mono mB mNL d) (cI (fun x_4 M_1 h_3 => h_3) h))
theorem v_X7_fault_0 {d : Nat} {k : mQ} {M : mM} (v1 : Int32)
  (h : ((¬ v1 = 0 → ((¬ v1 = 1 → k (mI (-2)) M) ∧
     (v1 = 1 → wpD mB mNL d zX4_readDay [mR 4 0 15, mR 2 0 38] M (fun r_2 M_1 => wI r_2 fun x_4 =>
      k (mI x_4) M_1)))) ∧
   (v1 = 0 → wpD mB mNL d zX4_readLane [mR 4 0 15] M (fun r_7 M_6 => wI r_7 fun x_9 =>
    k (mI x_9) M_6)))) :
  wpD mB mNL (d + 1) zX7_fault [mR 7 0 14, mI v1] M k := (show jJ kB_X7_fault d k 0 [mR 7 0 14, mI v1] [] M from Wt.blk (wpD_mono mB mNL d) (And.intro (fun c_10 => Wt.blk (wpD_mono mB mNL d) (And.intro (fun c_5 => Wt.blk (wpD_mono mB mNL d) (Wt.blk (wpD_mono mB mNL d) (((h.1 c_10).1 c_5)))) (fun c_5 => cI (fun x_4 M_1 h_3 => Wt.blk (wpD_mono mB mNL d) (h_3)) ((h.1 c_10).2 c_5)))) (fun c_10 => cI (fun x_9 M_6 h_8 => h_8) (h.2 c_10))))
theorem v_X7_lane_0 {d : Nat} {k : mQ} {M : mM} 
  (h : wpD mB mNL d zX4_readLane [mR 4 0 15] M (fun r_2 M_1 => wI r_2 fun x_4 =>
  ((x_4 = (-6) → wpD mB mNL d zX2_copyOf [mR 2 0 38, mR 2 0 16] M_1 (fun r_6 M_5 => wV r_6 (
      wpD mB mNL d zX1_clear [mR 1 0 42] M_5 (fun r_9 M_8 => wI r_9 fun x_11 =>
        wpD mB mNL d zX4_clear [mR 4 0 15] M_8 (fun r_13 M_12 => wI r_13 fun x_15 =>
          k (mI (M_12 38 0)) M_12))))) ∧
     (¬ x_4 = (-6) → k (mI (-5)) M_1)))) :
  wpD mB mNL (d + 1) zX7_lane [mR 7 0 14] M k := (show jJ kB_X7_lane d k 0 [mR 7 0 14] [] M from Wt.blk (wpD_mono mB mNL d) (cI (fun x_4 M_1 h_3 => And.intro (fun c_16 => Wt.blk (wpD_mono mB mNL d) (cV (fun M_5 h_7 => cI (fun x_11 M_8 h_10 => cI (fun x_15 M_12 h_14 => h_14) h_10) h_7) (h_3.1 c_16))) (fun c_16 => (h_3.2 c_16))) h))
theorem v_X7_house_0 {d : Nat} {k : mQ} {M : mM} (v1 : Int32) (v2 : Int32)
  (h : wpD mB mNL d zX7_isNoHouse [mR 7 0 14, mI v1] M (fun r_2 M_1 => wI r_2 fun x_4 =>
  ((x_4 = 0 → ((v2.toInt < 0 ∨ 2 < v2.toInt → k (mI (-2)) M_1) ∧
       ((v2.toInt = 0 → wpD mB mNL d zX2_kindOf [mR 2 0 38, mI v1] M_1 (fun r_6 M_5 => wI r_6 fun x_8 =>
        k (mI x_8) M_5)) ∧
       ((v2.toInt = 1 → wpD mB mNL d zX2_lossAheadOf [mR 2 0 38, mI v1] M_1 (fun r_10 M_9 => wI r_10 fun x_12 =>
        k (mI x_12) M_9)) ∧
       ((v2.toInt = 2 → wpD mB mNL d zX2_brookAheadOf [mR 2 0 38, mI v1] M_1 (fun r_14 M_13 => wI r_14 fun x_16 =>
        k (mI x_16) M_13)) ∧
       True))))) ∧
     (¬ x_4 = 0 → k (mI (-1)) M_1)))) :
  wpD mB mNL (d + 1) zX7_house [mR 7 0 14, mI v1, mI v2] M k := (show jJ kB_X7_house d k 0 [mR 7 0 14, mI v1, mI v2] [] M from Wt.blk (wpD_mono mB mNL d) (cI (fun x_4 M_1 h_3 => And.intro (fun c_18 => Wt.blk (wpD_mono mB mNL d) (And.intro (fun c_17 => Wt.blk (wpD_mono mB mNL d) (((h_3.1 c_18).1 c_17))) (And.intro (fun c_17 => Wt.blk (wpD_mono mB mNL d) (cI (fun x_8 M_5 h_7 => h_7) ((h_3.1 c_18).2.1 c_17))) (And.intro (fun c_17 => Wt.blk (wpD_mono mB mNL d) (cI (fun x_12 M_9 h_11 => h_11) ((h_3.1 c_18).2.2.1 c_17))) (And.intro (fun c_17 => Wt.blk (wpD_mono mB mNL d) (cI (fun x_16 M_13 h_15 => h_15) ((h_3.1 c_18).2.2.2.1 c_17))) (trivial)))))) (fun c_18 => (h_3.2 c_18))) h))
theorem v_X7_at_0 {d : Nat} {k : mQ} {M : mM} (v1 : Int32) (v2 : Int32) (v3 : Int32) (v4 : Int32) (v5 : Int32)
  (h : ((v4 < 0 → k (mI (-1)) M) ∧
   (¬ v4 < 0 → ((v4 ≤ (M 38 0) → wpD mB mNL d zX7_isNoHour [mI v1] M (fun r_2 M_1 => wI r_2 fun x_4 =>
      ((¬ x_4 = 0 → k (mI (-2)) M_1) ∧
         (x_4 = 0 → wpD mB mNL d zX7_areNoBrooks [mR 7 0 14, mI v2] M_1 (fun r_6 M_5 => wI r_6 fun x_8 =>
          ((¬ x_8 = 0 → k (mI (-2)) M_5) ∧
             (x_8 = 0 → wpD mB mNL d zX7_areNoDraws [mR 7 0 14, mI v3] M_5 (fun r_10 M_9 => wI r_10 fun x_12 =>
              ((¬ x_12 = 0 → k (mI (-2)) M_9) ∧
                 (x_12 = 0 → ((v5 < 0 → k (mI (-2)) M_9) ∧
                   (¬ v5 < 0 → ((v5 ≤ 1 → wpD mB mNL d zX6_springValue [mR 6 0 35, mI 1] M_9 (fun r_14 M_13 => wI r_14 fun x_16 =>
                      wpD mB mNL d zX0_follow [mR 0 0 23, mI x_16, mI v1, mI v2, mI v3] M_13 (fun r_18 M_17 => wV r_18 (
                        ((¬ v5 = 0 → wpD mB mNL d zX0_heatAt [mR 0 0 23, mI v4] M_17 (fun r_21 M_20 => wI r_21 fun x_23 =>
                            k (mI x_23) M_20)) ∧
                           (v5 = 0 → wpD mB mNL d zX0_litresAt [mR 0 0 23, mI v4] M_17 (fun r_25 M_24 => wI r_25 fun x_27 =>
                            k (mI x_27) M_24))))))) ∧
                     (¬ v5 ≤ 1 → k (mI (-2)) M_9)))))))))))))) ∧
     (¬ v4 ≤ (M 38 0) → k (mI (-1)) M))))) :
  wpD mB mNL (d + 1) zX7_at [mR 7 0 14, mI v1, mI v2, mI v3, mI v4, mI v5] M k := (show jJ kB_X7_at d k 0 [mR 7 0 14, mI v1, mI v2, mI v3, mI v4, mI v5] [] M from Wt.blk (wpD_mono mB mNL d) (And.intro (fun c_35 => Wt.blk (wpD_mono mB mNL d) ((h.1 c_35))) (fun c_35 => And.intro (fun c_34 => Wt.blk (wpD_mono mB mNL d) (cI (fun x_4 M_1 h_3 => And.intro (fun c_33 => Wt.blk (wpD_mono mB mNL d) ((h_3.1 c_33))) (fun c_33 => cI (fun x_8 M_5 h_7 => And.intro (fun c_32 => Wt.blk (wpD_mono mB mNL d) ((h_7.1 c_32))) (fun c_32 => cI (fun x_12 M_9 h_11 => And.intro (fun c_31 => Wt.blk (wpD_mono mB mNL d) ((h_11.1 c_31))) (fun c_31 => And.intro (fun c_30 => Wt.blk (wpD_mono mB mNL d) (((h_11.2 c_31).1 c_30))) (fun c_30 => And.intro (fun c_29 => Wt.blk (wpD_mono mB mNL d) (cI (fun x_16 M_13 h_15 => cV (fun M_17 h_19 => And.intro (fun c_28 => Wt.blk (wpD_mono mB mNL d) (cI (fun x_23 M_20 h_22 => Wt.blk (wpD_mono mB mNL d) (h_22)) (h_19.1 c_28))) (fun c_28 => cI (fun x_27 M_24 h_26 => Wt.blk (wpD_mono mB mNL d) (h_26)) (h_19.2 c_28))) h_15) (((h_11.2 c_31).2 c_30).1 c_29))) (fun c_29 => Wt.blk (wpD_mono mB mNL d) ((((h_11.2 c_31).2 c_30).2 c_29)))))) (h_7.2 c_32))) (h_3.2 c_33))) ((h.2 c_35).1 c_34))) (fun c_34 => Wt.blk (wpD_mono mB mNL d) (((h.2 c_35).2 c_34))))))
theorem v_X7_run_0 {d : Nat} {k : mQ} {M : mM} (v1 : Int32) (v2 : Int32) (v3 : Int32) (v4 : Int32)
  (h : wpD mB mNL d zX7_isNoHour [mI v1] M (fun r_2 M_1 => wI r_2 fun x_4 =>
  ((¬ x_4 = 0 → k (mI (-2)) M_1) ∧
     (x_4 = 0 → wpD mB mNL d zX7_areNoBrooks [mR 7 0 14, mI v2] M_1 (fun r_6 M_5 => wI r_6 fun x_8 =>
      ((¬ x_8 = 0 → k (mI (-2)) M_5) ∧
         (x_8 = 0 → wpD mB mNL d zX7_areNoDraws [mR 7 0 14, mI v3] M_5 (fun r_10 M_9 => wI r_10 fun x_12 =>
          ((x_12 = 0 → wpD mB mNL d zX6_springValue [mR 6 0 35, mI 1] M_9 (fun r_14 M_13 => wI r_14 fun x_16 =>
              wpD mB mNL d zX0_follow [mR 0 0 23, mI x_16, mI v1, mI v2, mI v3] M_13 (fun r_18 M_17 => wV r_18 (
                ((v4.toInt < 0 ∨ 3 < v4.toInt → k (mI (-2)) M_17) ∧
                   ((v4.toInt = 0 → k (mI (M_17 23 0)) M_17) ∧
                   ((v4.toInt = 1 → k (mI (M_17 23 1)) M_17) ∧
                   ((v4.toInt = 2 → k (mI (M_17 23 3)) M_17) ∧
                   ((v4.toInt = 3 → k (mI (M_17 23 4)) M_17) ∧
                   True))))))))) ∧
             (¬ x_12 = 0 → k (mI (-2)) M_9)))))))))) :
  wpD mB mNL (d + 1) zX7_run [mR 7 0 14, mI v1, mI v2, mI v3, mI v4] M k := (show jJ kB_X7_run d k 0 [mR 7 0 14, mI v1, mI v2, mI v3, mI v4] [] M from Wt.blk (wpD_mono mB mNL d) (cI (fun x_4 M_1 h_3 => And.intro (fun c_23 => Wt.blk (wpD_mono mB mNL d) ((h_3.1 c_23))) (fun c_23 => cI (fun x_8 M_5 h_7 => And.intro (fun c_22 => Wt.blk (wpD_mono mB mNL d) ((h_7.1 c_22))) (fun c_22 => cI (fun x_12 M_9 h_11 => And.intro (fun c_21 => Wt.blk (wpD_mono mB mNL d) (cI (fun x_16 M_13 h_15 => cV (fun M_17 h_19 => And.intro (fun c_20 => Wt.blk (wpD_mono mB mNL d) ((h_19.1 c_20))) (And.intro (fun c_20 => Wt.blk (wpD_mono mB mNL d) ((h_19.2.1 c_20))) (And.intro (fun c_20 => Wt.blk (wpD_mono mB mNL d) ((h_19.2.2.1 c_20))) (And.intro (fun c_20 => Wt.blk (wpD_mono mB mNL d) ((h_19.2.2.2.1 c_20))) (And.intro (fun c_20 => Wt.blk (wpD_mono mB mNL d) ((h_19.2.2.2.2.1 c_20))) (trivial)))))) h_15) (h_11.1 c_21))) (fun c_21 => Wt.blk (wpD_mono mB mNL d) ((h_11.2 c_21)))) (h_7.2 c_22))) (h_3.2 c_23))) h))
theorem v_X7_judge_0 {d : Nat} {k : mQ} {M : mM} (v1 : Int32)
  (h : ((v1 < 0 → k (mI (-2)) M) ∧
   (¬ v1 < 0 → ((v1 ≤ 1 → wpD mB mNL d zX4_readDay [mR 4 0 15, mR 2 0 38] M (fun r_2 M_1 => wI r_2 fun x_4 =>
      ((x_4 = (-6) → jJ kB_X7_judge d k 4 [mR 7 0 14, mI v1, mI 0] [] M_1) ∧
         (¬ x_4 = (-6) → k (mI (-5)) M_1)))) ∧
     (¬ v1 ≤ 1 → k (mI (-2)) M))))) :
  wpD mB mNL (d + 1) zX7_judge [mR 7 0 14, mI v1] M k := (show jJ kB_X7_judge d k 0 [mR 7 0 14, mI v1, none] [] M from Wt.blk (wpD_mono mB mNL d) (And.intro (fun c_7 => Wt.blk (wpD_mono mB mNL d) ((h.1 c_7))) (fun c_7 => And.intro (fun c_6 => Wt.blk (wpD_mono mB mNL d) (cI (fun x_4 M_1 h_3 => And.intro (fun c_5 => Wt.blk (wpD_mono mB mNL d) ((h_3.1 c_5))) (fun c_5 => (h_3.2 c_5))) ((h.2 c_7).1 c_6))) (fun c_6 => Wt.blk (wpD_mono mB mNL d) (((h.2 c_7).2 c_6))))))
theorem v_X7_judge_4 {d : Nat} {k : mQ} {M : mM} (v1 : Int32) (v2 : Int32)
  (h : ((6 ≤ v2 → k (mI (-6)) M) ∧
   (¬ 6 ≤ v2 → wpD mB mNL d zX6_springValue [mR 6 0 35, mI 1] M (fun r_9 M_8 => wI r_9 fun x_11 =>
    wpD mB mNL d zX4_brooksIn [mR 4 0 15, mI v2] M_8 (fun r_13 M_12 => wI r_13 fun x_15 =>
      wpD mB mNL d zX4_drawsIn [mR 4 0 15, mI v2] M_12 (fun r_17 M_16 => wI r_17 fun x_19 =>
        wpD mB mNL d zX0_follow [mR 0 0 23, mI x_11, mI v2, mI x_15, mI x_19] M_16 (fun r_21 M_20 => wV r_21 (
          (((M_20 23 2) = 0 → jJ kB_X7_judge d k 4 [mR 7 0 14, mI v1, mI (v2 + 1)] [] M_20) ∧
             (¬ (M_20 23 2) = 0 → ((¬ v1 = 0 → wpD mB mNL d zX7_lowestBit [mI (M_20 23 2)] M_20 (fun r_24 M_23 => wI r_24 fun x_26 =>
                k (mI x_26) M_23)) ∧
               (v1 = 0 → k (mI v2) M_20)))))))))))) :
  jJ kB_X7_judge d k 4 [mR 7 0 14, mI v1, mI v2] [] M := Wt.blk (wpD_mono mB mNL d) (And.intro (fun c_29 => Wt.blk (wpD_mono mB mNL d) ((h.1 c_29))) (fun c_29 => cI (fun x_11 M_8 h_10 => cI (fun x_15 M_12 h_14 => cI (fun x_19 M_16 h_18 => cV (fun M_20 h_22 => And.intro (fun c_28 => Wt.blk (wpD_mono mB mNL d) ((h_22.1 c_28))) (fun c_28 => And.intro (fun c_27 => Wt.blk (wpD_mono mB mNL d) (cI (fun x_26 M_23 h_25 => Wt.blk (wpD_mono mB mNL d) (h_25)) ((h_22.2 c_28).1 c_27))) (fun c_27 => Wt.blk (wpD_mono mB mNL d) (((h_22.2 c_28).2 c_27))))) h_18) h_14) h_10) (h.2 c_29)))
theorem v_X7_best_0 {d : Nat} {k : mQ} {M : mM} (v1 : Int32) (v2 : Int32)
  (h : wpD mB mNL d zX7_isNoHour [mI v1] M (fun r_2 M_1 => wI r_2 fun x_4 =>
  ((¬ x_4 = 0 → k (mI (-2)) M_1) ∧
     (x_4 = 0 → ((v2 < 0 → k (mI (-2)) M_1) ∧
       (¬ v2 < 0 → ((v2 ≤ 2 → wpD mB mNL d zX7_planAsItIs [mR 7 0 14, mI v1] M_1 (fun r_6 M_5 => wV r_6 (
          (((M_5 26 1) = (-6) → k (mI (M_5 26 1)) M_5) ∧
             (¬ (M_5 26 1) = (-6) → ((¬ v2 = 0 → ((¬ v2 = 1 → k (mI (M_5 26 3)) M_5) ∧
                 (v2 = 1 → k (mI (M_5 26 2)) M_5))) ∧
               (v2 = 0 → k (mI (M_5 26 1)) M_5))))))) ∧
         (¬ v2 ≤ 2 → k (mI (-2)) M_1)))))))) :
  wpD mB mNL (d + 1) zX7_best [mR 7 0 14, mI v1, mI v2] M k := (show jJ kB_X7_best d k 0 [mR 7 0 14, mI v1, mI v2] [] M from Wt.blk (wpD_mono mB mNL d) (cI (fun x_4 M_1 h_3 => And.intro (fun c_13 => Wt.blk (wpD_mono mB mNL d) ((h_3.1 c_13))) (fun c_13 => And.intro (fun c_12 => Wt.blk (wpD_mono mB mNL d) (((h_3.2 c_13).1 c_12))) (fun c_12 => And.intro (fun c_11 => Wt.blk (wpD_mono mB mNL d) (cV (fun M_5 h_7 => And.intro (fun c_10 => Wt.blk (wpD_mono mB mNL d) ((h_7.1 c_10))) (fun c_10 => And.intro (fun c_9 => Wt.blk (wpD_mono mB mNL d) (And.intro (fun c_8 => Wt.blk (wpD_mono mB mNL d) (Wt.blk (wpD_mono mB mNL d) ((((h_7.2 c_10).1 c_9).1 c_8)))) (fun c_8 => Wt.blk (wpD_mono mB mNL d) ((((h_7.2 c_10).1 c_9).2 c_8))))) (fun c_9 => Wt.blk (wpD_mono mB mNL d) (((h_7.2 c_10).2 c_9))))) (((h_3.2 c_13).2 c_12).1 c_11))) (fun c_11 => Wt.blk (wpD_mono mB mNL d) ((((h_3.2 c_13).2 c_12).2 c_11)))))) h))
theorem v_X7_moss_0 {d : Nat} {k : mQ} {M : mM} (v1 : Int32) (v2 : Int32) (v3 : Int32)
  (h : wpD mB mNL d zX7_isNoHour [mI v1] M (fun r_2 M_1 => wI r_2 fun x_4 =>
  ((¬ x_4 = 0 → k (mI (-2)) M_1) ∧
     (x_4 = 0 → ((v2 < 0 → k (mI (-2)) M_1) ∧
       (¬ v2 < 0 → ((8 < v2 → k (mI (-2)) M_1) ∧
         (¬ 8 < v2 → ((v3 < 0 → k (mI (-2)) M_1) ∧
           (¬ v3 < 0 → ((v3 ≤ 1 → wpD mB mNL d zX7_searchMoss [mR 7 0 14, mI v1, mI v2] M_1 (fun r_6 M_5 => wI r_6 fun x_8 =>
              ((¬ v3 = 0 → k (mI (M_5 26 1)) M_5) ∧
                 (v3 = 0 → k (mI x_8) M_5)))) ∧
             (¬ v3 ≤ 1 → k (mI (-2)) M_1)))))))))))) :
  wpD mB mNL (d + 1) zX7_moss [mR 7 0 14, mI v1, mI v2, mI v3] M k := (show jJ kB_X7_moss d k 0 [mR 7 0 14, mI v1, mI v2, mI v3, none] [] M from Wt.blk (wpD_mono mB mNL d) (cI (fun x_4 M_1 h_3 => And.intro (fun c_14 => Wt.blk (wpD_mono mB mNL d) ((h_3.1 c_14))) (fun c_14 => And.intro (fun c_13 => Wt.blk (wpD_mono mB mNL d) (((h_3.2 c_14).1 c_13))) (fun c_13 => And.intro (fun c_12 => Wt.blk (wpD_mono mB mNL d) ((((h_3.2 c_14).2 c_13).1 c_12))) (fun c_12 => And.intro (fun c_11 => Wt.blk (wpD_mono mB mNL d) (((((h_3.2 c_14).2 c_13).2 c_12).1 c_11))) (fun c_11 => And.intro (fun c_10 => Wt.blk (wpD_mono mB mNL d) (cI (fun x_8 M_5 h_7 => And.intro (fun c_9 => Wt.blk (wpD_mono mB mNL d) (Wt.blk (wpD_mono mB mNL d) ((h_7.1 c_9)))) (fun c_9 => Wt.blk (wpD_mono mB mNL d) ((h_7.2 c_9)))) (((((h_3.2 c_14).2 c_13).2 c_12).2 c_11).1 c_10))) (fun c_10 => Wt.blk (wpD_mono mB mNL d) ((((((h_3.2 c_14).2 c_13).2 c_12).2 c_11).2 c_10)))))))) h))
theorem v_X7_cools_0 {d : Nat} {k : mQ} {M : mM} (v1 : Int32) (v2 : Int32) (v3 : Int32)
  (h : wpD mB mNL d zX7_isNoHour [mI v1] M (fun r_2 M_1 => wI r_2 fun x_4 =>
  ((¬ x_4 = 0 → k (mI (-2)) M_1) ∧
     (x_4 = 0 → wpD mB mNL d zX7_areNoBrooks [mR 7 0 14, mI v2] M_1 (fun r_6 M_5 => wI r_6 fun x_8 =>
      ((¬ x_8 = 0 → k (mI (-2)) M_5) ∧
         (x_8 = 0 → wpD mB mNL d zX7_areNoDraws [mR 7 0 14, mI v3] M_5 (fun r_10 M_9 => wI r_10 fun x_12 =>
          ((x_12 = 0 → jJ kB_X7_cools d k 3 [mR 7 0 14, mI v1, mI v2, mI v3, mI 0] [] M_9) ∧
             (¬ x_12 = 0 → k (mI (-2)) M_9)))))))))) :
  wpD mB mNL (d + 1) zX7_cools [mR 7 0 14, mI v1, mI v2, mI v3] M k := (show jJ kB_X7_cools d k 0 [mR 7 0 14, mI v1, mI v2, mI v3, none] [] M from Wt.blk (wpD_mono mB mNL d) (cI (fun x_4 M_1 h_3 => And.intro (fun c_15 => Wt.blk (wpD_mono mB mNL d) ((h_3.1 c_15))) (fun c_15 => cI (fun x_8 M_5 h_7 => And.intro (fun c_14 => Wt.blk (wpD_mono mB mNL d) ((h_7.1 c_14))) (fun c_14 => cI (fun x_12 M_9 h_11 => And.intro (fun c_13 => Wt.blk (wpD_mono mB mNL d) ((h_11.1 c_13))) (fun c_13 => Wt.blk (wpD_mono mB mNL d) ((h_11.2 c_13)))) (h_7.2 c_14))) (h_3.2 c_15))) h))
theorem v_X7_cools_3 {d : Nat} {k : mQ} {M : mM} (v1 : Int32) (v2 : Int32) (v3 : Int32) (v4 : Int32)
  (h : ((1000 < v4 → k (mI (-6)) M) ∧
   (¬ 1000 < v4 → wpD mB mNL d zX0_follow [mR 0 0 23, mI v4, mI v1, mI v2, mI v3] M (fun r_17 M_16 => wV r_17 (
    ((¬ (M_16 23 2) = 0 → jJ kB_X7_cools d k 3 [mR 7 0 14, mI v1, mI v2, mI v3, mI (v4 + 1)] [] M_16) ∧
       ((M_16 23 2) = 0 → k (mI v4) M_16))))))) :
  jJ kB_X7_cools d k 3 [mR 7 0 14, mI v1, mI v2, mI v3, mI v4] [] M := Wt.blk (wpD_mono mB mNL d) (And.intro (fun c_20 => Wt.blk (wpD_mono mB mNL d) ((h.1 c_20))) (fun c_20 => cV (fun M_16 h_18 => And.intro (fun c_19 => Wt.blk (wpD_mono mB mNL d) ((h_18.1 c_19))) (fun c_19 => (h_18.2 c_19))) (h.2 c_20)))
theorem v_X7_put_0 {d : Nat} {k : mQ} {M : mM} (v1 : Int32) (v2 : Int32) (v3 : Int32)
  (h : wpD mB mNL d zX7_isNoKind [mI v2] M (fun r_2 M_1 => wI r_2 fun x_4 =>
  ((¬ x_4 = 0 → k (mI (-1)) M_1) ∧
     (x_4 = 0 → ((v3 < 0 → k (mI (-1)) M_1) ∧
       (¬ v3 < 0 → ((v3 ≤ (M_1 38 0) → wpD mB mNL d zX7_isNoHour [mI v1] M_1 (fun r_6 M_5 => wI r_6 fun x_8 =>
          ((x_8 = 0 → wpD mB mNL d zX2_isFull [mR 2 0 38] M_5 (fun r_10 M_9 => wI r_10 fun x_12 =>
              ((x_12 = 0 → wpD mB mNL d zX5_forgetPlans [mR 5 0 26] M_9 (fun r_14 M_13 => wV r_14 (
                  wpD mB mNL d zX2_copyOf [mR 2 0 27, mR 2 0 38] M_13 (fun r_17 M_16 => wV r_17 (
                    wpD mB mNL d zX2_insertHouse [mR 2 0 27, mI v2, mI v3] M_16 (fun r_20 M_19 => wV r_20 (
                      wpD mB mNL d zX5_improve [mR 5 0 26, mI v1] M_19 (fun r_23 M_22 => wI r_23 fun x_25 =>
                        k (mI (M_22 26 1)) M_22)))))))) ∧
                 (¬ x_12 = 0 → k (mI (-4)) M_9)))) ∧
             (¬ x_8 = 0 → k (mI (-2)) M_5)))) ∧
         (¬ v3 ≤ (M_1 38 0) → k (mI (-1)) M_1)))))))) :
  wpD mB mNL (d + 1) zX7_put [mR 7 0 14, mI v1, mI v2, mI v3] M k := (show jJ kB_X7_put d k 0 [mR 7 0 14, mI v1, mI v2, mI v3] [] M from Wt.blk (wpD_mono mB mNL d) (cI (fun x_4 M_1 h_3 => And.intro (fun c_30 => Wt.blk (wpD_mono mB mNL d) ((h_3.1 c_30))) (fun c_30 => And.intro (fun c_29 => Wt.blk (wpD_mono mB mNL d) (((h_3.2 c_30).1 c_29))) (fun c_29 => And.intro (fun c_28 => Wt.blk (wpD_mono mB mNL d) (cI (fun x_8 M_5 h_7 => And.intro (fun c_27 => Wt.blk (wpD_mono mB mNL d) (cI (fun x_12 M_9 h_11 => And.intro (fun c_26 => Wt.blk (wpD_mono mB mNL d) (cV (fun M_13 h_15 => cV (fun M_16 h_18 => cV (fun M_19 h_21 => cI (fun x_25 M_22 h_24 => h_24) h_21) h_18) h_15) (h_11.1 c_26))) (fun c_26 => (h_11.2 c_26))) (h_7.1 c_27))) (fun c_27 => (h_7.2 c_27))) (((h_3.2 c_30).2 c_29).1 c_28))) (fun c_28 => Wt.blk (wpD_mono mB mNL d) ((((h_3.2 c_30).2 c_29).2 c_28)))))) h))
theorem v_X7_where_0 {d : Nat} {k : mQ} {M : mM} (v1 : Int32) (v2 : Int32) (v3 : Int32)
  (h : wpD mB mNL d zX7_isNoKind [mI v2] M (fun r_2 M_1 => wI r_2 fun x_4 =>
  ((x_4 = 0 → wpD mB mNL d zX7_isNoHour [mI v1] M_1 (fun r_6 M_5 => wI r_6 fun x_8 =>
      ((¬ x_8 = 0 → k (mI (-2)) M_5) ∧
         (x_8 = 0 → ((v3 < 0 → k (mI (-2)) M_5) ∧
           (¬ v3 < 0 → ((v3 ≤ 1 → wpD mB mNL d zX2_isFull [mR 2 0 38] M_5 (fun r_10 M_9 => wI r_10 fun x_12 =>
              ((x_12 = 0 → wpD mB mNL d zX7_searchPlace [mR 7 0 14, mI v1, mI v2] M_9 (fun r_14 M_13 => wI r_14 fun x_16 =>
                  ((¬ v3 = 0 → k (mI (M_13 26 1)) M_13) ∧
                     (v3 = 0 → k (mI x_16) M_13)))) ∧
                 (¬ x_12 = 0 → k (mI (-4)) M_9)))) ∧
             (¬ v3 ≤ 1 → k (mI (-2)) M_5)))))))) ∧
     (¬ x_4 = 0 → k (mI (-1)) M_1)))) :
  wpD mB mNL (d + 1) zX7_where [mR 7 0 14, mI v1, mI v2, mI v3] M k := (show jJ kB_X7_where d k 0 [mR 7 0 14, mI v1, mI v2, mI v3, none] [] M from Wt.blk (wpD_mono mB mNL d) (cI (fun x_4 M_1 h_3 => And.intro (fun c_22 => Wt.blk (wpD_mono mB mNL d) (cI (fun x_8 M_5 h_7 => And.intro (fun c_21 => Wt.blk (wpD_mono mB mNL d) ((h_7.1 c_21))) (fun c_21 => And.intro (fun c_20 => Wt.blk (wpD_mono mB mNL d) (((h_7.2 c_21).1 c_20))) (fun c_20 => And.intro (fun c_19 => Wt.blk (wpD_mono mB mNL d) (cI (fun x_12 M_9 h_11 => And.intro (fun c_18 => Wt.blk (wpD_mono mB mNL d) (cI (fun x_16 M_13 h_15 => And.intro (fun c_17 => Wt.blk (wpD_mono mB mNL d) (Wt.blk (wpD_mono mB mNL d) ((h_15.1 c_17)))) (fun c_17 => Wt.blk (wpD_mono mB mNL d) ((h_15.2 c_17)))) (h_11.1 c_18))) (fun c_18 => (h_11.2 c_18))) (((h_7.2 c_21).2 c_20).1 c_19))) (fun c_19 => Wt.blk (wpD_mono mB mNL d) ((((h_7.2 c_21).2 c_20).2 c_19)))))) (h_3.1 c_22))) (fun c_22 => (h_3.2 c_22))) h))
theorem v_X7_order_0 {d : Nat} {k : mQ} {M : mM} (v1 : Int32) (v2 : Int32)
  (h : wpD mB mNL d zX7_isNoHour [mI v1] M (fun r_2 M_1 => wI r_2 fun x_4 =>
  ((¬ x_4 = 0 → k (mI (-2)) M_1) ∧
     (x_4 = 0 → ((v2 < (-1) → k (mI (-2)) M_1) ∧
       (¬ v2 < (-1) → ((v2 < (M_1 38 0) → (((M_1 38 0) ≤ 7 → wpD mB mNL d zX3_search [mR 3 0 32, mI v1] M_1 (fun r_6 M_5 => wV r_6 (
            (((M_5 32 0) = (-6) → k (mI (M_5 32 0)) M_5) ∧
               (¬ (M_5 32 0) = (-6) → ((¬ v2 = (-1) → wpD mB mNL d zX7_cell [mR 50 7 33, mI v2] M_5 (fun r_9 M_8 => wI r_9 fun x_11 =>
                  k (mI x_11) M_8)) ∧
                 (v2 = (-1) → k (mI (M_5 32 0)) M_5))))))) ∧
           (¬ (M_1 38 0) ≤ 7 → k (mI (-4)) M_1))) ∧
         (¬ v2 < (M_1 38 0) → k (mI (-2)) M_1)))))))) :
  wpD mB mNL (d + 1) zX7_order [mR 7 0 14, mI v1, mI v2] M k := (show jJ kB_X7_order d k 0 [mR 7 0 14, mI v1, mI v2] [] M from Wt.blk (wpD_mono mB mNL d) (cI (fun x_4 M_1 h_3 => And.intro (fun c_17 => Wt.blk (wpD_mono mB mNL d) ((h_3.1 c_17))) (fun c_17 => And.intro (fun c_16 => Wt.blk (wpD_mono mB mNL d) (((h_3.2 c_17).1 c_16))) (fun c_16 => And.intro (fun c_15 => Wt.blk (wpD_mono mB mNL d) (And.intro (fun c_14 => Wt.blk (wpD_mono mB mNL d) (cV (fun M_5 h_7 => And.intro (fun c_13 => Wt.blk (wpD_mono mB mNL d) ((h_7.1 c_13))) (fun c_13 => And.intro (fun c_12 => Wt.blk (wpD_mono mB mNL d) (cI (fun x_11 M_8 h_10 => h_10) ((h_7.2 c_13).1 c_12))) (fun c_12 => Wt.blk (wpD_mono mB mNL d) (((h_7.2 c_13).2 c_12))))) ((((h_3.2 c_17).2 c_16).1 c_15).1 c_14))) (fun c_14 => ((((h_3.2 c_17).2 c_16).1 c_15).2 c_14)))) (fun c_15 => Wt.blk (wpD_mono mB mNL d) ((((h_3.2 c_17).2 c_16).2 c_15)))))) h))
theorem v_X7_felt_0 {d : Nat} {k : mQ} {M : mM} (v1 : Int32) (v2 : Int32) (v3 : Int32)
  (h : wpD mB mNL d zX7_isNoHouse [mR 7 0 14, mI v1] M (fun r_2 M_1 => wI r_2 fun x_4 =>
  ((x_4 = 0 → ((v2 < 0 → k (mI (-2)) M_1) ∧
       (¬ v2 < 0 → ((1000 < v3 → k (mI (-2)) M_1) ∧
         (¬ 1000 < v3 → ((v2 ≤ v3 → wpD mB mNL d zX1_add [mR 1 0 42, mI v1, mI v2, mI v3] M_1 (fun r_6 M_5 => wI r_6 fun x_8 =>
            ((x_8 = 0 → k (mI (-4)) M_5) ∧
               (¬ x_8 = 0 → k (mI (M_5 42 0)) M_5)))) ∧
           (¬ v2 ≤ v3 → k (mI (-2)) M_1))))))) ∧
     (¬ x_4 = 0 → k (mI (-1)) M_1)))) :
  wpD mB mNL (d + 1) zX7_felt [mR 7 0 14, mI v1, mI v2, mI v3] M k := (show jJ kB_X7_felt d k 0 [mR 7 0 14, mI v1, mI v2, mI v3] [] M from Wt.blk (wpD_mono mB mNL d) (cI (fun x_4 M_1 h_3 => And.intro (fun c_13 => Wt.blk (wpD_mono mB mNL d) (And.intro (fun c_12 => Wt.blk (wpD_mono mB mNL d) (((h_3.1 c_13).1 c_12))) (fun c_12 => And.intro (fun c_11 => Wt.blk (wpD_mono mB mNL d) ((((h_3.1 c_13).2 c_12).1 c_11))) (fun c_11 => And.intro (fun c_10 => Wt.blk (wpD_mono mB mNL d) (cI (fun x_8 M_5 h_7 => And.intro (fun c_9 => Wt.blk (wpD_mono mB mNL d) (Wt.blk (wpD_mono mB mNL d) ((h_7.1 c_9)))) (fun c_9 => Wt.blk (wpD_mono mB mNL d) ((h_7.2 c_9)))) ((((h_3.1 c_13).2 c_12).2 c_11).1 c_10))) (fun c_10 => Wt.blk (wpD_mono mB mNL d) (((((h_3.1 c_13).2 c_12).2 c_11).2 c_10))))))) (fun c_13 => (h_3.2 c_13))) h))
theorem v_X7_forget_0 {d : Nat} {k : mQ} {M : mM} 
  (h : wpD mB mNL d zX1_clear [mR 1 0 42] M (fun r_2 M_1 => wI r_2 fun x_4 =>
  k (mI x_4) M_1)) :
  wpD mB mNL (d + 1) zX7_forget [mR 7 0 14] M k := (show jJ kB_X7_forget d k 0 [mR 7 0 14] [] M from Wt.blk (wpD_mono mB mNL d) (cI (fun x_4 M_1 h_3 => h_3) h))
theorem v_X7_fits_0 {d : Nat} {k : mQ} {M : mM} (v1 : Int32) (v2 : Int32) (v3 : Int32)
  (h : wpD mB mNL d zX7_isNoHour [mI v1] M (fun r_2 M_1 => wI r_2 fun x_4 =>
  ((¬ x_4 = 0 → k (mI (-2)) M_1) ∧
     (x_4 = 0 → wpD mB mNL d zX7_areNoDraws [mR 7 0 14, mI v2] M_1 (fun r_6 M_5 => wI r_6 fun x_8 =>
      ((x_8 = 0 → wpD mB mNL d zX7_gatherFitting [mR 7 0 14, mI v1, mI v2] M_5 (fun r_10 M_9 => wI r_10 fun x_12 =>
          ((¬ v3 = (-1) → ((v3 < 0 → k (mI (-6)) M_9) ∧
               (¬ v3 < 0 → ((x_12 ≤ v3 → k (mI (-6)) M_9) ∧
                 (¬ x_12 ≤ v3 → wpD mB mNL d zX7_cell [mR 50 16 68, mI v3] M_9 (fun r_14 M_13 => wI r_14 fun x_16 =>
                  k (mI x_16) M_13)))))) ∧
             (v3 = (-1) → k (mI x_12) M_9)))) ∧
         (¬ x_8 = 0 → k (mI (-2)) M_5))))))) :
  wpD mB mNL (d + 1) zX7_fits [mR 7 0 14, mI v1, mI v2, mI v3] M k := (show jJ kB_X7_fits d k 0 [mR 7 0 14, mI v1, mI v2, mI v3, none] [] M from Wt.blk (wpD_mono mB mNL d) (cI (fun x_4 M_1 h_3 => And.intro (fun c_21 => Wt.blk (wpD_mono mB mNL d) ((h_3.1 c_21))) (fun c_21 => cI (fun x_8 M_5 h_7 => And.intro (fun c_20 => Wt.blk (wpD_mono mB mNL d) (cI (fun x_12 M_9 h_11 => And.intro (fun c_19 => Wt.blk (wpD_mono mB mNL d) (And.intro (fun c_18 => Wt.blk (wpD_mono mB mNL d) (Wt.blk (wpD_mono mB mNL d) (((h_11.1 c_19).1 c_18)))) (fun c_18 => And.intro (fun c_17 => Wt.blk (wpD_mono mB mNL d) (Wt.blk (wpD_mono mB mNL d) ((((h_11.1 c_19).2 c_18).1 c_17)))) (fun c_17 => cI (fun x_16 M_13 h_15 => Wt.blk (wpD_mono mB mNL d) (h_15)) (((h_11.1 c_19).2 c_18).2 c_17))))) (fun c_19 => (h_11.2 c_19))) (h_7.1 c_20))) (fun c_20 => Wt.blk (wpD_mono mB mNL d) ((h_7.2 c_20)))) (h_3.2 c_21))) h))
theorem v_X7_door_0 {d : Nat} {k : mQ} {M : mM} (v1 : Int32) (v2 : Int32) (v3 : Int32)
  (h : wpD mB mNL d zX7_isNoHour [mI v1] M (fun r_2 M_1 => wI r_2 fun x_4 =>
  ((¬ x_4 = 0 → k (mI (-2)) M_1) ∧
     (x_4 = 0 → wpD mB mNL d zX7_areNoDraws [mR 7 0 14, mI v2] M_1 (fun r_6 M_5 => wI r_6 fun x_8 =>
      ((¬ x_8 = 0 → k (mI (-2)) M_5) ∧
         (x_8 = 0 → ((v3 < 0 → k (mI (-2)) M_5) ∧
           (¬ v3 < 0 → ((v3 ≤ 1 → wpD mB mNL d zX7_gatherFitting [mR 7 0 14, mI v1, mI v2] M_5 (fun r_10 M_9 => wI r_10 fun x_12 =>
              ((¬ x_12 = 0 → wpD mB mNL d zX7_mostAlike [mR 7 0 14, mI 0, mI x_12] M_9 (fun r_14 M_13 => wI r_14 fun x_16 =>
                  jJ kB_X7_door d k 4 [mR 7 0 14, mI v1, mI v2, mI v3, mI x_12, mI 0, mI x_16, mI 1, none] [] M_13)) ∧
                 (x_12 = 0 → k (mI (-6)) M_9)))) ∧
             (¬ v3 ≤ 1 → k (mI (-2)) M_5))))))))))) :
  wpD mB mNL (d + 1) zX7_door [mR 7 0 14, mI v1, mI v2, mI v3] M k := (show jJ kB_X7_door d k 0 [mR 7 0 14, mI v1, mI v2, mI v3, none, none, none, none, none] [] M from Wt.blk (wpD_mono mB mNL d) (cI (fun x_4 M_1 h_3 => And.intro (fun c_21 => Wt.blk (wpD_mono mB mNL d) ((h_3.1 c_21))) (fun c_21 => cI (fun x_8 M_5 h_7 => And.intro (fun c_20 => Wt.blk (wpD_mono mB mNL d) ((h_7.1 c_20))) (fun c_20 => And.intro (fun c_19 => Wt.blk (wpD_mono mB mNL d) (((h_7.2 c_20).1 c_19))) (fun c_19 => And.intro (fun c_18 => Wt.blk (wpD_mono mB mNL d) (cI (fun x_12 M_9 h_11 => And.intro (fun c_17 => Wt.blk (wpD_mono mB mNL d) (cI (fun x_16 M_13 h_15 => h_15) (h_11.1 c_17))) (fun c_17 => (h_11.2 c_17))) (((h_7.2 c_20).2 c_19).1 c_18))) (fun c_18 => Wt.blk (wpD_mono mB mNL d) ((((h_7.2 c_20).2 c_19).2 c_18)))))) (h_3.2 c_21))) h))
theorem v_X7_door_4 {d : Nat} {k : mQ} {M : mM} (v1 : Int32) (v2 : Int32) (v3 : Int32) (v4 : Int32) (v5 : Int32) (v6 : Int32) (v7 : Int32) (u8 : mV)
  (h : (((M 38 0) ≤ v7 → ((¬ v3 = 0 → k (mI v6) M) ∧
     (v3 = 0 → k (mI v5) M))) ∧
   (¬ (M 38 0) ≤ v7 → wpD mB mNL d zX7_mostAlike [mR 7 0 14, mI v7, mI v4] M (fun r_24 M_23 => wI r_24 fun x_26 =>
    ((v6 ≤ x_26 → jJ kB_X7_door d k 4 [mR 7 0 14, mI v1, mI v2, mI v3, mI v4, mI v5, mI v6, mI (v7 + 1), mI x_26] [] M_23) ∧
       (¬ v6 ≤ x_26 → jJ kB_X7_door d k 4 [mR 7 0 14, mI v1, mI v2, mI v3, mI v4, mI v7, mI x_26, mI (v7 + 1), mI x_26] [] M_23)))))) :
  jJ kB_X7_door d k 4 [mR 7 0 14, mI v1, mI v2, mI v3, mI v4, mI v5, mI v6, mI v7, u8] [] M := Wt.blk (wpD_mono mB mNL d) (And.intro (fun c_28 => Wt.blk (wpD_mono mB mNL d) (And.intro (fun c_22 => Wt.blk (wpD_mono mB mNL d) (Wt.blk (wpD_mono mB mNL d) (((h.1 c_28).1 c_22)))) (fun c_22 => Wt.blk (wpD_mono mB mNL d) (((h.1 c_28).2 c_22))))) (fun c_28 => cI (fun x_26 M_23 h_25 => And.intro (fun c_27 => Wt.blk (wpD_mono mB mNL d) ((h_25.1 c_27))) (fun c_27 => Wt.blk (wpD_mono mB mNL d) ((h_25.2 c_27)))) (h.2 c_28)))
theorem v_X7_winter_0 {d : Nat} {k : mQ} {M : mM} (v1 : Int32) (v2 : Int32) (v3 : Int32)
  (h : ((v1 < 0 → k (mI (-2)) M) ∧
   (¬ v1 < 0 → ((9999 < v1 → k (mI (-2)) M) ∧
     (¬ 9999 < v1 → ((v2 < 1 → k (mI (-2)) M) ∧
       (¬ v2 < 1 → ((30 < v2 → k (mI (-2)) M) ∧
         (¬ 30 < v2 → ((v3 < 0 → k (mI (-2)) M) ∧
           (¬ v3 < 0 → ((v3 ≤ 1 → jJ kB_X7_winter d k 3 [mR 7 0 14, mI v1, mI v2, mI v3, mI 0, mI 0, none, none, none, none] [] M) ∧
             (¬ v3 ≤ 1 → k (mI (-2)) M))))))))))))) :
  wpD mB mNL (d + 1) zX7_winter [mR 7 0 14, mI v1, mI v2, mI v3] M k := (show jJ kB_X7_winter d k 0 [mR 7 0 14, mI v1, mI v2, mI v3, none, none, none, none, none, none] [] M from Wt.blk (wpD_mono mB mNL d) (And.intro (fun c_6 => Wt.blk (wpD_mono mB mNL d) ((h.1 c_6))) (fun c_6 => And.intro (fun c_5 => Wt.blk (wpD_mono mB mNL d) (((h.2 c_6).1 c_5))) (fun c_5 => And.intro (fun c_4 => Wt.blk (wpD_mono mB mNL d) ((((h.2 c_6).2 c_5).1 c_4))) (fun c_4 => And.intro (fun c_3 => Wt.blk (wpD_mono mB mNL d) (((((h.2 c_6).2 c_5).2 c_4).1 c_3))) (fun c_3 => And.intro (fun c_2 => Wt.blk (wpD_mono mB mNL d) ((((((h.2 c_6).2 c_5).2 c_4).2 c_3).1 c_2))) (fun c_2 => And.intro (fun c_1 => Wt.blk (wpD_mono mB mNL d) (((((((h.2 c_6).2 c_5).2 c_4).2 c_3).2 c_2).1 c_1))) (fun c_1 => Wt.blk (wpD_mono mB mNL d) (((((((h.2 c_6).2 c_5).2 c_4).2 c_3).2 c_2).2 c_1))))))))))
theorem v_X7_winter_3 {d : Nat} {k : mQ} {M : mM} (v1 : Int32) (v2 : Int32) (v3 : Int32) (v4 : Int32) (v5 : Int32) (u6 : mV) (u7 : mV) (u8 : mV) (u9 : mV)
  (h : ((6 ≤ v5 → k (mI v4) M) ∧
   (¬ 6 ≤ v5 → wpD mB mNL d zX7_planAsItIs [mR 7 0 14, mI v5] M (fun r_8 M_7 => wV r_8 (
    ((¬ (M_7 26 1) = (-6) → jJ kB_X7_winter d k 5 [mR 7 0 14, mI v1, mI v2, mI v3, mI v4, mI v5, u6, u7, u8, u9] [mI (M_7 26 2)] M_7) ∧
       ((M_7 26 1) = (-6) → jJ kB_X7_winter d k 5 [mR 7 0 14, mI v1, mI v2, mI v3, mI v4, mI v5, u6, u7, u8, u9] [mI 0] M_7))))))) :
  jJ kB_X7_winter d k 3 [mR 7 0 14, mI v1, mI v2, mI v3, mI v4, mI v5, u6, u7, u8, u9] [] M := Wt.blk (wpD_mono mB mNL d) (And.intro (fun c_11 => Wt.blk (wpD_mono mB mNL d) ((h.1 c_11))) (fun c_11 => cV (fun M_7 h_9 => And.intro (fun c_10 => Wt.blk (wpD_mono mB mNL d) ((h_9.1 c_10))) (fun c_10 => (h_9.2 c_10))) (h.2 c_11)))
theorem v_X7_winter_5 {d : Nat} {k : mQ} {M : mM} (v1 : Int32) (v2 : Int32) (v3 : Int32) (v4 : Int32) (v5 : Int32) (u6 : mV) (u7 : mV) (u8 : mV) (u9 : mV) (s0 : Int32)
  (h : ((¬ (M 26 1) = (-6) → jJ kB_X7_winter d k 8 [mR 7 0 14, mI v1, mI v2, mI v3, mI v4, mI v5, mI s0, mI (M 26 3), mI v1, mI 0] [] M) ∧
   ((M 26 1) = (-6) → jJ kB_X7_winter d k 8 [mR 7 0 14, mI v1, mI v2, mI v3, mI v4, mI v5, mI s0, mI 0, mI v1, mI 0] [] M))) :
  jJ kB_X7_winter d k 5 [mR 7 0 14, mI v1, mI v2, mI v3, mI v4, mI v5, u6, u7, u8, u9] [mI s0] M := Wt.blk (wpD_mono mB mNL d) (And.intro (fun c_12 => Wt.blk (wpD_mono mB mNL d) (Wt.blk (wpD_mono mB mNL d) ((h.1 c_12)))) (fun c_12 => Wt.blk (wpD_mono mB mNL d) ((h.2 c_12))))
theorem v_X7_winter_8 {d : Nat} {k : mQ} {M : mM} (v1 : Int32) (v2 : Int32) (v3 : Int32) (v4 : Int32) (v5 : Int32) (v6 : Int32) (v7 : Int32) (v8 : Int32) (v9 : Int32)
  (h : ((v2 ≤ v9 → jJ kB_X7_winter d k 3 [mR 7 0 14, mI v1, mI v2, mI v3, mI v4, mI (v5 + 1), mI v6, mI v7, mI v8, mI v9] [] M) ∧
   (¬ v2 ≤ v9 → (¬ 65537 = (0 : Int32) ∧ wpD mB mNL d zX6_springValue [mR 6 0 35, mI 1] M (fun r_14 M_13 => wI r_14 fun x_16 =>
    (¬ 200 = (0 : Int32) ∧ wpD mB mNL d zX0_follow [mR 0 0 23, mI (if 0 < (x_16 - ((((75 * v8) + 74) - ((75 * v8) + 74) / 65537 * 65537) - (((75 * v8) + 74) - ((75 * v8) + 74) / 65537 * 65537) / 200 * 200)) then (x_16 - ((((75 * v8) + 74) - ((75 * v8) + 74) / 65537 * 65537) - (((75 * v8) + 74) - ((75 * v8) + 74) / 65537 * 65537) / 200 * 200)) else 0), mI v5, mI v6, mI v7] M_13 (fun r_18 M_17 => wV r_18 (
      ((¬ v3 = 0 → wpD mB mNL d zJ6_bitCount_0f7a4 [mI (M_17 23 1)] M_17 (fun r_21 M_20 => wI r_21 fun x_23 =>
          jJ kB_X7_winter d k 8 [mR 7 0 14, mI v1, mI v2, mI v3, mI (v4 + x_23), mI v5, mI v6, mI v7, mI (((75 * v8) + 74) - ((75 * v8) + 74) / 65537 * 65537), mI (v9 + 1)] [] M_20)) ∧
         (v3 = 0 → wpD mB mNL d zX0_worthOfServed [mR 0 0 23] M_17 (fun r_25 M_24 => wI r_25 fun x_27 =>
          jJ kB_X7_winter d k 8 [mR 7 0 14, mI v1, mI v2, mI v3, mI (v4 + x_27), mI v5, mI v6, mI v7, mI (((75 * v8) + 74) - ((75 * v8) + 74) / 65537 * 65537), mI (v9 + 1)] [] M_24))))))))))) :
  jJ kB_X7_winter d k 8 [mR 7 0 14, mI v1, mI v2, mI v3, mI v4, mI v5, mI v6, mI v7, mI v8, mI v9] [] M := Wt.blk (wpD_mono mB mNL d) (And.intro (fun c_29 => Wt.blk (wpD_mono mB mNL d) ((h.1 c_29))) (fun c_29 => And.intro (h.2 c_29).1 (cI (fun x_16 M_13 h_15 => And.intro h_15.1 (cV (fun M_17 h_19 => And.intro (fun c_28 => Wt.blk (wpD_mono mB mNL d) (cI (fun x_23 M_20 h_22 => Wt.blk (wpD_mono mB mNL d) (h_22)) (h_19.1 c_28))) (fun c_28 => cI (fun x_27 M_24 h_26 => Wt.blk (wpD_mono mB mNL d) (h_26)) (h_19.2 c_28))) h_15.2)) (h.2 c_29).2)))
theorem v_X7_image_0 {d : Nat} {k : mQ} {M : mM} (v1 : Int32)
  (h : ((v1 < 0 → k (mI (-2)) M) ∧
   (¬ v1 < 0 → ((v1 < 2 → wpD mB mNL d zX7_imageOf [mR 7 0 14, mI v1] M (fun r_2 M_1 => wR 6 r_2 fun x_4 =>
      wpD mB mNL d zX6_copyOf [mR 6 0 x_4, mR 6 0 35] M_1 (fun r_6 M_5 => wV r_6 (
        k (mI 1) (up M_5 14 4 ((M_5 14 4) ||| (1 <<< (v1 &&& 31)))))))) ∧
     (¬ v1 < 2 → k (mI (-2)) M))))) :
  wpD mB mNL (d + 1) zX7_image [mR 7 0 14, mI v1] M k := (show jJ kB_X7_image d k 0 [mR 7 0 14, mI v1] [] M from Wt.blk (wpD_mono mB mNL d) (And.intro (fun c_9 => Wt.blk (wpD_mono mB mNL d) ((h.1 c_9))) (fun c_9 => And.intro (fun c_8 => Wt.blk (wpD_mono mB mNL d) (cR (kd := 6) (fun x_4 M_1 h_3 => cV (fun M_5 h_7 => h_7) h_3) ((h.2 c_9).1 c_8))) (fun c_8 => Wt.blk (wpD_mono mB mNL d) (((h.2 c_9).2 c_8))))))
theorem v_X7_restore_0 {d : Nat} {k : mQ} {M : mM} (v1 : Int32)
  (h : ((v1 < 0 → k (mI (-2)) M) ∧
   (¬ v1 < 0 → ((v1 < 2 → wpD mB mNL d zX7_hasBit [mI (M 14 4), mI v1] M (fun r_2 M_1 => wI r_2 fun x_4 =>
      ((¬ x_4 = 0 → wpD mB mNL d zX7_imageOf [mR 7 0 14, mI v1] M_1 (fun r_6 M_5 => wR 6 r_6 fun x_8 =>
          wpD mB mNL d zX6_copyOf [mR 6 0 35, mR 6 0 x_8] M_5 (fun r_10 M_9 => wV r_10 (
            k (mI 1) M_9)))) ∧
         (x_4 = 0 → k (mI (-3)) M_1)))) ∧
     (¬ v1 < 2 → k (mI (-2)) M))))) :
  wpD mB mNL (d + 1) zX7_restore [mR 7 0 14, mI v1] M k := (show jJ kB_X7_restore d k 0 [mR 7 0 14, mI v1] [] M from Wt.blk (wpD_mono mB mNL d) (And.intro (fun c_14 => Wt.blk (wpD_mono mB mNL d) ((h.1 c_14))) (fun c_14 => And.intro (fun c_13 => Wt.blk (wpD_mono mB mNL d) (cI (fun x_4 M_1 h_3 => And.intro (fun c_12 => Wt.blk (wpD_mono mB mNL d) (cR (kd := 6) (fun x_8 M_5 h_7 => cV (fun M_9 h_11 => h_11) h_7) (h_3.1 c_12))) (fun c_12 => (h_3.2 c_12))) ((h.2 c_14).1 c_13))) (fun c_13 => Wt.blk (wpD_mono mB mNL d) (((h.2 c_14).2 c_13))))))
theorem v_X7_told_0 {d : Nat} {k : mQ} {M : mM} (v1 : Int32)
  (h : ((v1 < 10 → jJ kB_X7_told d k 1 [mR 7 0 14, mI v1, none] [] M) ∧
   (¬ v1 < 10 → ((14 < v1 → jJ kB_X7_told d k 1 [mR 7 0 14, mI v1, none] [] M) ∧
     (¬ 14 < v1 → wpD mB mNL d zX6_springValue [mR 6 0 35, mI (v1 - 10)] M (fun r_2 M_1 => wI r_2 fun x_4 =>
      k (mI x_4) M_1)))))) :
  wpD mB mNL (d + 1) zX7_told [mR 7 0 14, mI v1] M k := (show jJ kB_X7_told d k 0 [mR 7 0 14, mI v1, none] [] M from Wt.blk (wpD_mono mB mNL d) (And.intro (fun c_6 => (h.1 c_6)) (fun c_6 => And.intro (fun c_5 => ((h.2 c_6).1 c_5)) (fun c_5 => cI (fun x_4 M_1 h_3 => h_3) ((h.2 c_6).2 c_5)))))
theorem v_X7_told_1 {d : Nat} {k : mQ} {M : mM} (v1 : Int32) (u2 : mV)
  (h : ((v1 < 20 → jJ kB_X7_told d k 4 [mR 7 0 14, mI v1, u2] [] M) ∧
   (¬ v1 < 20 → ((69 < v1 → jJ kB_X7_told d k 4 [mR 7 0 14, mI v1, u2] [] M) ∧
     (¬ 69 < v1 → (¬ 10 = (0 : Int32) ∧ wpD mB mNL d zX7_isNoKind [mI (v1 - v1 / 10 * 10)] M (fun r_8 M_7 => wI r_8 fun x_10 =>
      ((x_10 = 0 → (¬ 10 = (0 : Int32) ∧ wpD mB mNL d zX6_kindValue [mR 6 0 35, mI ((v1 / 10) - 2), mI (v1 - v1 / 10 * 10)] M_7 (fun r_12 M_11 => wI r_12 fun x_14 =>
          k (mI x_14) M_11))) ∧
         (¬ x_10 = 0 → k (mI (-2)) M_7))))))))) :
  jJ kB_X7_told d k 1 [mR 7 0 14, mI v1, u2] [] M := Wt.blk (wpD_mono mB mNL d) (And.intro (fun c_17 => (h.1 c_17)) (fun c_17 => And.intro (fun c_16 => ((h.2 c_17).1 c_16)) (fun c_16 => And.intro ((h.2 c_17).2 c_16).1 (cI (fun x_10 M_7 h_9 => And.intro (fun c_15 => Wt.blk (wpD_mono mB mNL d) (And.intro (h_9.1 c_15).1 (cI (fun x_14 M_11 h_13 => Wt.blk (wpD_mono mB mNL d) (h_13)) (h_9.1 c_15).2))) (fun c_15 => Wt.blk (wpD_mono mB mNL d) ((h_9.2 c_15)))) ((h.2 c_17).2 c_16).2))))
theorem v_X7_told_4 {d : Nat} {k : mQ} {M : mM} (v1 : Int32) (u2 : mV)
  (h : ((v1.toInt < 0 ∨ 3 < v1.toInt → k (mI (-2)) M) ∧
   ((v1.toInt = 0 → k (mI (M 15 0)) M) ∧
   ((v1.toInt = 1 → k (mI (M 38 0)) M) ∧
   ((v1.toInt = 2 → k (mI (M 38 1)) M) ∧
   ((v1.toInt = 3 → k (mI (M 42 0)) M) ∧
   True)))))) :
  jJ kB_X7_told d k 4 [mR 7 0 14, mI v1, u2] [] M := Wt.blk (wpD_mono mB mNL d) (And.intro (fun c_18 => Wt.blk (wpD_mono mB mNL d) ((h.1 c_18))) (And.intro (fun c_18 => Wt.blk (wpD_mono mB mNL d) ((h.2.1 c_18))) (And.intro (fun c_18 => Wt.blk (wpD_mono mB mNL d) ((h.2.2.1 c_18))) (And.intro (fun c_18 => Wt.blk (wpD_mono mB mNL d) ((h.2.2.2.1 c_18))) (And.intro (fun c_18 => Wt.blk (wpD_mono mB mNL d) ((h.2.2.2.2.1 c_18))) (trivial))))))
theorem v_X7_isNoHour_0 {d : Nat} {k : mQ} {M : mM} (v0 : Int32)
  (h : ((v0 < 0 → k (mI 1) M) ∧
   (¬ v0 < 0 → ((v0 < 6 → k (mI 0) M) ∧
     (¬ v0 < 6 → k (mI 1) M))))) :
  wpD mB mNL (d + 1) zX7_isNoHour [mI v0] M k := (show jJ kB_X7_isNoHour d k 0 [mI v0] [] M from Wt.blk (wpD_mono mB mNL d) (And.intro (fun c_2 => Wt.blk (wpD_mono mB mNL d) (Wt.blk (wpD_mono mB mNL d) (And.intro (Or.inr rfl) (h.1 c_2)))) (fun c_2 => And.intro (fun c_1 => Wt.blk (wpD_mono mB mNL d) (Wt.blk (wpD_mono mB mNL d) (And.intro (Or.inl rfl) ((h.2 c_2).1 c_1)))) (fun c_1 => Wt.blk (wpD_mono mB mNL d) (Wt.blk (wpD_mono mB mNL d) (And.intro (Or.inr rfl) ((h.2 c_2).2 c_1)))))))
theorem v_X7_isNoKind_0 {d : Nat} {k : mQ} {M : mM} (v0 : Int32)
  (h : ((v0 < 0 → k (mI 1) M) ∧
   (¬ v0 < 0 → ((v0 < 6 → k (mI 0) M) ∧
     (¬ v0 < 6 → k (mI 1) M))))) :
  wpD mB mNL (d + 1) zX7_isNoKind [mI v0] M k := (show jJ kB_X7_isNoKind d k 0 [mI v0] [] M from Wt.blk (wpD_mono mB mNL d) (And.intro (fun c_2 => Wt.blk (wpD_mono mB mNL d) (Wt.blk (wpD_mono mB mNL d) (And.intro (Or.inr rfl) (h.1 c_2)))) (fun c_2 => And.intro (fun c_1 => Wt.blk (wpD_mono mB mNL d) (Wt.blk (wpD_mono mB mNL d) (And.intro (Or.inl rfl) ((h.2 c_2).1 c_1)))) (fun c_1 => Wt.blk (wpD_mono mB mNL d) (Wt.blk (wpD_mono mB mNL d) (And.intro (Or.inr rfl) ((h.2 c_2).2 c_1)))))))
theorem v_X7_isNoHouse_0 {d : Nat} {k : mQ} {M : mM} (v1 : Int32)
  (h : ((v1 < 0 → k (mI 1) M) ∧
   (¬ v1 < 0 → ((v1 < (M 38 0) → k (mI 0) M) ∧
     (¬ v1 < (M 38 0) → k (mI 1) M))))) :
  wpD mB mNL (d + 1) zX7_isNoHouse [mR 7 0 14, mI v1] M k := (show jJ kB_X7_isNoHouse d k 0 [mR 7 0 14, mI v1] [] M from Wt.blk (wpD_mono mB mNL d) (And.intro (fun c_2 => Wt.blk (wpD_mono mB mNL d) (Wt.blk (wpD_mono mB mNL d) (And.intro (Or.inr rfl) (h.1 c_2)))) (fun c_2 => And.intro (fun c_1 => Wt.blk (wpD_mono mB mNL d) (Wt.blk (wpD_mono mB mNL d) (And.intro (Or.inl rfl) ((h.2 c_2).1 c_1)))) (fun c_1 => Wt.blk (wpD_mono mB mNL d) (Wt.blk (wpD_mono mB mNL d) (And.intro (Or.inr rfl) ((h.2 c_2).2 c_1)))))))
theorem v_X7_areNoBrooks_0 {d : Nat} {k : mQ} {M : mM} (v1 : Int32)
  (h : ((v1 < 0 → k (mI 1) M) ∧
   (¬ v1 < 0 → wpD mB mNL d zX2_brookSets [mR 2 0 38] M (fun r_2 M_1 => wI r_2 fun x_4 =>
    ((v1 < x_4 → k (mI 0) M_1) ∧
       (¬ v1 < x_4 → k (mI 1) M_1)))))) :
  wpD mB mNL (d + 1) zX7_areNoBrooks [mR 7 0 14, mI v1] M k := (show jJ kB_X7_areNoBrooks d k 0 [mR 7 0 14, mI v1] [] M from Wt.blk (wpD_mono mB mNL d) (And.intro (fun c_6 => Wt.blk (wpD_mono mB mNL d) (Wt.blk (wpD_mono mB mNL d) (And.intro (Or.inr rfl) (h.1 c_6)))) (fun c_6 => cI (fun x_4 M_1 h_3 => And.intro (fun c_5 => Wt.blk (wpD_mono mB mNL d) (Wt.blk (wpD_mono mB mNL d) (And.intro (Or.inl rfl) (h_3.1 c_5)))) (fun c_5 => Wt.blk (wpD_mono mB mNL d) (Wt.blk (wpD_mono mB mNL d) (And.intro (Or.inr rfl) (h_3.2 c_5))))) (h.2 c_6))))
theorem v_X7_areNoDraws_0 {d : Nat} {k : mQ} {M : mM} (v1 : Int32)
  (h : ((v1 < 0 → k (mI 1) M) ∧
   (¬ v1 < 0 → wpD mB mNL d zX2_houseSets [mR 2 0 38] M (fun r_2 M_1 => wI r_2 fun x_4 =>
    ((v1 < x_4 → k (mI 0) M_1) ∧
       (¬ v1 < x_4 → k (mI 1) M_1)))))) :
  wpD mB mNL (d + 1) zX7_areNoDraws [mR 7 0 14, mI v1] M k := (show jJ kB_X7_areNoDraws d k 0 [mR 7 0 14, mI v1] [] M from Wt.blk (wpD_mono mB mNL d) (And.intro (fun c_6 => Wt.blk (wpD_mono mB mNL d) (Wt.blk (wpD_mono mB mNL d) (And.intro (Or.inr rfl) (h.1 c_6)))) (fun c_6 => cI (fun x_4 M_1 h_3 => And.intro (fun c_5 => Wt.blk (wpD_mono mB mNL d) (Wt.blk (wpD_mono mB mNL d) (And.intro (Or.inl rfl) (h_3.1 c_5)))) (fun c_5 => Wt.blk (wpD_mono mB mNL d) (Wt.blk (wpD_mono mB mNL d) (And.intro (Or.inr rfl) (h_3.2 c_5))))) (h.2 c_6))))
theorem v_X7_imageOf_0 {d : Nat} {k : mQ} {M : mM} (v1 : Int32)
  (h : ((¬ v1 = 0 → k (mR 6 0 57) M) ∧
   (v1 = 0 → k (mR 6 0 46) M))) :
  wpD mB mNL (d + 1) zX7_imageOf [mR 7 0 14, mI v1] M k := (show jJ kB_X7_imageOf d k 0 [mR 7 0 14, mI v1] [] M from Wt.blk (wpD_mono mB mNL d) (And.intro (fun c_1 => Wt.blk (wpD_mono mB mNL d) (Wt.blk (wpD_mono mB mNL d) ((h.1 c_1)))) (fun c_1 => Wt.blk (wpD_mono mB mNL d) ((h.2 c_1)))))
theorem v_X7_planAsItIs_0 {d : Nat} {k : mQ} {M : mM} (v1 : Int32)
  (h : wpD mB mNL d zX5_forgetPlans [mR 5 0 26] M (fun r_2 M_1 => wV r_2 (
  wpD mB mNL d zX2_copyOf [mR 2 0 27, mR 2 0 38] M_1 (fun r_5 M_4 => wV r_5 (
    wpD mB mNL d zX5_improve [mR 5 0 26, mI v1] M_4 (fun r_8 M_7 => wI r_8 fun x_10 =>
      k none M_7)))))) :
  wpD mB mNL (d + 1) zX7_planAsItIs [mR 7 0 14, mI v1] M k := (show jJ kB_X7_planAsItIs d k 0 [mR 7 0 14, mI v1] [] M from Wt.blk (wpD_mono mB mNL d) (cV (fun M_1 h_3 => cV (fun M_4 h_6 => cI (fun x_10 M_7 h_9 => h_9) h_6) h_3) h))
theorem v_X7_searchMoss_0 {d : Nat} {k : mQ} {M : mM} (v1 : Int32) (v2 : Int32)
  (h : wpD mB mNL d zX2_pipeBits [mR 2 0 38] M (fun r_2 M_1 => wI r_2 fun x_4 =>
  wpD mB mNL d zJ6_bitCount_0f7a4 [mI x_4] M_1 (fun r_6 M_5 => wI r_6 fun x_8 =>
    wpD mB mNL d zX5_forgetPlans [mR 5 0 26] M_5 (fun r_10 M_9 => wV r_10 (
      jJ kB_X7_searchMoss d k 1 [mR 7 0 14, mI v1, mI v2, mI (-6), mI x_4, mI (if x_8 < v2 then x_8 else v2), mI 0, none] [] M_9))))) :
  wpD mB mNL (d + 1) zX7_searchMoss [mR 7 0 14, mI v1, mI v2] M k := (show jJ kB_X7_searchMoss d k 0 [mR 7 0 14, mI v1, mI v2, none, none, none, none, none] [] M from Wt.blk (wpD_mono mB mNL d) (cI (fun x_4 M_1 h_3 => cI (fun x_8 M_5 h_7 => cV (fun M_9 h_11 => h_11) h_7) h_3) h))
theorem v_X7_searchMoss_1 {d : Nat} {k : mQ} {M : mM} (v1 : Int32) (v2 : Int32) (v3 : Int32) (v4 : Int32) (v5 : Int32) (v6 : Int32) (u7 : mV)
  (h : ((v5 < v6 → k (mI v3) M) ∧
   (¬ v5 < v6 → jJ kB_X7_searchMoss d k 2 [mR 7 0 14, mI v1, mI v2, mI v3, mI v4, mI v5, mI v6, mI 0] [] M))) :
  jJ kB_X7_searchMoss d k 1 [mR 7 0 14, mI v1, mI v2, mI v3, mI v4, mI v5, mI v6, u7] [] M := Wt.blk (wpD_mono mB mNL d) (And.intro (fun c_12 => Wt.blk (wpD_mono mB mNL d) ((h.1 c_12))) (fun c_12 => (h.2 c_12)))
theorem v_X7_searchMoss_2 {d : Nat} {k : mQ} {M : mM} (v1 : Int32) (v2 : Int32) (v3 : Int32) (v4 : Int32) (v5 : Int32) (v6 : Int32) (v7 : Int32)
  (h : wpD mB mNL d zX2_houseSets [mR 2 0 38] M (fun r_14 M_13 => wI r_14 fun x_16 =>
  ((x_16 ≤ v7 → jJ kB_X7_searchMoss d k 1 [mR 7 0 14, mI v1, mI v2, mI v3, mI v4, mI v5, mI (v6 + 1), mI v7] [] M_13) ∧
     (¬ x_16 ≤ v7 → ((¬ (v7 &&& (v4 ^^^ (-1))) = 0 → jJ kB_X7_searchMoss d k 2 [mR 7 0 14, mI v1, mI v2, mI v3, mI v4, mI v5, mI v6, mI (v7 + 1)] [] M_13) ∧
       ((v7 &&& (v4 ^^^ (-1))) = 0 → wpD mB mNL d zJ6_bitCount_0f7a4 [mI v7] M_13 (fun r_18 M_17 => wI r_18 fun x_20 =>
        ((¬ x_20 = v6 → jJ kB_X7_searchMoss d k 2 [mR 7 0 14, mI v1, mI v2, mI v3, mI v4, mI v5, mI v6, mI (v7 + 1)] [] M_17) ∧
           (x_20 = v6 → wpD mB mNL d zX2_copyOf [mR 2 0 27, mR 2 0 38] M_17 (fun r_22 M_21 => wV r_22 (
            wpD mB mNL d zX2_coverPipes [mR 2 0 27, mI v7] M_21 (fun r_25 M_24 => wV r_25 (
              wpD mB mNL d zX5_improve [mR 5 0 26, mI v1] M_24 (fun r_28 M_27 => wI r_28 fun x_30 =>
                ((x_30 = 0 → jJ kB_X7_searchMoss d k 2 [mR 7 0 14, mI v1, mI v2, mI v3, mI v4, mI v5, mI v6, mI (v7 + 1)] [] M_27) ∧
                   (¬ x_30 = 0 → jJ kB_X7_searchMoss d k 2 [mR 7 0 14, mI v1, mI v2, mI v7, mI v4, mI v5, mI v6, mI (v7 + 1)] [] M_27)))))))))))))))) :
  jJ kB_X7_searchMoss d k 2 [mR 7 0 14, mI v1, mI v2, mI v3, mI v4, mI v5, mI v6, mI v7] [] M := Wt.blk (wpD_mono mB mNL d) (cI (fun x_16 M_13 h_15 => And.intro (fun c_34 => Wt.blk (wpD_mono mB mNL d) ((h_15.1 c_34))) (fun c_34 => And.intro (fun c_33 => Wt.blk (wpD_mono mB mNL d) (((h_15.2 c_34).1 c_33))) (fun c_33 => cI (fun x_20 M_17 h_19 => And.intro (fun c_32 => Wt.blk (wpD_mono mB mNL d) ((h_19.1 c_32))) (fun c_32 => cV (fun M_21 h_23 => cV (fun M_24 h_26 => cI (fun x_30 M_27 h_29 => And.intro (fun c_31 => Wt.blk (wpD_mono mB mNL d) ((h_29.1 c_31))) (fun c_31 => Wt.blk (wpD_mono mB mNL d) ((h_29.2 c_31)))) h_26) h_23) (h_19.2 c_32))) ((h_15.2 c_34).2 c_33)))) h)
theorem v_X7_searchPlace_0 {d : Nat} {k : mQ} {M : mM} (v1 : Int32) (v2 : Int32)
  (h : wpD mB mNL d zX5_forgetPlans [mR 5 0 26] M (fun r_2 M_1 => wV r_2 (
  jJ kB_X7_searchPlace d k 1 [mR 7 0 14, mI v1, mI v2, mI (-6), mI 0] [] M_1))) :
  wpD mB mNL (d + 1) zX7_searchPlace [mR 7 0 14, mI v1, mI v2] M k := (show jJ kB_X7_searchPlace d k 0 [mR 7 0 14, mI v1, mI v2, none, none] [] M from Wt.blk (wpD_mono mB mNL d) (cV (fun M_1 h_3 => h_3) h))
theorem v_X7_searchPlace_1 {d : Nat} {k : mQ} {M : mM} (v1 : Int32) (v2 : Int32) (v3 : Int32) (v4 : Int32)
  (h : (((M 38 0) < v4 → k (mI v3) M) ∧
   (¬ (M 38 0) < v4 → wpD mB mNL d zX2_copyOf [mR 2 0 27, mR 2 0 38] M (fun r_5 M_4 => wV r_5 (
    wpD mB mNL d zX2_insertHouse [mR 2 0 27, mI v2, mI v4] M_4 (fun r_8 M_7 => wV r_8 (
      wpD mB mNL d zX5_improve [mR 5 0 26, mI v1] M_7 (fun r_11 M_10 => wI r_11 fun x_13 =>
        ((x_13 = 0 → jJ kB_X7_searchPlace d k 1 [mR 7 0 14, mI v1, mI v2, mI v3, mI (v4 + 1)] [] M_10) ∧
           (¬ x_13 = 0 → jJ kB_X7_searchPlace d k 1 [mR 7 0 14, mI v1, mI v2, mI v4, mI (v4 + 1)] [] M_10)))))))))) :
  jJ kB_X7_searchPlace d k 1 [mR 7 0 14, mI v1, mI v2, mI v3, mI v4] [] M := Wt.blk (wpD_mono mB mNL d) (And.intro (fun c_15 => Wt.blk (wpD_mono mB mNL d) ((h.1 c_15))) (fun c_15 => cV (fun M_4 h_6 => cV (fun M_7 h_9 => cI (fun x_13 M_10 h_12 => And.intro (fun c_14 => Wt.blk (wpD_mono mB mNL d) ((h_12.1 c_14))) (fun c_14 => Wt.blk (wpD_mono mB mNL d) ((h_12.2 c_14)))) h_9) h_6) (h.2 c_15)))
theorem v_X7_gatherFitting_0 {d : Nat} {k : mQ} {M : mM} (v1 : Int32) (v2 : Int32)
  (h : jJ kB_X7_gatherFitting d k 1 [mR 7 0 14, mI v1, mI v2, mI 0, mI 0, none] [] M) :
  wpD mB mNL (d + 1) zX7_gatherFitting [mR 7 0 14, mI v1, mI v2] M k := (show jJ kB_X7_gatherFitting d k 0 [mR 7 0 14, mI v1, mI v2, none, none, none] [] M from Wt.blk (wpD_mono mB mNL d) (h))
theorem v_X7_gatherFitting_1 {d : Nat} {k : mQ} {M : mM} (v1 : Int32) (v2 : Int32) (v3 : Int32) (v4 : Int32) (u5 : mV)
  (h : wpD mB mNL d zX2_brookSets [mR 2 0 38] M (fun r_2 M_1 => wI r_2 fun x_4 =>
  ((x_4 ≤ v4 → k (mI v3) M_1) ∧
     (¬ x_4 ≤ v4 → wpD mB mNL d zX6_springValue [mR 6 0 35, mI 1] M_1 (fun r_6 M_5 => wI r_6 fun x_8 =>
      wpD mB mNL d zX0_follow [mR 0 0 23, mI x_8, mI v1, mI v4, mI v2] M_5 (fun r_10 M_9 => wV r_10 (
        wpD mB mNL d zX1_fitsTo [mR 1 0 42, mR 0 0 23] M_9 (fun r_13 M_12 => wI r_13 fun x_15 =>
          ((x_15 = 0 → jJ kB_X7_gatherFitting d k 1 [mR 7 0 14, mI v1, mI v2, mI v3, mI (v4 + 1), u5] [] M_12) ∧
             (¬ x_15 = 0 → wpD mB mNL d zX7_setCell [mR 50 16 68, mI v3, mI v4] M_12 (fun r_17 M_16 => wV r_17 (
              jJ kB_X7_gatherFitting d k 2 [mR 7 0 14, mI v1, mI v2, mI v3, mI v4, mI 0] [] M_16)))))))))))) :
  jJ kB_X7_gatherFitting d k 1 [mR 7 0 14, mI v1, mI v2, mI v3, mI v4, u5] [] M := Wt.blk (wpD_mono mB mNL d) (cI (fun x_4 M_1 h_3 => And.intro (fun c_20 => Wt.blk (wpD_mono mB mNL d) ((h_3.1 c_20))) (fun c_20 => cI (fun x_8 M_5 h_7 => cV (fun M_9 h_11 => cI (fun x_15 M_12 h_14 => And.intro (fun c_19 => Wt.blk (wpD_mono mB mNL d) ((h_14.1 c_19))) (fun c_19 => cV (fun M_16 h_18 => h_18) (h_14.2 c_19))) h_11) h_7) (h_3.2 c_20))) h)
theorem v_X7_gatherFitting_2 {d : Nat} {k : mQ} {M : mM} (v1 : Int32) (v2 : Int32) (v3 : Int32) (v4 : Int32) (v5 : Int32)
  (h : (((M 38 0) ≤ v5 → jJ kB_X7_gatherFitting d k 1 [mR 7 0 14, mI v1, mI v2, mI (v3 + 1), mI (v4 + 1), mI v5] [] M) ∧
   (¬ (M 38 0) ≤ v5 → wpD mB mNL d zX0_tenthsAt [mR 0 0 23, mI v5] M (fun r_22 M_21 => wI r_22 fun x_24 =>
    wpD mB mNL d zX7_setCell [mR 50 128 69, mI ((v3 * 8) + v5), mI x_24] M_21 (fun r_26 M_25 => wV r_26 (
      jJ kB_X7_gatherFitting d k 2 [mR 7 0 14, mI v1, mI v2, mI v3, mI v4, mI (v5 + 1)] [] M_25)))))) :
  jJ kB_X7_gatherFitting d k 2 [mR 7 0 14, mI v1, mI v2, mI v3, mI v4, mI v5] [] M := Wt.blk (wpD_mono mB mNL d) (And.intro (fun c_28 => Wt.blk (wpD_mono mB mNL d) (Wt.blk (wpD_mono mB mNL d) ((h.1 c_28)))) (fun c_28 => cI (fun x_24 M_21 h_23 => cV (fun M_25 h_27 => h_27) h_23) (h.2 c_28)))
theorem v_X7_mostAlike_0 {d : Nat} {k : mQ} {M : mM} (v1 : Int32) (v2 : Int32)
  (h : jJ kB_X7_mostAlike d k 1 [mR 7 0 14, mI v1, mI v2, mI 0, mI 0, none, none, none] [] M) :
  wpD mB mNL (d + 1) zX7_mostAlike [mR 7 0 14, mI v1, mI v2] M k := (show jJ kB_X7_mostAlike d k 0 [mR 7 0 14, mI v1, mI v2, none, none, none, none, none] [] M from Wt.blk (wpD_mono mB mNL d) (h))
theorem v_X7_mostAlike_1 {d : Nat} {k : mQ} {M : mM} (v1 : Int32) (v2 : Int32) (v3 : Int32) (v4 : Int32) (u5 : mV) (u6 : mV) (u7 : mV)
  (h : ((v2 ≤ v4 → k (mI v3) M) ∧
   (¬ v2 ≤ v4 → wpD mB mNL d zX7_cell [mR 50 128 69, mI ((v4 * 8) + v1)] M (fun r_2 M_1 => wI r_2 fun x_4 =>
    jJ kB_X7_mostAlike d k 2 [mR 7 0 14, mI v1, mI v2, mI v3, mI v4, mI x_4, mI 0, mI 0] [] M_1)))) :
  jJ kB_X7_mostAlike d k 1 [mR 7 0 14, mI v1, mI v2, mI v3, mI v4, u5, u6, u7] [] M := Wt.blk (wpD_mono mB mNL d) (And.intro (fun c_5 => Wt.blk (wpD_mono mB mNL d) ((h.1 c_5))) (fun c_5 => cI (fun x_4 M_1 h_3 => h_3) (h.2 c_5)))
theorem v_X7_mostAlike_2 {d : Nat} {k : mQ} {M : mM} (v1 : Int32) (v2 : Int32) (v3 : Int32) (v4 : Int32) (v5 : Int32) (v6 : Int32) (v7 : Int32)
  (h : ((v2 ≤ v7 → jJ kB_X7_mostAlike d k 1 [mR 7 0 14, mI v1, mI v2, mI (if v3 < v6 then v6 else v3), mI (v4 + 1), mI v5, mI v6, mI v7] [] M) ∧
   (¬ v2 ≤ v7 → wpD mB mNL d zX7_cell [mR 50 128 69, mI ((v7 * 8) + v1)] M (fun r_7 M_6 => wI r_7 fun x_9 =>
    ((¬ x_9 = v5 → jJ kB_X7_mostAlike d k 2 [mR 7 0 14, mI v1, mI v2, mI v3, mI v4, mI v5, mI v6, mI (v7 + 1)] [] M_6) ∧
       (x_9 = v5 → jJ kB_X7_mostAlike d k 2 [mR 7 0 14, mI v1, mI v2, mI v3, mI v4, mI v5, mI (v6 + 1), mI (v7 + 1)] [] M_6)))))) :
  jJ kB_X7_mostAlike d k 2 [mR 7 0 14, mI v1, mI v2, mI v3, mI v4, mI v5, mI v6, mI v7] [] M := Wt.blk (wpD_mono mB mNL d) (And.intro (fun c_11 => Wt.blk (wpD_mono mB mNL d) ((h.1 c_11))) (fun c_11 => cI (fun x_9 M_6 h_8 => And.intro (fun c_10 => Wt.blk (wpD_mono mB mNL d) ((h_8.1 c_10))) (fun c_10 => Wt.blk (wpD_mono mB mNL d) ((h_8.2 c_10)))) (h.2 c_11)))
theorem v_X7_cell_0 {d : Nat} {k : mQ} {M : mM} (L0 r0 : Nat) (v1 : Int32)
  (h : ((v1 < 0 → k (mI 0) M) ∧
   (¬ v1 < 0 → (((Int32.ofNat L0) ≤ v1 → k (mI 0) M) ∧
     (¬ (Int32.ofNat L0) ≤ v1 → (vp_in v1 L0 ∧ k (mI (M r0 (v1.toNatClampNeg))) M)))))) :
  wpD mB mNL (d + 1) zX7_cell [mR 50 L0 r0, mI v1] M k := (show jJ kB_X7_cell d k 0 [mR 50 L0 r0, mI v1] [] M from Wt.blk (wpD_mono mB mNL d) (And.intro (fun c_2 => Wt.blk (wpD_mono mB mNL d) (Wt.blk (wpD_mono mB mNL d) ((h.1 c_2)))) (fun c_2 => And.intro (fun c_1 => Wt.blk (wpD_mono mB mNL d) (Wt.blk (wpD_mono mB mNL d) (((h.2 c_2).1 c_1)))) (fun c_1 => And.intro ((h.2 c_2).2 c_1).1 (Wt.blk (wpD_mono mB mNL d) (((h.2 c_2).2 c_1).2))))))
theorem v_X7_cell_ro_0 {d : Nat} {k : mQ} {M : mM} (L0 r0 : Nat) (v1 : Int32)
  (h : ((v1 < 0 → k (mI 0) M) ∧
   (¬ v1 < 0 → (((Int32.ofNat L0) ≤ v1 → k (mI 0) M) ∧
     (¬ (Int32.ofNat L0) ≤ v1 → (vp_in v1 L0 ∧ k (mI (M (1000 + r0) (v1.toNatClampNeg))) M)))))) :
  wpD mB mNL (d + 1) zX7_cell [mR 51 L0 r0, mI v1] M k := (show jJ kB_X7_cell d k 0 [mR 51 L0 r0, mI v1] [] M from Wt.blk (wpD_mono mB mNL d) (And.intro (fun c_2 => Wt.blk (wpD_mono mB mNL d) (Wt.blk (wpD_mono mB mNL d) ((h.1 c_2)))) (fun c_2 => And.intro (fun c_1 => Wt.blk (wpD_mono mB mNL d) (Wt.blk (wpD_mono mB mNL d) (((h.2 c_2).1 c_1)))) (fun c_1 => And.intro ((h.2 c_2).2 c_1).1 (Wt.blk (wpD_mono mB mNL d) (((h.2 c_2).2 c_1).2))))))
theorem v_X7_setCell_0 {d : Nat} {k : mQ} {M : mM} (L0 r0 : Nat) (v1 : Int32) (v2 : Int32)
  (h : ((v1 < 0 → k none M) ∧
   (¬ v1 < 0 → (((Int32.ofNat L0) ≤ v1 → k none M) ∧
     (¬ (Int32.ofNat L0) ≤ v1 → (vp_in v1 L0 ∧ k none (up M r0 (v1.toNatClampNeg) v2))))))) :
  wpD mB mNL (d + 1) zX7_setCell [mR 50 L0 r0, mI v1, mI v2] M k := (show jJ kB_X7_setCell d k 0 [mR 50 L0 r0, mI v1, mI v2] [] M from Wt.blk (wpD_mono mB mNL d) (And.intro (fun c_2 => Wt.blk (wpD_mono mB mNL d) ((h.1 c_2))) (fun c_2 => And.intro (fun c_1 => Wt.blk (wpD_mono mB mNL d) (((h.2 c_2).1 c_1))) (fun c_1 => And.intro ((h.2 c_2).2 c_1).1 (Wt.blk (wpD_mono mB mNL d) (((h.2 c_2).2 c_1).2))))))
theorem v_X7_exchange_0 {d : Nat} {k : mQ} {M : mM} (L0 r0 : Nat) (v1 : Int32) (v2 : Int32)
  (h : wpD mB mNL d zX7_cell [mR 50 L0 r0, mI v1] M (fun r_2 M_1 => wI r_2 fun x_4 =>
  wpD mB mNL d zX7_setCell [mR 50 L0 r0, mI v1, mI v2] M_1 (fun r_6 M_5 => wV r_6 (
    k (mI x_4) M_5)))) :
  wpD mB mNL (d + 1) zX7_exchange [mR 50 L0 r0, mI v1, mI v2] M k := (show jJ kB_X7_exchange d k 0 [mR 50 L0 r0, mI v1, mI v2, none] [] M from Wt.blk (wpD_mono mB mNL d) (cI (fun x_4 M_1 h_3 => cV (fun M_5 h_7 => h_7) h_3) h))
theorem v_X7_copyRow_0 {d : Nat} {k : mQ} {M : mM} (L0 r0 : Nat) (L1 r1 : Nat)
  (h : jJ kB_X7_copyRow d k 1 [mR 50 L0 r0, mR 50 L1 r1, mI 0] [] M) :
  wpD mB mNL (d + 1) zX7_copyRow [mR 50 L0 r0, mR 50 L1 r1] M k := (show jJ kB_X7_copyRow d k 0 [mR 50 L0 r0, mR 50 L1 r1, none] [] M from Wt.blk (wpD_mono mB mNL d) (h))
theorem v_X7_copyRow_1 {d : Nat} {k : mQ} {M : mM} (L0 r0 : Nat) (L1 r1 : Nat) (v2 : Int32)
  (h : (((Int32.ofNat L0) ≤ v2 → k none M) ∧
   (¬ (Int32.ofNat L0) ≤ v2 → (((Int32.ofNat L1) ≤ v2 → k none M) ∧
     (¬ (Int32.ofNat L1) ≤ v2 → (vp_in v2 L0 ∧ (vp_in v2 L1 ∧ jJ kB_X7_copyRow d k 1 [mR 50 L0 r0, mR 50 L1 r1, mI (v2 + 1)] [] (up M r1 (v2.toNatClampNeg) (M r0 (v2.toNatClampNeg)))))))))) :
  jJ kB_X7_copyRow d k 1 [mR 50 L0 r0, mR 50 L1 r1, mI v2] [] M := Wt.blk (wpD_mono mB mNL d) (And.intro (fun c_2 => Wt.blk (wpD_mono mB mNL d) ((h.1 c_2))) (fun c_2 => And.intro (fun c_1 => Wt.blk (wpD_mono mB mNL d) (((h.2 c_2).1 c_1))) (fun c_1 => And.intro ((h.2 c_2).2 c_1).1 (And.intro ((h.2 c_2).2 c_1).2.1 (((h.2 c_2).2 c_1).2.2)))))
theorem v_X7_hasBit_0 {d : Nat} {k : mQ} {M : mM} (v0 : Int32) (v1 : Int32)
  (h : ((v1 < 0 → k (mI 0) M) ∧
   (¬ v1 < 0 → ((32 ≤ v1 → k (mI 0) M) ∧
     (¬ 32 ≤ v1 → ((((v0 >>> (v1 &&& 31)) &&& 1) = 0 → k (mI 0) M) ∧
       (¬ ((v0 >>> (v1 &&& 31)) &&& 1) = 0 → k (mI 1) M))))))) :
  wpD mB mNL (d + 1) zX7_hasBit [mI v0, mI v1] M k := (show jJ kB_X7_hasBit d k 0 [mI v0, mI v1] [] M from Wt.blk (wpD_mono mB mNL d) (And.intro (fun c_3 => Wt.blk (wpD_mono mB mNL d) (Wt.blk (wpD_mono mB mNL d) (And.intro (Or.inl rfl) (h.1 c_3)))) (fun c_3 => And.intro (fun c_2 => Wt.blk (wpD_mono mB mNL d) (Wt.blk (wpD_mono mB mNL d) (And.intro (Or.inl rfl) ((h.2 c_3).1 c_2)))) (fun c_2 => And.intro (fun c_1 => Wt.blk (wpD_mono mB mNL d) (Wt.blk (wpD_mono mB mNL d) (And.intro (Or.inl rfl) (((h.2 c_3).2 c_2).1 c_1)))) (fun c_1 => Wt.blk (wpD_mono mB mNL d) (And.intro (Or.inr rfl) (((h.2 c_3).2 c_2).2 c_1)))))))
theorem v_X7_lowestBit_0 {d : Nat} {k : mQ} {M : mM} (v0 : Int32)
  (h : jJ kB_X7_lowestBit d k 1 [mI v0, mI 0] [] M) :
  wpD mB mNL (d + 1) zX7_lowestBit [mI v0] M k := (show jJ kB_X7_lowestBit d k 0 [mI v0, none] [] M from Wt.blk (wpD_mono mB mNL d) (h))
theorem v_X7_lowestBit_1 {d : Nat} {k : mQ} {M : mM} (v0 : Int32) (v1 : Int32)
  (h : ((32 ≤ v1 → k (mI (-6)) M) ∧
   (¬ 32 ≤ v1 → wpD mB mNL d zX7_hasBit [mI v0, mI v1] M (fun r_2 M_1 => wI r_2 fun x_4 =>
    ((x_4 = 0 → jJ kB_X7_lowestBit d k 1 [mI v0, mI (v1 + 1)] [] M_1) ∧
       (¬ x_4 = 0 → k (mI v1) M_1)))))) :
  jJ kB_X7_lowestBit d k 1 [mI v0, mI v1] [] M := Wt.blk (wpD_mono mB mNL d) (And.intro (fun c_6 => Wt.blk (wpD_mono mB mNL d) ((h.1 c_6))) (fun c_6 => cI (fun x_4 M_1 h_3 => And.intro (fun c_5 => Wt.blk (wpD_mono mB mNL d) ((h_3.1 c_5))) (fun c_5 => (h_3.2 c_5))) (h.2 c_6)))
end
section
theorem v_X8_layKind_0 {d : Nat} {k : mQ} {M : mM} (v1 : Int32) (v2 : Int32) (v3 : Int32) (v4 : Int32) (v5 : Int32)
  (h : (vp_in v1 30 ∧ (vp_in (6 + v1) 30 ∧ (vp_in (12 + v1) 30 ∧ (vp_in (18 + v1) 30 ∧ (vp_in (24 + v1) 30 ∧ k none (up (up (up (up (up M 2 (v1.toNatClampNeg) v2) 2 ((6 + v1).toNatClampNeg) v3) 2 ((12 + v1).toNatClampNeg) v4) 2 ((18 + v1).toNatClampNeg) v5) 2 ((24 + v1).toNatClampNeg) 63))))))) :
  wpD mB mNL (d + 1) zX8_layKind [mR 8 0 0, mI v1, mI v2, mI v3, mI v4, mI v5] M k := (show jJ kB_X8_layKind d k 0 [mR 8 0 0, mI v1, mI v2, mI v3, mI v4, mI v5] [] M from Wt.blk (wpD_mono mB mNL d) (And.intro h.1 (And.intro h.2.1 (And.intro h.2.2.1 (And.intro h.2.2.2.1 (And.intro h.2.2.2.2.1 (h.2.2.2.2.2)))))))
theorem v_X8_in_0 {d : Nat} {k : mQ} {M : mM} (v0 : Int32) (v1 : Int32) (v2 : Int32)
  (h : ((v0 < v1 → k (mI 0) M) ∧
   (¬ v0 < v1 → ((v2 < v0 → k (mI 0) M) ∧
     (¬ v2 < v0 → k (mI 1) M))))) :
  wpD mB mNL (d + 1) zX8_in [mI v0, mI v1, mI v2] M k := (show jJ kB_X8_in d k 0 [mI v0, mI v1, mI v2] [] M from Wt.blk (wpD_mono mB mNL d) (And.intro (fun c_2 => Wt.blk (wpD_mono mB mNL d) (Wt.blk (wpD_mono mB mNL d) (And.intro (Or.inl rfl) (h.1 c_2)))) (fun c_2 => And.intro (fun c_1 => Wt.blk (wpD_mono mB mNL d) (Wt.blk (wpD_mono mB mNL d) (And.intro (Or.inl rfl) ((h.2 c_2).1 c_1)))) (fun c_1 => Wt.blk (wpD_mono mB mNL d) (And.intro (Or.inr rfl) ((h.2 c_2).2 c_1))))))
theorem v_X8_has_0 {d : Nat} {k : mQ} {M : mM} (v0 : Int32) (v1 : Int32)
  (h : ((¬ ((v0 >>> (v1 &&& 31)) &&& 1) = 1 → k (mI 0) M) ∧
   (((v0 >>> (v1 &&& 31)) &&& 1) = 1 → k (mI 1) M))) :
  wpD mB mNL (d + 1) zX8_has [mI v0, mI v1] M k := (show jJ kB_X8_has d k 0 [mI v0, mI v1] [] M from Wt.blk (wpD_mono mB mNL d) (And.intro (fun c_1 => Wt.blk (wpD_mono mB mNL d) (Wt.blk (wpD_mono mB mNL d) (And.intro (Or.inl rfl) (h.1 c_1)))) (fun c_1 => Wt.blk (wpD_mono mB mNL d) (And.intro (Or.inr rfl) (h.2 c_1)))))
theorem v_X8_bits_0 {d : Nat} {k : mQ} {M : mM} (v0 : Int32)
  (h : jJ kB_X8_bits d k 1 [mI v0, mI 0, mI 0] [] M) :
  wpD mB mNL (d + 1) zX8_bits [mI v0] M k := (show jJ kB_X8_bits d k 0 [mI v0, none, none] [] M from Wt.blk (wpD_mono mB mNL d) (h))
theorem v_X8_bits_1 {d : Nat} {k : mQ} {M : mM} (v0 : Int32) (v1 : Int32) (v2 : Int32)
  (h : ((8 ≤ v2 → k (mI v1) M) ∧
   (¬ 8 ≤ v2 → jJ kB_X8_bits d k 1 [mI v0, mI (v1 + ((v0 >>> (v2 &&& 31)) &&& 1)), mI (v2 + 1)] [] M))) :
  jJ kB_X8_bits d k 1 [mI v0, mI v1, mI v2] [] M := Wt.blk (wpD_mono mB mNL d) (And.intro (fun c_1 => Wt.blk (wpD_mono mB mNL d) ((h.1 c_1))) (fun c_1 => (h.2 c_1)))
theorem v_X8_spring_0 {d : Nat} {k : mQ} {M : mM} (v1 : Int32) (v2 : Int32)
  (h : wpD mB mNL d zX8_in [mI v1, mI 0, mI 4] M (fun r_2 M_1 => wI r_2 fun x_4 =>
  ((¬ x_4 = 0 → ((v1 = 0 → jJ kB_X8_spring d k 2 [mR 8 0 0, mI v1, mI v2, none, none, none] [] M_1) ∧
       (¬ v1 = 0 → ((¬ v1 = 3 → jJ kB_X8_spring d k 4 [mR 8 0 0, mI v1, mI v2, none, none, none] [mI 0] M_1) ∧
         (v1 = 3 → jJ kB_X8_spring d k 2 [mR 8 0 0, mI v1, mI v2, none, none, none] [] M_1))))) ∧
     (x_4 = 0 → k (mI (-1)) M_1)))) :
  wpD mB mNL (d + 1) zX8_spring [mR 8 0 0, mI v1, mI v2] M k := (show jJ kB_X8_spring d k 0 [mR 8 0 0, mI v1, mI v2, none, none, none] [] M from Wt.blk (wpD_mono mB mNL d) (cI (fun x_4 M_1 h_3 => And.intro (fun c_7 => Wt.blk (wpD_mono mB mNL d) (And.intro (fun c_6 => ((h_3.1 c_7).1 c_6)) (fun c_6 => And.intro (fun c_5 => Wt.blk (wpD_mono mB mNL d) ((((h_3.1 c_7).2 c_6).1 c_5))) (fun c_5 => (((h_3.1 c_7).2 c_6).2 c_5))))) (fun c_7 => (h_3.2 c_7))) h))
theorem v_X8_spring_2 {d : Nat} {k : mQ} {M : mM} (v1 : Int32) (v2 : Int32) (u3 : mV) (u4 : mV) (u5 : mV)
  (h : jJ kB_X8_spring d k 4 [mR 8 0 0, mI v1, mI v2, u3, u4, u5] [mI 1] M) :
  jJ kB_X8_spring d k 2 [mR 8 0 0, mI v1, mI v2, u3, u4, u5] [] M := Wt.blk (wpD_mono mB mNL d) (h)
theorem v_X8_spring_4 {d : Nat} {k : mQ} {M : mM} (v1 : Int32) (v2 : Int32) (u3 : mV) (u4 : mV) (u5 : mV) (s0 : Int32)
  (h : ((¬ v1 = 0 → ((¬ v1 = 1 → ((¬ v1 = 3 → jJ kB_X8_spring d k 8 [mR 8 0 0, mI v1, mI v2, mI s0, u4, u5] [mI 300] M) ∧
       (v1 = 3 → jJ kB_X8_spring d k 8 [mR 8 0 0, mI v1, mI v2, mI s0, u4, u5] [mI 30] M))) ∧
     (v1 = 1 → jJ kB_X8_spring d k 8 [mR 8 0 0, mI v1, mI v2, mI s0, u4, u5] [mI 1000] M))) ∧
   (v1 = 0 → jJ kB_X8_spring d k 8 [mR 8 0 0, mI v1, mI v2, mI s0, u4, u5] [mI 50] M))) :
  jJ kB_X8_spring d k 4 [mR 8 0 0, mI v1, mI v2, u3, u4, u5] [mI s0] M := Wt.blk (wpD_mono mB mNL d) (And.intro (fun c_10 => Wt.blk (wpD_mono mB mNL d) (And.intro (fun c_9 => Wt.blk (wpD_mono mB mNL d) (And.intro (fun c_8 => Wt.blk (wpD_mono mB mNL d) ((((h.1 c_10).1 c_9).1 c_8))) (fun c_8 => (((h.1 c_10).1 c_9).2 c_8)))) (fun c_9 => ((h.1 c_10).2 c_9)))) (fun c_10 => (h.2 c_10)))
theorem v_X8_spring_8 {d : Nat} {k : mQ} {M : mM} (v1 : Int32) (v2 : Int32) (v3 : Int32) (u4 : mV) (u5 : mV) (s0 : Int32)
  (h : wpD mB mNL d zX8_in [mI v2, mI v3, mI s0] M (fun r_12 M_11 => wI r_12 fun x_14 =>
  ((¬ x_14 = 0 → (vp_in v1 5 ∧ (vp_in v1 5 ∧ k (mI (M_11 1 (v1.toNatClampNeg))) (up M_11 1 (v1.toNatClampNeg) v2)))) ∧
     (x_14 = 0 → k (mI (-2)) M_11)))) :
  jJ kB_X8_spring d k 8 [mR 8 0 0, mI v1, mI v2, mI v3, u4, u5] [mI s0] M := Wt.blk (wpD_mono mB mNL d) (cI (fun x_14 M_11 h_13 => And.intro (fun c_15 => Wt.blk (wpD_mono mB mNL d) (And.intro (h_13.1 c_15).1 (And.intro (h_13.1 c_15).2.1 ((h_13.1 c_15).2.2)))) (fun c_15 => (h_13.2 c_15))) h)
theorem v_X8_mostOf_0 {d : Nat} {k : mQ} {M : mM} (v0 : Int32)
  (h : ((2 ≤ v0 → ((¬ v0 = 2 → ((¬ v0 = 3 → k (mI 63) M) ∧
       (v0 = 3 → k (mI 99) M))) ∧
     (v0 = 2 → k (mI 9999) M))) ∧
   (¬ 2 ≤ v0 → k (mI 1000) M))) :
  wpD mB mNL (d + 1) zX8_mostOf [mI v0] M k := (show jJ kB_X8_mostOf d k 0 [mI v0] [] M from Wt.blk (wpD_mono mB mNL d) (And.intro (fun c_3 => Wt.blk (wpD_mono mB mNL d) (And.intro (fun c_2 => Wt.blk (wpD_mono mB mNL d) (And.intro (fun c_1 => Wt.blk (wpD_mono mB mNL d) (Wt.blk (wpD_mono mB mNL d) ((((h.1 c_3).1 c_2).1 c_1)))) (fun c_1 => Wt.blk (wpD_mono mB mNL d) ((((h.1 c_3).1 c_2).2 c_1))))) (fun c_2 => Wt.blk (wpD_mono mB mNL d) (((h.1 c_3).2 c_2))))) (fun c_3 => Wt.blk (wpD_mono mB mNL d) ((h.2 c_3)))))
theorem v_X8_kind_0 {d : Nat} {k : mQ} {M : mM} (v1 : Int32) (v2 : Int32) (v3 : Int32)
  (h : wpD mB mNL d zX8_in [mI v1, mI 0, mI 5] M (fun r_2 M_1 => wI r_2 fun x_4 =>
  ((¬ x_4 = 0 → wpD mB mNL d zX8_in [mI v2, mI 0, mI 4] M_1 (fun r_6 M_5 => wI r_6 fun x_8 =>
      ((x_8 = 0 → k (mI (-2)) M_5) ∧
         (¬ x_8 = 0 → wpD mB mNL d zX8_mostOf [mI v2] M_5 (fun r_10 M_9 => wI r_10 fun x_12 =>
          wpD mB mNL d zX8_in [mI v3, mI 0, mI x_12] M_9 (fun r_14 M_13 => wI r_14 fun x_16 =>
            ((¬ x_16 = 0 → (vp_in ((6 * v2) + v1) 30 ∧ (vp_in ((6 * v2) + v1) 30 ∧ k (mI (M_13 2 (((6 * v2) + v1).toNatClampNeg))) (up M_13 2 (((6 * v2) + v1).toNatClampNeg) v3)))) ∧
               (x_16 = 0 → k (mI (-2)) M_13)))))))) ∧
     (x_4 = 0 → k (mI (-1)) M_1)))) :
  wpD mB mNL (d + 1) zX8_kind [mR 8 0 0, mI v1, mI v2, mI v3] M k := (show jJ kB_X8_kind d k 0 [mR 8 0 0, mI v1, mI v2, mI v3, none] [] M from Wt.blk (wpD_mono mB mNL d) (cI (fun x_4 M_1 h_3 => And.intro (fun c_19 => Wt.blk (wpD_mono mB mNL d) (cI (fun x_8 M_5 h_7 => And.intro (fun c_18 => Wt.blk (wpD_mono mB mNL d) ((h_7.1 c_18))) (fun c_18 => cI (fun x_12 M_9 h_11 => cI (fun x_16 M_13 h_15 => And.intro (fun c_17 => Wt.blk (wpD_mono mB mNL d) (And.intro (h_15.1 c_17).1 (And.intro (h_15.1 c_17).2.1 ((h_15.1 c_17).2.2)))) (fun c_17 => Wt.blk (wpD_mono mB mNL d) ((h_15.2 c_17)))) h_11) (h_7.2 c_18))) (h_3.1 c_19))) (fun c_19 => (h_3.2 c_19))) h))
theorem v_X8_say_0 {d : Nat} {k : mQ} {M : mM} (v1 : Int32)
  (h : wpD mB mNL d zX8_in [mI v1, mI 33, mI 126] M (fun r_2 M_1 => wI r_2 fun x_4 =>
  ((¬ x_4 = 0 → ((¬ (M_1 0 2) = 48 → (vp_in (M_1 0 2) 48 ∧ k (mI ((M_1 0 2) + 1)) (up (up M_1 3 ((M_1 0 2).toNatClampNeg) v1) 0 2 ((M_1 0 2) + 1)))) ∧
       ((M_1 0 2) = 48 → k (mI (-4)) M_1))) ∧
     (x_4 = 0 → k (mI (-2)) M_1)))) :
  wpD mB mNL (d + 1) zX8_say [mR 8 0 0, mI v1] M k := (show jJ kB_X8_say d k 0 [mR 8 0 0, mI v1] [] M from Wt.blk (wpD_mono mB mNL d) (cI (fun x_4 M_1 h_3 => And.intro (fun c_6 => Wt.blk (wpD_mono mB mNL d) (And.intro (fun c_5 => Wt.blk (wpD_mono mB mNL d) (And.intro ((h_3.1 c_6).1 c_5).1 (((h_3.1 c_6).1 c_5).2))) (fun c_5 => ((h_3.1 c_6).2 c_5)))) (fun c_6 => (h_3.2 c_6))) h))
theorem v_X8_wipe_0 {d : Nat} {k : mQ} {M : mM} 
  (h : k (mI (M 0 2)) (up M 0 2 0)) :
  wpD mB mNL (d + 1) zX8_wipe [mR 8 0 0] M k := (show jJ kB_X8_wipe d k 0 [mR 8 0 0, none] [] M from Wt.blk (wpD_mono mB mNL d) (h))
theorem v_X8_kindOf_0 {d : Nat} {k : mQ} {M : mM} (v0 : Int32)
  (h : ((v0.toInt < 98 ∨ 114 < v0.toInt → k (mI (-6)) M) ∧
   ((v0.toInt = 98 → k (mI 0) M) ∧
   ((v0.toInt = 99 → k (mI 3) M) ∧
   ((v0.toInt = 100 → k (mI 1) M) ∧
   ((v0.toInt = 101 → k (mI (-6)) M) ∧
   ((v0.toInt = 102 → k (mI (-6)) M) ∧
   ((v0.toInt = 103 → k (mI (-6)) M) ∧
   ((v0.toInt = 104 → k (mI 4) M) ∧
   ((v0.toInt = 105 → k (mI (-6)) M) ∧
   ((v0.toInt = 106 → k (mI (-6)) M) ∧
   ((v0.toInt = 107 → k (mI (-6)) M) ∧
   ((v0.toInt = 108 → k (mI 5) M) ∧
   ((v0.toInt = 109 → k (mI (-6)) M) ∧
   ((v0.toInt = 110 → k (mI (-6)) M) ∧
   ((v0.toInt = 111 → k (mI (-6)) M) ∧
   ((v0.toInt = 112 → k (mI (-6)) M) ∧
   ((v0.toInt = 113 → k (mI (-6)) M) ∧
   ((v0.toInt = 114 → k (mI 2) M) ∧
   True))))))))))))))))))) :
  wpD mB mNL (d + 1) zX8_kindOf [mI v0] M k := (show jJ kB_X8_kindOf d k 0 [mI v0] [] M from Wt.blk (wpD_mono mB mNL d) (And.intro (fun c_1 => Wt.blk (wpD_mono mB mNL d) ((h.1 c_1))) (And.intro (fun c_1 => Wt.blk (wpD_mono mB mNL d) ((h.2.1 c_1))) (And.intro (fun c_1 => Wt.blk (wpD_mono mB mNL d) ((h.2.2.1 c_1))) (And.intro (fun c_1 => Wt.blk (wpD_mono mB mNL d) ((h.2.2.2.1 c_1))) (And.intro (fun c_1 => Wt.blk (wpD_mono mB mNL d) ((h.2.2.2.2.1 c_1))) (And.intro (fun c_1 => Wt.blk (wpD_mono mB mNL d) ((h.2.2.2.2.2.1 c_1))) (And.intro (fun c_1 => Wt.blk (wpD_mono mB mNL d) ((h.2.2.2.2.2.2.1 c_1))) (And.intro (fun c_1 => Wt.blk (wpD_mono mB mNL d) ((h.2.2.2.2.2.2.2.1 c_1))) (And.intro (fun c_1 => Wt.blk (wpD_mono mB mNL d) ((h.2.2.2.2.2.2.2.2.1 c_1))) (And.intro (fun c_1 => Wt.blk (wpD_mono mB mNL d) ((h.2.2.2.2.2.2.2.2.2.1 c_1))) (And.intro (fun c_1 => Wt.blk (wpD_mono mB mNL d) ((h.2.2.2.2.2.2.2.2.2.2.1 c_1))) (And.intro (fun c_1 => Wt.blk (wpD_mono mB mNL d) ((h.2.2.2.2.2.2.2.2.2.2.2.1 c_1))) (And.intro (fun c_1 => Wt.blk (wpD_mono mB mNL d) ((h.2.2.2.2.2.2.2.2.2.2.2.2.1 c_1))) (And.intro (fun c_1 => Wt.blk (wpD_mono mB mNL d) ((h.2.2.2.2.2.2.2.2.2.2.2.2.2.1 c_1))) (And.intro (fun c_1 => Wt.blk (wpD_mono mB mNL d) ((h.2.2.2.2.2.2.2.2.2.2.2.2.2.2.1 c_1))) (And.intro (fun c_1 => Wt.blk (wpD_mono mB mNL d) ((h.2.2.2.2.2.2.2.2.2.2.2.2.2.2.2.1 c_1))) (And.intro (fun c_1 => Wt.blk (wpD_mono mB mNL d) ((h.2.2.2.2.2.2.2.2.2.2.2.2.2.2.2.2.1 c_1))) (And.intro (fun c_1 => Wt.blk (wpD_mono mB mNL d) ((h.2.2.2.2.2.2.2.2.2.2.2.2.2.2.2.2.2.1 c_1))) (trivial))))))))))))))))))))
theorem v_X8_laneFault_0 {d : Nat} {k : mQ} {M : mM} 
  (h : jJ kB_X8_laneFault d k 1 [mR 8 0 0, mI 0, mI 0, mI 0, mI 0, none, none, none, none] [] M) :
  wpD mB mNL (d + 1) zX8_laneFault [mR 8 0 0] M k := (show jJ kB_X8_laneFault d k 0 [mR 8 0 0, none, none, none, none, none, none, none, none] [] M from Wt.blk (wpD_mono mB mNL d) (h))
theorem v_X8_laneFault_1 {d : Nat} {k : mQ} {M : mM} (v1 : Int32) (v2 : Int32) (v3 : Int32) (v4 : Int32) (u5 : mV) (u6 : mV) (u7 : mV) (u8 : mV)
  (h : (((M 0 2) ≤ v4 → ((v1 = 0 → k (mI (M 0 2)) M) ∧
     (¬ v1 = 0 → ((v3 ≤ 0 → k (mI (-6)) M) ∧
       (¬ v3 ≤ 0 → k (mI (M 0 2)) M))))) ∧
   (¬ (M 0 2) ≤ v4 → (vp_in v4 48 ∧ wpD mB mNL d zX8_in [mI (M 3 (v4.toNatClampNeg)), mI 49, mI 57] M (fun r_4 M_3 => wI r_4 fun x_6 =>
    ((x_6 = 0 → jJ kB_X8_laneFault d k 2 [mR 8 0 0, mI v1, mI v2, mI v3, mI v4, mI (M 3 (v4.toNatClampNeg)), u6, u7, u8] [] M_3) ∧
       (¬ x_6 = 0 → ((¬ v3 = 0 → jJ kB_X8_laneFault d k 2 [mR 8 0 0, mI v1, mI v2, mI v3, mI v4, mI (M 3 (v4.toNatClampNeg)), u6, u7, u8] [] M_3) ∧
         (v3 = 0 → jJ kB_X8_laneFault d k 3 [mR 8 0 0, mI v1, mI v2, mI v3, mI v4, mI (M 3 (v4.toNatClampNeg)), u6, u7, u8] [mI 1] M_3))))))))) :
  jJ kB_X8_laneFault d k 1 [mR 8 0 0, mI v1, mI v2, mI v3, mI v4, u5, u6, u7, u8] [] M := Wt.blk (wpD_mono mB mNL d) (And.intro (fun c_9 => Wt.blk (wpD_mono mB mNL d) (And.intro (fun c_2 => Wt.blk (wpD_mono mB mNL d) (Wt.blk (wpD_mono mB mNL d) (((h.1 c_9).1 c_2)))) (fun c_2 => And.intro (fun c_1 => Wt.blk (wpD_mono mB mNL d) (Wt.blk (wpD_mono mB mNL d) ((((h.1 c_9).2 c_2).1 c_1)))) (fun c_1 => Wt.blk (wpD_mono mB mNL d) (Wt.blk (wpD_mono mB mNL d) ((((h.1 c_9).2 c_2).2 c_1))))))) (fun c_9 => And.intro (h.2 c_9).1 (cI (fun x_6 M_3 h_5 => And.intro (fun c_8 => (h_5.1 c_8)) (fun c_8 => And.intro (fun c_7 => ((h_5.2 c_8).1 c_7)) (fun c_7 => ((h_5.2 c_8).2 c_7)))) (h.2 c_9).2)))
theorem v_X8_laneFault_2 {d : Nat} {k : mQ} {M : mM} (v1 : Int32) (v2 : Int32) (v3 : Int32) (v4 : Int32) (v5 : Int32) (u6 : mV) (u7 : mV) (u8 : mV)
  (h : jJ kB_X8_laneFault d k 3 [mR 8 0 0, mI v1, mI v2, mI v3, mI v4, mI v5, u6, u7, u8] [mI 0] M) :
  jJ kB_X8_laneFault d k 2 [mR 8 0 0, mI v1, mI v2, mI v3, mI v4, mI v5, u6, u7, u8] [] M := Wt.blk (wpD_mono mB mNL d) (h)
theorem v_X8_laneFault_3 {d : Nat} {k : mQ} {M : mM} (v1 : Int32) (v2 : Int32) (v3 : Int32) (v4 : Int32) (v5 : Int32) (u6 : mV) (u7 : mV) (u8 : mV) (s0 : Int32)
  (h : ((¬ v5 = 42 → jJ kB_X8_laneFault d k 4 [mR 8 0 0, mI v1, mI v2, mI v3, mI v4, mI v5, mI s0, u7, u8] [] M) ∧
   (v5 = 42 → ((2 ≤ v3 → jJ kB_X8_laneFault d k 4 [mR 8 0 0, mI v1, mI v2, mI v3, mI v4, mI v5, mI s0, u7, u8] [] M) ∧
     (¬ 2 ≤ v3 → ((4 ≤ v2 → jJ kB_X8_laneFault d k 4 [mR 8 0 0, mI v1, mI v2, mI v3, mI v4, mI v5, mI s0, u7, u8] [] M) ∧
       (¬ 4 ≤ v2 → jJ kB_X8_laneFault d k 5 [mR 8 0 0, mI v1, mI v2, mI v3, mI v4, mI v5, mI s0, u7, u8] [mI 1] M))))))) :
  jJ kB_X8_laneFault d k 3 [mR 8 0 0, mI v1, mI v2, mI v3, mI v4, mI v5, u6, u7, u8] [mI s0] M := Wt.blk (wpD_mono mB mNL d) (And.intro (fun c_12 => (h.1 c_12)) (fun c_12 => And.intro (fun c_11 => ((h.2 c_12).1 c_11)) (fun c_11 => And.intro (fun c_10 => (((h.2 c_12).2 c_11).1 c_10)) (fun c_10 => (((h.2 c_12).2 c_11).2 c_10)))))
theorem v_X8_laneFault_4 {d : Nat} {k : mQ} {M : mM} (v1 : Int32) (v2 : Int32) (v3 : Int32) (v4 : Int32) (v5 : Int32) (v6 : Int32) (u7 : mV) (u8 : mV)
  (h : jJ kB_X8_laneFault d k 5 [mR 8 0 0, mI v1, mI v2, mI v3, mI v4, mI v5, mI v6, u7, u8] [mI 0] M) :
  jJ kB_X8_laneFault d k 4 [mR 8 0 0, mI v1, mI v2, mI v3, mI v4, mI v5, mI v6, u7, u8] [] M := Wt.blk (wpD_mono mB mNL d) (h)
theorem v_X8_laneFault_5 {d : Nat} {k : mQ} {M : mM} (v1 : Int32) (v2 : Int32) (v3 : Int32) (v4 : Int32) (v5 : Int32) (v6 : Int32) (u7 : mV) (u8 : mV) (s0 : Int32)
  (h : wpD mB mNL d zX8_kindOf [mI v5] M (fun r_14 M_13 => wI r_14 fun x_16 =>
  ((x_16 < 0 → jJ kB_X8_laneFault d k 7 [mR 8 0 0, mI v1, mI v2, mI v3, mI v4, mI v5, mI v6, mI s0, u8] [mI 0] M_13) ∧
     (¬ x_16 < 0 → jJ kB_X8_laneFault d k 7 [mR 8 0 0, mI v1, mI v2, mI v3, mI v4, mI v5, mI v6, mI s0, u8] [mI 1] M_13)))) :
  jJ kB_X8_laneFault d k 5 [mR 8 0 0, mI v1, mI v2, mI v3, mI v4, mI v5, mI v6, u7, u8] [mI s0] M := Wt.blk (wpD_mono mB mNL d) (cI (fun x_16 M_13 h_15 => And.intro (fun c_17 => Wt.blk (wpD_mono mB mNL d) ((h_15.1 c_17))) (fun c_17 => (h_15.2 c_17))) h)
theorem v_X8_laneFault_7 {d : Nat} {k : mQ} {M : mM} (v1 : Int32) (v2 : Int32) (v3 : Int32) (v4 : Int32) (v5 : Int32) (v6 : Int32) (v7 : Int32) (u8 : mV) (s0 : Int32)
  (h : ((v1 = 8 → k (mI v4) M) ∧
   (¬ v1 = 8 → ((¬ v6 = 0 → jJ kB_X8_laneFault d k 9 [mR 8 0 0, mI v1, mI v2, mI v3, mI v4, mI v5, mI v6, mI v7, mI s0] [] M) ∧
     (v6 = 0 → ((¬ v7 = 0 → jJ kB_X8_laneFault d k 9 [mR 8 0 0, mI v1, mI v2, mI v3, mI v4, mI v5, mI v6, mI v7, mI s0] [] M) ∧
       (v7 = 0 → ((¬ s0 = 0 → jJ kB_X8_laneFault d k 9 [mR 8 0 0, mI v1, mI v2, mI v3, mI v4, mI v5, mI v6, mI v7, mI s0] [] M) ∧
         (s0 = 0 → k (mI v4) M))))))))) :
  jJ kB_X8_laneFault d k 7 [mR 8 0 0, mI v1, mI v2, mI v3, mI v4, mI v5, mI v6, mI v7, u8] [mI s0] M := Wt.blk (wpD_mono mB mNL d) (And.intro (fun c_21 => Wt.blk (wpD_mono mB mNL d) ((h.1 c_21))) (fun c_21 => And.intro (fun c_20 => ((h.2 c_21).1 c_20)) (fun c_20 => And.intro (fun c_19 => (((h.2 c_21).2 c_20).1 c_19)) (fun c_19 => And.intro (fun c_18 => ((((h.2 c_21).2 c_20).2 c_19).1 c_18)) (fun c_18 => Wt.blk (wpD_mono mB mNL d) (((((h.2 c_21).2 c_20).2 c_19).2 c_18)))))))
theorem v_X8_laneFault_9 {d : Nat} {k : mQ} {M : mM} (v1 : Int32) (v2 : Int32) (v3 : Int32) (v4 : Int32) (v5 : Int32) (v6 : Int32) (v7 : Int32) (v8 : Int32)
  (h : ((v8 = 0 → jJ kB_X8_laneFault d k 11 [mR 8 0 0, mI v1, mI v2, mI v3, mI v4, mI v5, mI v6, mI v7, mI v8] [mI 0, mI v1] M) ∧
   (¬ v8 = 0 → jJ kB_X8_laneFault d k 11 [mR 8 0 0, mI v1, mI v2, mI v3, mI v4, mI v5, mI v6, mI v7, mI v8] [mI 1, mI v1] M))) :
  jJ kB_X8_laneFault d k 9 [mR 8 0 0, mI v1, mI v2, mI v3, mI v4, mI v5, mI v6, mI v7, mI v8] [] M := Wt.blk (wpD_mono mB mNL d) (And.intro (fun c_22 => Wt.blk (wpD_mono mB mNL d) ((h.1 c_22))) (fun c_22 => (h.2 c_22)))
theorem v_X8_laneFault_11 {d : Nat} {k : mQ} {M : mM} (v1 : Int32) (v2 : Int32) (v3 : Int32) (v4 : Int32) (v5 : Int32) (v6 : Int32) (v7 : Int32) (v8 : Int32) (s0 : Int32) (s1 : Int32)
  (h : ((v7 = 0 → jJ kB_X8_laneFault d k 13 [mR 8 0 0, mI (s0 + s1), mI v2, mI v3, mI v4, mI v5, mI v6, mI v7, mI v8] [mI 0, mI v2] M) ∧
   (¬ v7 = 0 → jJ kB_X8_laneFault d k 13 [mR 8 0 0, mI (s0 + s1), mI v2, mI v3, mI v4, mI v5, mI v6, mI v7, mI v8] [mI 1, mI v2] M))) :
  jJ kB_X8_laneFault d k 11 [mR 8 0 0, mI v1, mI v2, mI v3, mI v4, mI v5, mI v6, mI v7, mI v8] [mI s1, mI s0] M := Wt.blk (wpD_mono mB mNL d) (And.intro (fun c_23 => Wt.blk (wpD_mono mB mNL d) ((h.1 c_23))) (fun c_23 => (h.2 c_23)))
theorem v_X8_laneFault_13 {d : Nat} {k : mQ} {M : mM} (v1 : Int32) (v2 : Int32) (v3 : Int32) (v4 : Int32) (v5 : Int32) (v6 : Int32) (v7 : Int32) (v8 : Int32) (s0 : Int32) (s1 : Int32)
  (h : ((v8 = 0 → ((v6 = 0 → jJ kB_X8_laneFault d k 1 [mR 8 0 0, mI v1, mI (s0 + s1), mI 2, mI (v4 + 1), mI v5, mI v6, mI v7, mI v8] [] M) ∧
     (¬ v6 = 0 → jJ kB_X8_laneFault d k 1 [mR 8 0 0, mI v1, mI (s0 + s1), mI 1, mI (v4 + 1), mI v5, mI v6, mI v7, mI v8] [] M))) ∧
   (¬ v8 = 0 → jJ kB_X8_laneFault d k 1 [mR 8 0 0, mI v1, mI (s0 + s1), mI 0, mI (v4 + 1), mI v5, mI v6, mI v7, mI v8] [] M))) :
  jJ kB_X8_laneFault d k 13 [mR 8 0 0, mI v1, mI v2, mI v3, mI v4, mI v5, mI v6, mI v7, mI v8] [mI s1, mI s0] M := Wt.blk (wpD_mono mB mNL d) (And.intro (fun c_25 => Wt.blk (wpD_mono mB mNL d) (And.intro (fun c_24 => Wt.blk (wpD_mono mB mNL d) (Wt.blk (wpD_mono mB mNL d) (((h.1 c_25).1 c_24)))) (fun c_24 => Wt.blk (wpD_mono mB mNL d) (((h.1 c_25).2 c_24))))) (fun c_25 => Wt.blk (wpD_mono mB mNL d) ((h.2 c_25))))
theorem v_X8_dayFault_0 {d : Nat} {k : mQ} {M : mM} 
  (h : jJ kB_X8_dayFault d k 1 [mR 8 0 0, mI 1, mI 0, mI 0, none, none, none, none] [] M) :
  wpD mB mNL (d + 1) zX8_dayFault [mR 8 0 0] M k := (show jJ kB_X8_dayFault d k 0 [mR 8 0 0, none, none, none, none, none, none, none] [] M from Wt.blk (wpD_mono mB mNL d) (h))
theorem v_X8_dayFault_1 {d : Nat} {k : mQ} {M : mM} (v1 : Int32) (v2 : Int32) (v3 : Int32) (u4 : mV) (u5 : mV) (u6 : mV) (u7 : mV)
  (h : (((M 0 2) ≤ v3 → ((¬ v1 = 6 → k (mI (M 0 2)) M) ∧
     (v1 = 6 → k (mI (-6)) M))) ∧
   (¬ (M 0 2) ≤ v3 → (vp_in v3 48 ∧ ((¬ (M 3 (v3.toNatClampNeg)) = 47 → wpD mB mNL d zX8_in [mI ((M 3 (v3.toNatClampNeg)) - 49), mI 0, mI ((M 0 6) - 1)] M (fun r_3 M_2 => wI r_3 fun x_5 =>
      ((x_5 = 0 → wpD mB mNL d zX8_in [mI ((M 3 (v3.toNatClampNeg)) - 65), mI 0, mI ((M_2 0 4) - 1)] M_2 (fun r_7 M_6 => wI r_7 fun x_9 =>
          ((x_9 = 0 → jJ kB_X8_dayFault d k 6 [mR 8 0 0, mI v1, mI v2, mI v3, mI (M 3 (v3.toNatClampNeg)), mI ((M 3 (v3.toNatClampNeg)) - 49), mI ((M 3 (v3.toNatClampNeg)) - 65), u7] [mI (-6)] M_6) ∧
             (¬ x_9 = 0 → jJ kB_X8_dayFault d k 6 [mR 8 0 0, mI v1, mI v2, mI v3, mI (M 3 (v3.toNatClampNeg)), mI ((M 3 (v3.toNatClampNeg)) - 49), mI ((M 3 (v3.toNatClampNeg)) - 65), u7] [mI (4 + ((M 3 (v3.toNatClampNeg)) - 65))] M_6)))) ∧
         (¬ x_5 = 0 → jJ kB_X8_dayFault d k 6 [mR 8 0 0, mI v1, mI v2, mI v3, mI (M 3 (v3.toNatClampNeg)), mI ((M 3 (v3.toNatClampNeg)) - 49), mI ((M 3 (v3.toNatClampNeg)) - 65), u7] [mI ((M 3 (v3.toNatClampNeg)) - 49)] M_2)))) ∧
     ((M 3 (v3.toNatClampNeg)) = 47 → ((¬ v1 = 6 → jJ kB_X8_dayFault d k 1 [mR 8 0 0, mI (v1 + 1), mI 0, mI (v3 + 1), mI (M 3 (v3.toNatClampNeg)), u5, u6, u7] [] M) ∧
       (v1 = 6 → k (mI v3) M)))))))) :
  jJ kB_X8_dayFault d k 1 [mR 8 0 0, mI v1, mI v2, mI v3, u4, u5, u6, u7] [] M := Wt.blk (wpD_mono mB mNL d) (And.intro (fun c_14 => Wt.blk (wpD_mono mB mNL d) (And.intro (fun c_1 => Wt.blk (wpD_mono mB mNL d) (Wt.blk (wpD_mono mB mNL d) (((h.1 c_14).1 c_1)))) (fun c_1 => Wt.blk (wpD_mono mB mNL d) (((h.1 c_14).2 c_1))))) (fun c_14 => And.intro (h.2 c_14).1 (And.intro (fun c_13 => Wt.blk (wpD_mono mB mNL d) (cI (fun x_5 M_2 h_4 => And.intro (fun c_11 => Wt.blk (wpD_mono mB mNL d) (cI (fun x_9 M_6 h_8 => And.intro (fun c_10 => Wt.blk (wpD_mono mB mNL d) ((h_8.1 c_10))) (fun c_10 => (h_8.2 c_10))) (h_4.1 c_11))) (fun c_11 => (h_4.2 c_11))) ((h.2 c_14).2.1 c_13))) (fun c_13 => And.intro (fun c_12 => Wt.blk (wpD_mono mB mNL d) (Wt.blk (wpD_mono mB mNL d) ((((h.2 c_14).2.2 c_13).1 c_12)))) (fun c_12 => (((h.2 c_14).2.2 c_13).2 c_12))))))
theorem v_X8_dayFault_6 {d : Nat} {k : mQ} {M : mM} (v1 : Int32) (v2 : Int32) (v3 : Int32) (v4 : Int32) (v5 : Int32) (v6 : Int32) (u7 : mV) (s0 : Int32)
  (h : ((s0 < 0 → k (mI v3) M) ∧
   (¬ s0 < 0 → wpD mB mNL d zX8_has [mI v2, mI s0] M (fun r_16 M_15 => wI r_16 fun x_18 =>
    ((x_18 = 0 → jJ kB_X8_dayFault d k 1 [mR 8 0 0, mI v1, mI (v2 ||| (1 <<< (s0 &&& 31))), mI (v3 + 1), mI v4, mI v5, mI v6, mI s0] [] M_15) ∧
       (¬ x_18 = 0 → k (mI v3) M_15)))))) :
  jJ kB_X8_dayFault d k 6 [mR 8 0 0, mI v1, mI v2, mI v3, mI v4, mI v5, mI v6, u7] [mI s0] M := Wt.blk (wpD_mono mB mNL d) (And.intro (fun c_20 => Wt.blk (wpD_mono mB mNL d) ((h.1 c_20))) (fun c_20 => cI (fun x_18 M_15 h_17 => And.intro (fun c_19 => Wt.blk (wpD_mono mB mNL d) (Wt.blk (wpD_mono mB mNL d) ((h_17.1 c_19)))) (fun c_19 => Wt.blk (wpD_mono mB mNL d) ((h_17.2 c_19)))) (h.2 c_20)))
theorem v_X8_fault_0 {d : Nat} {k : mQ} {M : mM} (v1 : Int32)
  (h : ((¬ v1 = 0 → ((¬ v1 = 1 → k (mI (-2)) M) ∧
     (v1 = 1 → wpD mB mNL d zX8_dayFault [mR 8 0 0] M (fun r_2 M_1 => wI r_2 fun x_4 =>
      k (mI x_4) M_1)))) ∧
   (v1 = 0 → wpD mB mNL d zX8_laneFault [mR 8 0 0] M (fun r_7 M_6 => wI r_7 fun x_9 =>
    k (mI x_9) M_6)))) :
  wpD mB mNL (d + 1) zX8_fault [mR 8 0 0, mI v1] M k := (show jJ kB_X8_fault d k 0 [mR 8 0 0, mI v1] [] M from Wt.blk (wpD_mono mB mNL d) (And.intro (fun c_10 => Wt.blk (wpD_mono mB mNL d) (And.intro (fun c_5 => Wt.blk (wpD_mono mB mNL d) (Wt.blk (wpD_mono mB mNL d) (((h.1 c_10).1 c_5)))) (fun c_5 => cI (fun x_4 M_1 h_3 => Wt.blk (wpD_mono mB mNL d) (h_3)) ((h.1 c_10).2 c_5)))) (fun c_10 => cI (fun x_9 M_6 h_8 => Wt.blk (wpD_mono mB mNL d) (h_8)) (h.2 c_10))))
theorem v_X8_lane_0 {d : Nat} {k : mQ} {M : mM} 
  (h : wpD mB mNL d zX8_laneFault [mR 8 0 0] M (fun r_2 M_1 => wI r_2 fun x_4 =>
  ((x_4 < 0 → jJ kB_X8_lane d k 2 [mR 8 0 0, mI 0, mI (-6), mI 0, none] [] (up (up (up M_1 0 4 0) 0 6 0) 0 7 0)) ∧
     (¬ x_4 < 0 → k (mI (-5)) M_1)))) :
  wpD mB mNL (d + 1) zX8_lane [mR 8 0 0] M k := (show jJ kB_X8_lane d k 0 [mR 8 0 0, none, none, none, none] [] M from Wt.blk (wpD_mono mB mNL d) (cI (fun x_4 M_1 h_3 => And.intro (fun c_5 => Wt.blk (wpD_mono mB mNL d) ((h_3.1 c_5))) (fun c_5 => (h_3.2 c_5))) h))
theorem v_X8_lane_2 {d : Nat} {k : mQ} {M : mM} (v1 : Int32) (v2 : Int32) (v3 : Int32) (u4 : mV)
  (h : (((M 0 2) ≤ v3 → k (mI (M 0 4)) (up M 0 2 0)) ∧
   (¬ (M 0 2) ≤ v3 → (vp_in v3 48 ∧ ((¬ (M 3 (v3.toNatClampNeg)) = 42 → wpD mB mNL d zX8_kindOf [mI (M 3 (v3.toNatClampNeg))] M (fun r_7 M_6 => wI r_7 fun x_9 =>
      ((x_9 < 0 → jJ kB_X8_lane d k 2 [mR 8 0 0, mI ((M 3 (v3.toNatClampNeg)) - 48), mI v2, mI (v3 + 1), mI (M 3 (v3.toNatClampNeg))] [] M_6) ∧
         (¬ x_9 < 0 → wpD mB mNL d zX8_kindOf [mI (M 3 (v3.toNatClampNeg))] M_6 (fun r_11 M_10 => wI r_11 fun x_13 =>
          (vp_in (3 * (M_6 0 4)) 24 ∧ (vp_in ((3 * (M_10 0 4)) + 1) 24 ∧ (vp_in ((3 * (M_10 0 4)) + 2) 24 ∧ jJ kB_X8_lane d k 2 [mR 8 0 0, mI 0, mI (-6), mI (v3 + 1), mI (M 3 (v3.toNatClampNeg))] [] (up (up (up (up M_10 4 ((3 * (M_6 0 4)).toNatClampNeg) x_13) 4 (((3 * (M_10 0 4)) + 1).toNatClampNeg) v1) 4 (((3 * (M_10 0 4)) + 2).toNatClampNeg) v2) 0 4 ((M_10 0 4) + 1)))))))))) ∧
     ((M 3 (v3.toNatClampNeg)) = 42 → jJ kB_X8_lane d k 2 [mR 8 0 0, mI v1, mI (M 0 6), mI (v3 + 1), mI (M 3 (v3.toNatClampNeg))] [] (up M 0 6 ((M 0 6) + 1)))))))) :
  jJ kB_X8_lane d k 2 [mR 8 0 0, mI v1, mI v2, mI v3, u4] [] M := Wt.blk (wpD_mono mB mNL d) (And.intro (fun c_16 => Wt.blk (wpD_mono mB mNL d) ((h.1 c_16))) (fun c_16 => And.intro (h.2 c_16).1 (And.intro (fun c_15 => Wt.blk (wpD_mono mB mNL d) (cI (fun x_9 M_6 h_8 => And.intro (fun c_14 => Wt.blk (wpD_mono mB mNL d) (Wt.blk (wpD_mono mB mNL d) ((h_8.1 c_14)))) (fun c_14 => cI (fun x_13 M_10 h_12 => And.intro h_12.1 (And.intro h_12.2.1 (And.intro h_12.2.2.1 (Wt.blk (wpD_mono mB mNL d) (h_12.2.2.2))))) (h_8.2 c_14))) ((h.2 c_16).2.1 c_15))) (fun c_15 => Wt.blk (wpD_mono mB mNL d) (((h.2 c_16).2.2 c_15))))))
theorem v_X8_house_0 {d : Nat} {k : mQ} {M : mM} (v1 : Int32) (v2 : Int32)
  (h : wpD mB mNL d zX8_in [mI v1, mI 0, mI ((M 0 4) - 1)] M (fun r_2 M_1 => wI r_2 fun x_4 =>
  ((¬ x_4 = 0 → wpD mB mNL d zX8_in [mI v2, mI 0, mI 2] M_1 (fun r_6 M_5 => wI r_6 fun x_8 =>
      ((x_8 = 0 → k (mI (-2)) M_5) ∧
         (¬ x_8 = 0 → (vp_in ((3 * v1) + v2) 24 ∧ k (mI (M_5 4 (((3 * v1) + v2).toNatClampNeg))) M_5))))) ∧
     (x_4 = 0 → k (mI (-1)) M_1)))) :
  wpD mB mNL (d + 1) zX8_house [mR 8 0 0, mI v1, mI v2] M k := (show jJ kB_X8_house d k 0 [mR 8 0 0, mI v1, mI v2] [] M from Wt.blk (wpD_mono mB mNL d) (cI (fun x_4 M_1 h_3 => And.intro (fun c_10 => Wt.blk (wpD_mono mB mNL d) (cI (fun x_8 M_5 h_7 => And.intro (fun c_9 => Wt.blk (wpD_mono mB mNL d) (Wt.blk (wpD_mono mB mNL d) ((h_7.1 c_9)))) (fun c_9 => And.intro (h_7.2 c_9).1 (Wt.blk (wpD_mono mB mNL d) ((h_7.2 c_9).2)))) (h_3.1 c_10))) (fun c_10 => (h_3.2 c_10))) h))
theorem v_X8_asLane_0 {d : Nat} {k : mQ} {M : mM} 
  (h : jJ kB_X8_asLane d k 1 [mR 8 0 0, mI 0] [] (up M 0 9 (M 0 4))) :
  wpD mB mNL (d + 1) zX8_asLane [mR 8 0 0] M k := (show jJ kB_X8_asLane d k 0 [mR 8 0 0, none] [] M from Wt.blk (wpD_mono mB mNL d) (h))
theorem v_X8_asLane_1 {d : Nat} {k : mQ} {M : mM} (v1 : Int32)
  (h : (((3 * (M 0 4)) ≤ v1 → k none M) ∧
   (¬ (3 * (M 0 4)) ≤ v1 → (vp_in v1 24 ∧ (vp_in v1 27 ∧ jJ kB_X8_asLane d k 1 [mR 8 0 0, mI (v1 + 1)] [] (up M 6 (v1.toNatClampNeg) (M 4 (v1.toNatClampNeg)))))))) :
  jJ kB_X8_asLane d k 1 [mR 8 0 0, mI v1] [] M := Wt.blk (wpD_mono mB mNL d) (And.intro (fun c_1 => Wt.blk (wpD_mono mB mNL d) ((h.1 c_1))) (fun c_1 => And.intro (h.2 c_1).1 (And.intro (h.2 c_1).2.1 ((h.2 c_1).2.2))))
theorem v_X8_go_0 {d : Nat} {k : mQ} {M : mM} (v1 : Int32) (v2 : Int32) (v3 : Int32) (v4 : Int32)
  (h : (vp_in 2 5 ∧ (vp_in 0 5 ∧ jJ kB_X8_go d k 1 [mR 8 0 0, mI v1, mI v2, mI v3, mI v4, mI (M 1 ((2 : Int32).toNatClampNeg)), mI (M 1 ((0 : Int32).toNatClampNeg)), mI ((M 1 ((0 : Int32).toNatClampNeg)) * v4), mI 0, none, none, none, none, none] [] (up (up (up (up M 0 13 0) 0 14 0) 0 15 0) 0 16 0)))) :
  wpD mB mNL (d + 1) zX8_go [mR 8 0 0, mI v1, mI v2, mI v3, mI v4] M k := (show jJ kB_X8_go d k 0 [mR 8 0 0, mI v1, mI v2, mI v3, mI v4, none, none, none, none, none, none, none, none, none] [] M from Wt.blk (wpD_mono mB mNL d) (And.intro h.1 (And.intro h.2.1 (h.2.2))))
theorem v_X8_go_1 {d : Nat} {k : mQ} {M : mM} (v1 : Int32) (v2 : Int32) (v3 : Int32) (v4 : Int32) (v5 : Int32) (v6 : Int32) (v7 : Int32) (v8 : Int32) (u9 : mV) (u10 : mV) (u11 : mV) (u12 : mV) (u13 : mV)
  (h : (((M 0 9) ≤ v8 → (vp_in (M 0 9) 10 ∧ (vp_in (M 0 9) 10 ∧ k none (up (up M 7 ((M 0 9).toNatClampNeg) v6) 8 ((M 0 9).toNatClampNeg) v7)))) ∧
   (¬ (M 0 9) ≤ v8 → (vp_in (3 * v8) 27 ∧ (vp_in ((3 * v8) + 2) 27 ∧ ((v7 ≤ (v5 * v6) → jJ kB_X8_go d k 4 [mR 8 0 0, mI v1, mI v2, mI v3, mI v4, mI v5, mI v6, mI v7, mI v8, mI (M 6 ((3 * v8).toNatClampNeg)), mI (M 6 (((3 * v8) + 2).toNatClampNeg)), u11, u12, u13] [] M) ∧
     (¬ v7 ≤ (v5 * v6) → (vp_in ((3 * v8) + 1) 27 ∧ (((v5 * v6) ≤ (v7 - ((10 * (M 6 (((3 * v8) + 1).toNatClampNeg))) * v6)) → jJ kB_X8_go d k 3 [mR 8 0 0, mI v1, mI v2, mI v3, mI v4, mI v5, mI v6, mI v7, mI v8, mI (M 6 ((3 * v8).toNatClampNeg)), mI (M 6 (((3 * v8) + 2).toNatClampNeg)), mI (v7 - ((10 * (M 6 (((3 * v8) + 1).toNatClampNeg))) * v6)), u12, u13] [mI (v7 - ((10 * (M 6 (((3 * v8) + 1).toNatClampNeg))) * v6))] M) ∧
       (¬ (v5 * v6) ≤ (v7 - ((10 * (M 6 (((3 * v8) + 1).toNatClampNeg))) * v6)) → jJ kB_X8_go d k 3 [mR 8 0 0, mI v1, mI v2, mI v3, mI v4, mI v5, mI v6, mI v7, mI v8, mI (M 6 ((3 * v8).toNatClampNeg)), mI (M 6 (((3 * v8) + 2).toNatClampNeg)), mI (v7 - ((10 * (M 6 (((3 * v8) + 1).toNatClampNeg))) * v6)), u12, u13] [mI (v5 * v6)] M)))))))))) :
  jJ kB_X8_go d k 1 [mR 8 0 0, mI v1, mI v2, mI v3, mI v4, mI v5, mI v6, mI v7, mI v8, u9, u10, u11, u12, u13] [] M := Wt.blk (wpD_mono mB mNL d) (And.intro (fun c_3 => Wt.blk (wpD_mono mB mNL d) (And.intro (h.1 c_3).1 (And.intro (h.1 c_3).2.1 ((h.1 c_3).2.2)))) (fun c_3 => And.intro (h.2 c_3).1 (And.intro (h.2 c_3).2.1 (And.intro (fun c_2 => ((h.2 c_3).2.2.1 c_2)) (fun c_2 => And.intro ((h.2 c_3).2.2.2 c_2).1 (And.intro (fun c_1 => Wt.blk (wpD_mono mB mNL d) ((((h.2 c_3).2.2.2 c_2).2.1 c_1))) (fun c_1 => (((h.2 c_3).2.2.2 c_2).2.2 c_1))))))))
theorem v_X8_go_3 {d : Nat} {k : mQ} {M : mM} (v1 : Int32) (v2 : Int32) (v3 : Int32) (v4 : Int32) (v5 : Int32) (v6 : Int32) (v7 : Int32) (v8 : Int32) (v9 : Int32) (v10 : Int32) (v11 : Int32) (u12 : mV) (u13 : mV) (s0 : Int32)
  (h : jJ kB_X8_go d k 4 [mR 8 0 0, mI v1, mI v2, mI v3, mI v4, mI v5, mI v6, mI s0, mI v8, mI v9, mI v10, mI s0, u12, u13] [] (up M 0 15 ((M 0 15) + (v7 - s0)))) :
  jJ kB_X8_go d k 3 [mR 8 0 0, mI v1, mI v2, mI v3, mI v4, mI v5, mI v6, mI v7, mI v8, mI v9, mI v10, mI v11, u12, u13] [mI s0] M := Wt.blk (wpD_mono mB mNL d) (h)
theorem v_X8_go_4 {d : Nat} {k : mQ} {M : mM} (v1 : Int32) (v2 : Int32) (v3 : Int32) (v4 : Int32) (v5 : Int32) (v6 : Int32) (v7 : Int32) (v8 : Int32) (v9 : Int32) (v10 : Int32) (u11 : mV) (u12 : mV) (u13 : mV)
  (h : ((v10 < 0 → jJ kB_X8_go d k 5 [mR 8 0 0, mI v1, mI v2, mI v3, mI v4, mI v5, mI v6, mI v7, mI v8, mI v9, mI v10, u11, u12, u13] [] M) ∧
   (¬ v10 < 0 → wpD mB mNL d zX8_has [mI v2, mI v10] M (fun r_5 M_4 => wI r_5 fun x_7 =>
    ((x_7 = 0 → jJ kB_X8_go d k 5 [mR 8 0 0, mI v1, mI v2, mI v3, mI v4, mI v5, mI v6, mI v7, mI v8, mI v9, mI v10, u11, u12, u13] [] M_4) ∧
       (¬ x_7 = 0 → (vp_in 3 5 ∧ (vp_in 3 5 ∧ (vp_in 4 5 ∧ jJ kB_X8_go d k 5 [mR 8 0 0, mI v1, mI v2, mI v3, mI v4, mI v5, mI (v6 + (M_4 1 ((3 : Int32).toNatClampNeg))), mI (v7 + ((M_4 1 ((3 : Int32).toNatClampNeg)) * (M_4 1 ((4 : Int32).toNatClampNeg)))), mI v8, mI v9, mI v10, u11, u12, u13] [] M_4))))))))) :
  jJ kB_X8_go d k 4 [mR 8 0 0, mI v1, mI v2, mI v3, mI v4, mI v5, mI v6, mI v7, mI v8, mI v9, mI v10, u11, u12, u13] [] M := Wt.blk (wpD_mono mB mNL d) (And.intro (fun c_9 => (h.1 c_9)) (fun c_9 => cI (fun x_7 M_4 h_6 => And.intro (fun c_8 => (h_6.1 c_8)) (fun c_8 => And.intro (h_6.2 c_8).1 (And.intro (h_6.2 c_8).2.1 (And.intro (h_6.2 c_8).2.2.1 ((h_6.2 c_8).2.2.2))))) (h.2 c_9)))
theorem v_X8_go_5 {d : Nat} {k : mQ} {M : mM} (v1 : Int32) (v2 : Int32) (v3 : Int32) (v4 : Int32) (v5 : Int32) (v6 : Int32) (v7 : Int32) (v8 : Int32) (v9 : Int32) (v10 : Int32) (u11 : mV) (u12 : mV) (u13 : mV)
  (h : (vp_in v8 10 ∧ (vp_in v8 10 ∧ (vp_in (6 + v9) 30 ∧ ((v7 ≤ ((M 2 ((6 + v9).toNatClampNeg)) * v6) → jJ kB_X8_go d k 7 [mR 8 0 0, mI v1, mI v2, mI v3, mI v4, mI v5, mI v6, mI v7, mI v8, mI v9, mI v10, u11, u12, u13] [mI 0] (up (up M 7 (v8.toNatClampNeg) v6) 8 (v8.toNatClampNeg) v7)) ∧
   (¬ v7 ≤ ((M 2 ((6 + v9).toNatClampNeg)) * v6) → jJ kB_X8_go d k 7 [mR 8 0 0, mI v1, mI v2, mI v3, mI v4, mI v5, mI v6, mI v7, mI v8, mI v9, mI v10, u11, u12, u13] [mI 1] (up (up M 7 (v8.toNatClampNeg) v6) 8 (v8.toNatClampNeg) v7))))))) :
  jJ kB_X8_go d k 5 [mR 8 0 0, mI v1, mI v2, mI v3, mI v4, mI v5, mI v6, mI v7, mI v8, mI v9, mI v10, u11, u12, u13] [] M := Wt.blk (wpD_mono mB mNL d) (And.intro h.1 (And.intro h.2.1 (And.intro h.2.2.1 (And.intro (fun c_10 => Wt.blk (wpD_mono mB mNL d) ((h.2.2.2.1 c_10))) (fun c_10 => (h.2.2.2.2 c_10))))))
theorem v_X8_go_7 {d : Nat} {k : mQ} {M : mM} (v1 : Int32) (v2 : Int32) (v3 : Int32) (v4 : Int32) (v5 : Int32) (v6 : Int32) (v7 : Int32) (v8 : Int32) (v9 : Int32) (v10 : Int32) (u11 : mV) (u12 : mV) (u13 : mV) (s0 : Int32)
  (h : (vp_in (12 + v9) 30 ∧ ((s0 = 0 → jJ kB_X8_go d k 9 [mR 8 0 0, mI v1, mI v2, mI v3, mI v4, mI v5, mI v6, mI v7, mI v8, mI v9, mI v10, mI s0, mI (M 2 ((12 + v9).toNatClampNeg)), u13] [mI 0, mI (M 0 14), mR 8 0 0] M) ∧
   (¬ s0 = 0 → jJ kB_X8_go d k 9 [mR 8 0 0, mI v1, mI v2, mI v3, mI v4, mI v5, mI v6, mI v7, mI v8, mI v9, mI v10, mI s0, mI (M 2 ((12 + v9).toNatClampNeg)), u13] [mI (1 <<< (v8 &&& 31)), mI (M 0 14), mR 8 0 0] M)))) :
  jJ kB_X8_go d k 7 [mR 8 0 0, mI v1, mI v2, mI v3, mI v4, mI v5, mI v6, mI v7, mI v8, mI v9, mI v10, u11, u12, u13] [mI s0] M := Wt.blk (wpD_mono mB mNL d) (And.intro h.1 (And.intro (fun c_11 => Wt.blk (wpD_mono mB mNL d) ((h.2.1 c_11))) (fun c_11 => (h.2.2 c_11))))
theorem v_X8_go_9 {d : Nat} {k : mQ} {M : mM} (v1 : Int32) (v2 : Int32) (v3 : Int32) (v4 : Int32) (v5 : Int32) (v6 : Int32) (v7 : Int32) (v8 : Int32) (v9 : Int32) (v10 : Int32) (v11 : Int32) (v12 : Int32) (u13 : mV) (s1 : Int32) (s2 : Int32)
  (h : wpD mB mNL d zX8_has [mI v3, mI v8] (up M 0 14 (s1 ||| s2)) (fun r_13 M_12 => wI r_13 fun x_15 =>
  ((x_15 = 0 → jJ kB_X8_go d k 10 [mR 8 0 0, mI v1, mI v2, mI v3, mI v4, mI v5, mI v6, mI v7, mI v8, mI v9, mI v10, mI v11, mI v12, u13] [] M_12) ∧
     (¬ x_15 = 0 → (vp_in (24 + v9) 30 ∧ wpD mB mNL d zX8_has [mI (M_12 2 ((24 + v9).toNatClampNeg)), mI v1] M_12 (fun r_17 M_16 => wI r_17 fun x_19 =>
      ((x_19 = 0 → jJ kB_X8_go d k 10 [mR 8 0 0, mI v1, mI v2, mI v3, mI v4, mI v5, mI v6, mI v7, mI v8, mI v9, mI v10, mI v11, mI v12, u13] [] M_16) ∧
         (¬ x_19 = 0 → jJ kB_X8_go d k 11 [mR 8 0 0, mI v1, mI v2, mI v3, mI v4, mI v5, mI v6, mI v7, mI v8, mI v9, mI v10, mI v11, mI v12, u13] [mI 1] M_16)))))))) :
  jJ kB_X8_go d k 9 [mR 8 0 0, mI v1, mI v2, mI v3, mI v4, mI v5, mI v6, mI v7, mI v8, mI v9, mI v10, mI v11, mI v12, u13] [mI s2, mI s1, mR 8 0 0] M := Wt.blk (wpD_mono mB mNL d) (cI (fun x_15 M_12 h_14 => And.intro (fun c_21 => (h_14.1 c_21)) (fun c_21 => And.intro (h_14.2 c_21).1 (cI (fun x_19 M_16 h_18 => And.intro (fun c_20 => (h_18.1 c_20)) (fun c_20 => (h_18.2 c_20))) (h_14.2 c_21).2))) h)
theorem v_X8_go_10 {d : Nat} {k : mQ} {M : mM} (v1 : Int32) (v2 : Int32) (v3 : Int32) (v4 : Int32) (v5 : Int32) (v6 : Int32) (v7 : Int32) (v8 : Int32) (v9 : Int32) (v10 : Int32) (v11 : Int32) (v12 : Int32) (u13 : mV)
  (h : jJ kB_X8_go d k 11 [mR 8 0 0, mI v1, mI v2, mI v3, mI v4, mI v5, mI v6, mI v7, mI v8, mI v9, mI v10, mI v11, mI v12, u13] [mI 0] M) :
  jJ kB_X8_go d k 10 [mR 8 0 0, mI v1, mI v2, mI v3, mI v4, mI v5, mI v6, mI v7, mI v8, mI v9, mI v10, mI v11, mI v12, u13] [] M := Wt.blk (wpD_mono mB mNL d) (h)
theorem v_X8_go_11 {d : Nat} {k : mQ} {M : mM} (v1 : Int32) (v2 : Int32) (v3 : Int32) (v4 : Int32) (v5 : Int32) (v6 : Int32) (v7 : Int32) (v8 : Int32) (v9 : Int32) (v10 : Int32) (v11 : Int32) (v12 : Int32) (u13 : mV) (s0 : Int32)
  (h : ((s0 = 0 → jJ kB_X8_go d k 1 [mR 8 0 0, mI v1, mI v2, mI v3, mI v4, mI v5, mI v6, mI v7, mI (v8 + 1), mI v9, mI v10, mI v11, mI v12, mI s0] [] M) ∧
   (¬ s0 = 0 → ((¬ v11 = 0 → jJ kB_X8_go d k 1 [mR 8 0 0, mI v1, mI v2, mI v3, mI v4, mI v5, mI v6, mI v7, mI (v8 + 1), mI v9, mI v10, mI v11, mI v12, mI s0] [] M) ∧
     (v11 = 0 → (vp_in v9 30 ∧ ((v7 < ((M 2 (v9.toNatClampNeg)) * v6) → jJ kB_X8_go d k 1 [mR 8 0 0, mI v1, mI v2, mI v3, mI v4, mI v5, mI v6, mI v7, mI (v8 + 1), mI v9, mI v10, mI v11, mI v12, mI s0] [] M) ∧
       (¬ v7 < ((M 2 (v9.toNatClampNeg)) * v6) → (((v7 - v12) < (v5 * v6) → jJ kB_X8_go d k 1 [mR 8 0 0, mI v1, mI v2, mI v3, mI v4, mI v5, mI v6, mI v7, mI (v8 + 1), mI v9, mI v10, mI v11, mI v12, mI s0] [] M) ∧
         (¬ (v7 - v12) < (v5 * v6) → jJ kB_X8_go d k 1 [mR 8 0 0, mI v1, mI v2, mI v3, mI v4, mI v5, mI v6, mI (v7 - v12), mI (v8 + 1), mI v9, mI v10, mI v11, mI v12, mI s0] [] (up (up M 0 13 ((M 0 13) ||| (1 <<< (v8 &&& 31)))) 0 16 ((M 0 16) + v12)))))))))))) :
  jJ kB_X8_go d k 11 [mR 8 0 0, mI v1, mI v2, mI v3, mI v4, mI v5, mI v6, mI v7, mI v8, mI v9, mI v10, mI v11, mI v12, u13] [mI s0] M := Wt.blk (wpD_mono mB mNL d) (And.intro (fun c_25 => Wt.blk (wpD_mono mB mNL d) ((h.1 c_25))) (fun c_25 => And.intro (fun c_24 => Wt.blk (wpD_mono mB mNL d) (((h.2 c_25).1 c_24))) (fun c_24 => And.intro ((h.2 c_25).2 c_24).1 (And.intro (fun c_23 => Wt.blk (wpD_mono mB mNL d) ((((h.2 c_25).2 c_24).2.1 c_23))) (fun c_23 => And.intro (fun c_22 => Wt.blk (wpD_mono mB mNL d) (((((h.2 c_25).2 c_24).2.2 c_23).1 c_22))) (fun c_22 => Wt.blk (wpD_mono mB mNL d) (((((h.2 c_25).2 c_24).2.2 c_23).2 c_22))))))))
theorem v_X8_areBits_0 {d : Nat} {k : mQ} {M : mM} (v1 : Int32) (v2 : Int32) (v3 : Int32)
  (h : wpD mB mNL d zX8_in [mI v1, mI 0, mI 5] M (fun r_2 M_1 => wI r_2 fun x_4 =>
  ((x_4 = 0 → k (mI 0) M_1) ∧
     (¬ x_4 = 0 → wpD mB mNL d zX8_in [mI v2, mI 0, mI ((1 <<< ((M_1 0 6) &&& 31)) - 1)] M_1 (fun r_6 M_5 => wI r_6 fun x_8 =>
      ((x_8 = 0 → k (mI 0) M_5) ∧
         (¬ x_8 = 0 → wpD mB mNL d zX8_in [mI v3, mI 0, mI ((1 <<< ((M_5 0 4) &&& 31)) - 1)] M_5 (fun r_10 M_9 => wI r_10 fun x_12 =>
          ((x_12 = 0 → k (mI 0) M_9) ∧
             (¬ x_12 = 0 → k (mI 1) M_9)))))))))) :
  wpD mB mNL (d + 1) zX8_areBits [mR 8 0 0, mI v1, mI v2, mI v3] M k := (show jJ kB_X8_areBits d k 0 [mR 8 0 0, mI v1, mI v2, mI v3] [] M from Wt.blk (wpD_mono mB mNL d) (cI (fun x_4 M_1 h_3 => And.intro (fun c_15 => Wt.blk (wpD_mono mB mNL d) (Wt.blk (wpD_mono mB mNL d) (And.intro (Or.inl rfl) (h_3.1 c_15)))) (fun c_15 => cI (fun x_8 M_5 h_7 => And.intro (fun c_14 => Wt.blk (wpD_mono mB mNL d) (Wt.blk (wpD_mono mB mNL d) (And.intro (Or.inl rfl) (h_7.1 c_14)))) (fun c_14 => cI (fun x_12 M_9 h_11 => And.intro (fun c_13 => Wt.blk (wpD_mono mB mNL d) (Wt.blk (wpD_mono mB mNL d) (And.intro (Or.inl rfl) (h_11.1 c_13)))) (fun c_13 => Wt.blk (wpD_mono mB mNL d) (And.intro (Or.inr rfl) (h_11.2 c_13)))) (h_7.2 c_14))) (h_3.2 c_15))) h))
theorem v_X8_at_0 {d : Nat} {k : mQ} {M : mM} (v1 : Int32) (v2 : Int32) (v3 : Int32) (v4 : Int32) (v5 : Int32)
  (h : wpD mB mNL d zX8_in [mI v4, mI 0, mI (M 0 4)] M (fun r_2 M_1 => wI r_2 fun x_4 =>
  ((¬ x_4 = 0 → wpD mB mNL d zX8_areBits [mR 8 0 0, mI v1, mI v2, mI v3] M_1 (fun r_6 M_5 => wI r_6 fun x_8 =>
      ((x_8 = 0 → k (mI (-2)) M_5) ∧
         (¬ x_8 = 0 → wpD mB mNL d zX8_in [mI v5, mI 0, mI 1] M_5 (fun r_10 M_9 => wI r_10 fun x_12 =>
          ((¬ x_12 = 0 → wpD mB mNL d zX8_asLane [mR 8 0 0] M_9 (fun r_14 M_13 => wV r_14 (
              (vp_in 1 5 ∧ wpD mB mNL d zX8_go [mR 8 0 0, mI v1, mI v2, mI v3, mI (M_13 1 ((1 : Int32).toNatClampNeg))] M_13 (fun r_17 M_16 => wV r_17 (
                ((¬ v5 = 0 → (vp_in v4 10 ∧ k (mI (M_16 8 (v4.toNatClampNeg))) M_16)) ∧
                   (v5 = 0 → (vp_in v4 10 ∧ k (mI (M_16 7 (v4.toNatClampNeg))) M_16))))))))) ∧
             (x_12 = 0 → k (mI (-2)) M_9))))))) ∧
     (x_4 = 0 → k (mI (-1)) M_1)))) :
  wpD mB mNL (d + 1) zX8_at [mR 8 0 0, mI v1, mI v2, mI v3, mI v4, mI v5] M k := (show jJ kB_X8_at d k 0 [mR 8 0 0, mI v1, mI v2, mI v3, mI v4, mI v5] [] M from Wt.blk (wpD_mono mB mNL d) (cI (fun x_4 M_1 h_3 => And.intro (fun c_22 => Wt.blk (wpD_mono mB mNL d) (cI (fun x_8 M_5 h_7 => And.intro (fun c_21 => Wt.blk (wpD_mono mB mNL d) ((h_7.1 c_21))) (fun c_21 => cI (fun x_12 M_9 h_11 => And.intro (fun c_20 => Wt.blk (wpD_mono mB mNL d) (cV (fun M_13 h_15 => And.intro h_15.1 (cV (fun M_16 h_18 => And.intro (fun c_19 => Wt.blk (wpD_mono mB mNL d) (And.intro (h_18.1 c_19).1 (Wt.blk (wpD_mono mB mNL d) ((h_18.1 c_19).2)))) (fun c_19 => And.intro (h_18.2 c_19).1 (Wt.blk (wpD_mono mB mNL d) ((h_18.2 c_19).2)))) h_15.2)) (h_11.1 c_20))) (fun c_20 => Wt.blk (wpD_mono mB mNL d) ((h_11.2 c_20)))) (h_7.2 c_21))) (h_3.1 c_22))) (fun c_22 => (h_3.2 c_22))) h))
theorem v_X8_run_0 {d : Nat} {k : mQ} {M : mM} (v1 : Int32) (v2 : Int32) (v3 : Int32) (v4 : Int32)
  (h : wpD mB mNL d zX8_areBits [mR 8 0 0, mI v1, mI v2, mI v3] M (fun r_2 M_1 => wI r_2 fun x_4 =>
  ((x_4 = 0 → k (mI (-2)) M_1) ∧
     (¬ x_4 = 0 → wpD mB mNL d zX8_in [mI v4, mI 0, mI 3] M_1 (fun r_6 M_5 => wI r_6 fun x_8 =>
      ((¬ x_8 = 0 → wpD mB mNL d zX8_asLane [mR 8 0 0] M_5 (fun r_10 M_9 => wV r_10 (
          (vp_in 1 5 ∧ wpD mB mNL d zX8_go [mR 8 0 0, mI v1, mI v2, mI v3, mI (M_9 1 ((1 : Int32).toNatClampNeg))] M_9 (fun r_13 M_12 => wV r_13 (
            ((¬ v4 = 0 → ((¬ v4 = 1 → ((¬ v4 = 2 → k (mI (M_12 0 16)) M_12) ∧
                   (v4 = 2 → k (mI (M_12 0 15)) M_12))) ∧
                 (v4 = 1 → k (mI (M_12 0 14)) M_12))) ∧
               (v4 = 0 → k (mI (M_12 0 13)) M_12)))))))) ∧
         (x_8 = 0 → k (mI (-2)) M_5))))))) :
  wpD mB mNL (d + 1) zX8_run [mR 8 0 0, mI v1, mI v2, mI v3, mI v4] M k := (show jJ kB_X8_run d k 0 [mR 8 0 0, mI v1, mI v2, mI v3, mI v4] [] M from Wt.blk (wpD_mono mB mNL d) (cI (fun x_4 M_1 h_3 => And.intro (fun c_19 => Wt.blk (wpD_mono mB mNL d) ((h_3.1 c_19))) (fun c_19 => cI (fun x_8 M_5 h_7 => And.intro (fun c_18 => Wt.blk (wpD_mono mB mNL d) (cV (fun M_9 h_11 => And.intro h_11.1 (cV (fun M_12 h_14 => And.intro (fun c_17 => Wt.blk (wpD_mono mB mNL d) (And.intro (fun c_16 => Wt.blk (wpD_mono mB mNL d) (And.intro (fun c_15 => Wt.blk (wpD_mono mB mNL d) (Wt.blk (wpD_mono mB mNL d) ((((h_14.1 c_17).1 c_16).1 c_15)))) (fun c_15 => Wt.blk (wpD_mono mB mNL d) ((((h_14.1 c_17).1 c_16).2 c_15))))) (fun c_16 => Wt.blk (wpD_mono mB mNL d) (((h_14.1 c_17).2 c_16))))) (fun c_17 => Wt.blk (wpD_mono mB mNL d) ((h_14.2 c_17)))) h_11.2)) (h_7.1 c_18))) (fun c_18 => Wt.blk (wpD_mono mB mNL d) ((h_7.2 c_18)))) (h_3.2 c_19))) h))
theorem v_X8_judge_0 {d : Nat} {k : mQ} {M : mM} (v1 : Int32)
  (h : wpD mB mNL d zX8_in [mI v1, mI 0, mI 1] M (fun r_2 M_1 => wI r_2 fun x_4 =>
  ((¬ x_4 = 0 → wpD mB mNL d zX8_dayFault [mR 8 0 0] M_1 (fun r_6 M_5 => wI r_6 fun x_8 =>
      ((x_8 < 0 → wpD mB mNL d zX8_asLane [mR 8 0 0] M_5 (fun r_10 M_9 => wV r_10 (
          jJ kB_X8_judge d k 3 [mR 8 0 0, mI v1, mI 0, mI 0, none, none, none, none] [] M_9))) ∧
         (¬ x_8 < 0 → k (mI (-5)) M_5)))) ∧
     (x_4 = 0 → k (mI (-2)) M_1)))) :
  wpD mB mNL (d + 1) zX8_judge [mR 8 0 0, mI v1] M k := (show jJ kB_X8_judge d k 0 [mR 8 0 0, mI v1, none, none, none, none, none, none] [] M from Wt.blk (wpD_mono mB mNL d) (cI (fun x_4 M_1 h_3 => And.intro (fun c_13 => Wt.blk (wpD_mono mB mNL d) (cI (fun x_8 M_5 h_7 => And.intro (fun c_12 => Wt.blk (wpD_mono mB mNL d) (cV (fun M_9 h_11 => h_11) (h_7.1 c_12))) (fun c_12 => (h_7.2 c_12))) (h_3.1 c_13))) (fun c_13 => (h_3.2 c_13))) h))
theorem v_X8_judge_3 {d : Nat} {k : mQ} {M : mM} (v1 : Int32) (v2 : Int32) (v3 : Int32) (u4 : mV) (u5 : mV) (u6 : mV) (u7 : mV)
  (h : ((6 ≤ v3 → k (mI (-6)) M) ∧
   (¬ 6 ≤ v3 → jJ kB_X8_judge d k 4 [mR 8 0 0, mI v1, mI v2, mI v3, mI 0, mI 0, u6, u7] [] M))) :
  jJ kB_X8_judge d k 3 [mR 8 0 0, mI v1, mI v2, mI v3, u4, u5, u6, u7] [] M := Wt.blk (wpD_mono mB mNL d) (And.intro (fun c_14 => Wt.blk (wpD_mono mB mNL d) ((h.1 c_14))) (fun c_14 => (h.2 c_14)))
theorem v_X8_judge_4 {d : Nat} {k : mQ} {M : mM} (v1 : Int32) (v2 : Int32) (v3 : Int32) (v4 : Int32) (v5 : Int32) (u6 : mV) (u7 : mV)
  (h : (((M 0 2) ≤ v2 → jJ kB_X8_judge d k 9 [mR 8 0 0, mI v1, mI v2, mI v3, mI v4, mI v5, u6, u7] [] M) ∧
   (¬ (M 0 2) ≤ v2 → (vp_in v2 48 ∧ (((M 3 (v2.toNatClampNeg)) = 47 → jJ kB_X8_judge d k 9 [mR 8 0 0, mI v1, mI v2, mI v3, mI v4, mI v5, u6, u7] [] M) ∧
     (¬ (M 3 (v2.toNatClampNeg)) = 47 → (vp_in v2 48 ∧ wpD mB mNL d zX8_in [mI (M 3 (v2.toNatClampNeg)), mI 49, mI 52] M (fun r_16 M_15 => wI r_16 fun x_18 =>
      ((x_18 = 0 → jJ kB_X8_judge d k 6 [mR 8 0 0, mI v1, mI v2, mI v3, mI v4, mI v5, u6, u7] [mI 0, mI v4] M_15) ∧
         (¬ x_18 = 0 → (vp_in v2 48 ∧ jJ kB_X8_judge d k 6 [mR 8 0 0, mI v1, mI v2, mI v3, mI v4, mI v5, u6, u7] [mI (1 <<< (((M_15 3 (v2.toNatClampNeg)) - 49) &&& 31)), mI v4] M_15))))))))))) :
  jJ kB_X8_judge d k 4 [mR 8 0 0, mI v1, mI v2, mI v3, mI v4, mI v5, u6, u7] [] M := Wt.blk (wpD_mono mB mNL d) (And.intro (fun c_21 => (h.1 c_21)) (fun c_21 => And.intro (h.2 c_21).1 (And.intro (fun c_20 => ((h.2 c_21).2.1 c_20)) (fun c_20 => And.intro ((h.2 c_21).2.2 c_20).1 (cI (fun x_18 M_15 h_17 => And.intro (fun c_19 => Wt.blk (wpD_mono mB mNL d) ((h_17.1 c_19))) (fun c_19 => And.intro (h_17.2 c_19).1 ((h_17.2 c_19).2))) ((h.2 c_21).2.2 c_20).2)))))
theorem v_X8_judge_6 {d : Nat} {k : mQ} {M : mM} (v1 : Int32) (v2 : Int32) (v3 : Int32) (v4 : Int32) (v5 : Int32) (u6 : mV) (u7 : mV) (s0 : Int32) (s1 : Int32)
  (h : (vp_in v2 48 ∧ wpD mB mNL d zX8_in [mI (M 3 (v2.toNatClampNeg)), mI 65, mI 72] M (fun r_23 M_22 => wI r_23 fun x_25 =>
  ((x_25 = 0 → jJ kB_X8_judge d k 4 [mR 8 0 0, mI v1, mI (v2 + 1), mI v3, mI (s0 ||| s1), mI (v5 ||| 0), u6, u7] [] M_22) ∧
     (¬ x_25 = 0 → (vp_in v2 48 ∧ jJ kB_X8_judge d k 4 [mR 8 0 0, mI v1, mI (v2 + 1), mI v3, mI (s0 ||| s1), mI (v5 ||| (1 <<< (((M_22 3 (v2.toNatClampNeg)) - 65) &&& 31))), u6, u7] [] M_22)))))) :
  jJ kB_X8_judge d k 6 [mR 8 0 0, mI v1, mI v2, mI v3, mI v4, mI v5, u6, u7] [mI s1, mI s0] M := Wt.blk (wpD_mono mB mNL d) (And.intro h.1 (cI (fun x_25 M_22 h_24 => And.intro (fun c_26 => Wt.blk (wpD_mono mB mNL d) (Wt.blk (wpD_mono mB mNL d) ((h_24.1 c_26)))) (fun c_26 => And.intro (h_24.2 c_26).1 (Wt.blk (wpD_mono mB mNL d) ((h_24.2 c_26).2)))) h.2))
theorem v_X8_judge_9 {d : Nat} {k : mQ} {M : mM} (v1 : Int32) (v2 : Int32) (v3 : Int32) (v4 : Int32) (v5 : Int32) (u6 : mV) (u7 : mV)
  (h : (vp_in 1 5 ∧ wpD mB mNL d zX8_go [mR 8 0 0, mI v3, mI v4, mI v5, mI (M 1 ((1 : Int32).toNatClampNeg))] M (fun r_28 M_27 => wV r_28 (
  jJ kB_X8_judge d k 10 [mR 8 0 0, mI v1, mI (v2 + 1), mI v3, mI v4, mI v5, mI ((M_27 0 14) ||| (v5 &&& ((M_27 0 13) ^^^ (-1)))), mI 0] [] M_27)))) :
  jJ kB_X8_judge d k 9 [mR 8 0 0, mI v1, mI v2, mI v3, mI v4, mI v5, u6, u7] [] M := Wt.blk (wpD_mono mB mNL d) (And.intro h.1 (cV (fun M_27 h_29 => h_29) h.2))
theorem v_X8_judge_10 {d : Nat} {k : mQ} {M : mM} (v1 : Int32) (v2 : Int32) (v3 : Int32) (v4 : Int32) (v5 : Int32) (v6 : Int32) (v7 : Int32)
  (h : (((M 0 9) ≤ v7 → jJ kB_X8_judge d k 3 [mR 8 0 0, mI v1, mI v2, mI (v3 + 1), mI v4, mI v5, mI v6, mI v7] [] M) ∧
   (¬ (M 0 9) ≤ v7 → wpD mB mNL d zX8_has [mI v6, mI v7] M (fun r_31 M_30 => wI r_31 fun x_33 =>
    ((x_33 = 0 → jJ kB_X8_judge d k 10 [mR 8 0 0, mI v1, mI v2, mI v3, mI v4, mI v5, mI v6, mI (v7 + 1)] [] M_30) ∧
       (¬ x_33 = 0 → ((¬ v1 = 0 → k (mI v7) M_30) ∧
         (v1 = 0 → k (mI v3) M_30)))))))) :
  jJ kB_X8_judge d k 10 [mR 8 0 0, mI v1, mI v2, mI v3, mI v4, mI v5, mI v6, mI v7] [] M := Wt.blk (wpD_mono mB mNL d) (And.intro (fun c_36 => Wt.blk (wpD_mono mB mNL d) ((h.1 c_36))) (fun c_36 => cI (fun x_33 M_30 h_32 => And.intro (fun c_35 => Wt.blk (wpD_mono mB mNL d) ((h_32.1 c_35))) (fun c_35 => And.intro (fun c_34 => Wt.blk (wpD_mono mB mNL d) (Wt.blk (wpD_mono mB mNL d) (((h_32.2 c_35).1 c_34)))) (fun c_34 => Wt.blk (wpD_mono mB mNL d) (((h_32.2 c_35).2 c_34))))) (h.2 c_36)))
theorem v_X8_worthOf_0 {d : Nat} {k : mQ} {M : mM} (v1 : Int32)
  (h : jJ kB_X8_worthOf d k 1 [mR 8 0 0, mI v1, mI 0, mI 0] [] M) :
  wpD mB mNL (d + 1) zX8_worthOf [mR 8 0 0, mI v1] M k := (show jJ kB_X8_worthOf d k 0 [mR 8 0 0, mI v1, none, none] [] M from Wt.blk (wpD_mono mB mNL d) (h))
theorem v_X8_worthOf_1 {d : Nat} {k : mQ} {M : mM} (v1 : Int32) (v2 : Int32) (v3 : Int32)
  (h : (((M 0 9) ≤ v3 → k (mI v2) M) ∧
   (¬ (M 0 9) ≤ v3 → wpD mB mNL d zX8_has [mI v1, mI v3] M (fun r_2 M_1 => wI r_2 fun x_4 =>
    ((x_4 = 0 → jJ kB_X8_worthOf d k 1 [mR 8 0 0, mI v1, mI (v2 + 0), mI (v3 + 1)] [] M_1) ∧
       (¬ x_4 = 0 → (vp_in (3 * v3) 27 ∧ (vp_in (18 + (M_1 6 ((3 * v3).toNatClampNeg))) 30 ∧ jJ kB_X8_worthOf d k 1 [mR 8 0 0, mI v1, mI (v2 + (M_1 2 ((18 + (M_1 6 ((3 * v3).toNatClampNeg))).toNatClampNeg))), mI (v3 + 1)] [] M_1)))))))) :
  jJ kB_X8_worthOf d k 1 [mR 8 0 0, mI v1, mI v2, mI v3] [] M := Wt.blk (wpD_mono mB mNL d) (And.intro (fun c_6 => Wt.blk (wpD_mono mB mNL d) ((h.1 c_6))) (fun c_6 => cI (fun x_4 M_1 h_3 => And.intro (fun c_5 => Wt.blk (wpD_mono mB mNL d) (Wt.blk (wpD_mono mB mNL d) ((h_3.1 c_5)))) (fun c_5 => And.intro (h_3.2 c_5).1 (And.intro (h_3.2 c_5).2.1 (Wt.blk (wpD_mono mB mNL d) ((h_3.2 c_5).2.2))))) (h.2 c_6)))
theorem v_X8_layBest_0 {d : Nat} {k : mQ} {M : mM} (v1 : Int32)
  (h : jJ kB_X8_layBest d k 1 [mR 8 0 0, mI v1, mI (-6), mI 0, none] [] (up M 0 17 0)) :
  wpD mB mNL (d + 1) zX8_layBest [mR 8 0 0, mI v1] M k := (show jJ kB_X8_layBest d k 0 [mR 8 0 0, mI v1, none, none, none] [] M from Wt.blk (wpD_mono mB mNL d) (h))
theorem v_X8_layBest_1 {d : Nat} {k : mQ} {M : mM} (v1 : Int32) (v2 : Int32) (v3 : Int32) (u4 : mV)
  (h : (((1 <<< ((M 0 6) &&& 31)) ≤ v3 → k (mI v2) M) ∧
   (¬ (1 <<< ((M 0 6) &&& 31)) ≤ v3 → jJ kB_X8_layBest d k 2 [mR 8 0 0, mI v1, mI v2, mI v3, mI 0] [] M))) :
  jJ kB_X8_layBest d k 1 [mR 8 0 0, mI v1, mI v2, mI v3, u4] [] M := Wt.blk (wpD_mono mB mNL d) (And.intro (fun c_1 => Wt.blk (wpD_mono mB mNL d) ((h.1 c_1))) (fun c_1 => (h.2 c_1)))
theorem v_X8_layBest_2 {d : Nat} {k : mQ} {M : mM} (v1 : Int32) (v2 : Int32) (v3 : Int32) (v4 : Int32)
  (h : (((1 <<< ((M 0 9) &&& 31)) ≤ v4 → jJ kB_X8_layBest d k 1 [mR 8 0 0, mI v1, mI v2, mI (v3 + 1), mI v4] [] M) ∧
   (¬ (1 <<< ((M 0 9) &&& 31)) ≤ v4 → (vp_in 1 5 ∧ wpD mB mNL d zX8_go [mR 8 0 0, mI v1, mI v3, mI v4, mI (M 1 ((1 : Int32).toNatClampNeg))] M (fun r_3 M_2 => wV r_3 (
    ((¬ (M_2 0 14) = 0 → jJ kB_X8_layBest d k 2 [mR 8 0 0, mI v1, mI v2, mI v3, mI (v4 + 1)] [] M_2) ∧
       ((M_2 0 14) = 0 → ((¬ (M_2 0 13) = v4 → jJ kB_X8_layBest d k 2 [mR 8 0 0, mI v1, mI v2, mI v3, mI (v4 + 1)] [] M_2) ∧
         ((M_2 0 13) = v4 → wpD mB mNL d zX8_worthOf [mR 8 0 0, mI (M_2 0 13)] M_2 (fun r_6 M_5 => wI r_6 fun x_8 =>
          ((x_8 ≤ v2 → jJ kB_X8_layBest d k 2 [mR 8 0 0, mI v1, mI v2, mI v3, mI (v4 + 1)] [] M_5) ∧
             (¬ x_8 ≤ v2 → wpD mB mNL d zX8_worthOf [mR 8 0 0, mI (M_5 0 13)] M_5 (fun r_10 M_9 => wI r_10 fun x_12 =>
              jJ kB_X8_layBest d k 2 [mR 8 0 0, mI v1, mI x_12, mI v3, mI (v4 + 1)] [] (up M_9 0 17 ((v3 <<< (9 &&& 31)) + v4)))))))))))))))) :
  jJ kB_X8_layBest d k 2 [mR 8 0 0, mI v1, mI v2, mI v3, mI v4] [] M := Wt.blk (wpD_mono mB mNL d) (And.intro (fun c_16 => Wt.blk (wpD_mono mB mNL d) ((h.1 c_16))) (fun c_16 => And.intro (h.2 c_16).1 (cV (fun M_2 h_4 => And.intro (fun c_15 => Wt.blk (wpD_mono mB mNL d) ((h_4.1 c_15))) (fun c_15 => And.intro (fun c_14 => Wt.blk (wpD_mono mB mNL d) (((h_4.2 c_15).1 c_14))) (fun c_14 => cI (fun x_8 M_5 h_7 => And.intro (fun c_13 => Wt.blk (wpD_mono mB mNL d) ((h_7.1 c_13))) (fun c_13 => cI (fun x_12 M_9 h_11 => Wt.blk (wpD_mono mB mNL d) (h_11)) (h_7.2 c_13))) ((h_4.2 c_15).2 c_14)))) (h.2 c_16).2)))
theorem v_X8_best_0 {d : Nat} {k : mQ} {M : mM} (v1 : Int32) (v2 : Int32)
  (h : wpD mB mNL d zX8_in [mI v1, mI 0, mI 5] M (fun r_2 M_1 => wI r_2 fun x_4 =>
  ((x_4 = 0 → k (mI (-2)) M_1) ∧
     (¬ x_4 = 0 → wpD mB mNL d zX8_in [mI v2, mI 0, mI 2] M_1 (fun r_6 M_5 => wI r_6 fun x_8 =>
      ((¬ x_8 = 0 → wpD mB mNL d zX8_asLane [mR 8 0 0] M_5 (fun r_10 M_9 => wV r_10 (
          wpD mB mNL d zX8_layBest [mR 8 0 0, mI v1] M_9 (fun r_13 M_12 => wI r_13 fun x_15 =>
            ((x_15 < 0 → k (mI x_15) M_12) ∧
               (¬ x_15 < 0 → ((¬ v2 = 0 → ((¬ v2 = 1 → k (mI ((M_12 0 17) &&& 511)) M_12) ∧
                   (v2 = 1 → k (mI ((M_12 0 17) >>> (9 &&& 31))) M_12))) ∧
                 (v2 = 0 → k (mI x_15) M_12)))))))) ∧
         (x_8 = 0 → k (mI (-2)) M_5))))))) :
  wpD mB mNL (d + 1) zX8_best [mR 8 0 0, mI v1, mI v2] M k := (show jJ kB_X8_best d k 0 [mR 8 0 0, mI v1, mI v2, none] [] M from Wt.blk (wpD_mono mB mNL d) (cI (fun x_4 M_1 h_3 => And.intro (fun c_20 => Wt.blk (wpD_mono mB mNL d) ((h_3.1 c_20))) (fun c_20 => cI (fun x_8 M_5 h_7 => And.intro (fun c_19 => Wt.blk (wpD_mono mB mNL d) (cV (fun M_9 h_11 => cI (fun x_15 M_12 h_14 => And.intro (fun c_18 => Wt.blk (wpD_mono mB mNL d) (Wt.blk (wpD_mono mB mNL d) ((h_14.1 c_18)))) (fun c_18 => And.intro (fun c_17 => Wt.blk (wpD_mono mB mNL d) (And.intro (fun c_16 => Wt.blk (wpD_mono mB mNL d) (Wt.blk (wpD_mono mB mNL d) ((((h_14.2 c_18).1 c_17).1 c_16)))) (fun c_16 => Wt.blk (wpD_mono mB mNL d) ((((h_14.2 c_18).1 c_17).2 c_16))))) (fun c_17 => Wt.blk (wpD_mono mB mNL d) (Wt.blk (wpD_mono mB mNL d) (((h_14.2 c_18).2 c_17)))))) h_11) (h_7.1 c_19))) (fun c_19 => Wt.blk (wpD_mono mB mNL d) ((h_7.2 c_19)))) (h_3.2 c_20))) h))
theorem v_X8_moss_0 {d : Nat} {k : mQ} {M : mM} (v1 : Int32) (v2 : Int32) (v3 : Int32)
  (h : wpD mB mNL d zX8_in [mI v1, mI 0, mI 5] M (fun r_2 M_1 => wI r_2 fun x_4 =>
  ((x_4 = 0 → k (mI (-2)) M_1) ∧
     (¬ x_4 = 0 → wpD mB mNL d zX8_in [mI v2, mI 0, mI 8] M_1 (fun r_6 M_5 => wI r_6 fun x_8 =>
      ((x_8 = 0 → k (mI (-2)) M_5) ∧
         (¬ x_8 = 0 → wpD mB mNL d zX8_in [mI v3, mI 0, mI 1] M_5 (fun r_10 M_9 => wI r_10 fun x_12 =>
          ((¬ x_12 = 0 → jJ kB_X8_moss d k 3 [mR 8 0 0, mI v1, mI v2, mI v3, mI (-6), mI (-6), mI 0, none] [] M_9) ∧
             (x_12 = 0 → k (mI (-2)) M_9)))))))))) :
  wpD mB mNL (d + 1) zX8_moss [mR 8 0 0, mI v1, mI v2, mI v3] M k := (show jJ kB_X8_moss d k 0 [mR 8 0 0, mI v1, mI v2, mI v3, none, none, none, none] [] M from Wt.blk (wpD_mono mB mNL d) (cI (fun x_4 M_1 h_3 => And.intro (fun c_15 => Wt.blk (wpD_mono mB mNL d) ((h_3.1 c_15))) (fun c_15 => cI (fun x_8 M_5 h_7 => And.intro (fun c_14 => Wt.blk (wpD_mono mB mNL d) ((h_7.1 c_14))) (fun c_14 => cI (fun x_12 M_9 h_11 => And.intro (fun c_13 => Wt.blk (wpD_mono mB mNL d) ((h_11.1 c_13))) (fun c_13 => Wt.blk (wpD_mono mB mNL d) ((h_11.2 c_13)))) (h_7.2 c_14))) (h_3.2 c_15))) h))
theorem v_X8_moss_3 {d : Nat} {k : mQ} {M : mM} (v1 : Int32) (v2 : Int32) (v3 : Int32) (v4 : Int32) (v5 : Int32) (v6 : Int32) (u7 : mV)
  (h : (((1 <<< ((M 0 4) &&& 31)) ≤ v6 → ((¬ v3 = 0 → k (mI v5) M) ∧
     (v3 = 0 → k (mI v4) M))) ∧
   (¬ (1 <<< ((M 0 4) &&& 31)) ≤ v6 → wpD mB mNL d zX8_bits [mI v6] M (fun r_18 M_17 => wI r_18 fun x_20 =>
    ((v2 < x_20 → jJ kB_X8_moss d k 3 [mR 8 0 0, mI v1, mI v2, mI v3, mI v4, mI v5, mI (v6 + 1), u7] [] M_17) ∧
       (¬ v2 < x_20 → wpD mB mNL d zX8_asLane [mR 8 0 0] M_17 (fun r_22 M_21 => wV r_22 (
        jJ kB_X8_moss d k 4 [mR 8 0 0, mI v1, mI v2, mI v3, mI v4, mI v5, mI v6, mI 0] [] M_21)))))))) :
  jJ kB_X8_moss d k 3 [mR 8 0 0, mI v1, mI v2, mI v3, mI v4, mI v5, mI v6, u7] [] M := Wt.blk (wpD_mono mB mNL d) (And.intro (fun c_25 => Wt.blk (wpD_mono mB mNL d) (And.intro (fun c_16 => Wt.blk (wpD_mono mB mNL d) (Wt.blk (wpD_mono mB mNL d) (((h.1 c_25).1 c_16)))) (fun c_16 => Wt.blk (wpD_mono mB mNL d) (((h.1 c_25).2 c_16))))) (fun c_25 => cI (fun x_20 M_17 h_19 => And.intro (fun c_24 => Wt.blk (wpD_mono mB mNL d) ((h_19.1 c_24))) (fun c_24 => cV (fun M_21 h_23 => h_23) (h_19.2 c_24))) (h.2 c_25)))
theorem v_X8_moss_4 {d : Nat} {k : mQ} {M : mM} (v1 : Int32) (v2 : Int32) (v3 : Int32) (v4 : Int32) (v5 : Int32) (v6 : Int32) (v7 : Int32)
  (h : (((M 0 4) ≤ v7 → wpD mB mNL d zX8_layBest [mR 8 0 0, mI v1] M (fun r_27 M_26 => wI r_27 fun x_29 =>
    ((v5 < x_29 → jJ kB_X8_moss d k 8 [mR 8 0 0, mI v1, mI v2, mI v3, mI v4, mI v5, mI v6, mI x_29] [] M_26) ∧
       (¬ v5 < x_29 → ((¬ x_29 = v5 → jJ kB_X8_moss d k 3 [mR 8 0 0, mI v1, mI v2, mI v3, mI v4, mI v5, mI (v6 + 1), mI x_29] [] M_26) ∧
         (x_29 = v5 → ((v4 < 0 → jJ kB_X8_moss d k 3 [mR 8 0 0, mI v1, mI v2, mI v3, mI v4, mI v5, mI (v6 + 1), mI x_29] [] M_26) ∧
           (¬ v4 < 0 → wpD mB mNL d zX8_bits [mI v6] M_26 (fun r_31 M_30 => wI r_31 fun x_33 =>
            wpD mB mNL d zX8_bits [mI v4] M_30 (fun r_35 M_34 => wI r_35 fun x_37 =>
              ((x_37 ≤ x_33 → jJ kB_X8_moss d k 3 [mR 8 0 0, mI v1, mI v2, mI v3, mI v4, mI v5, mI (v6 + 1), mI x_29] [] M_34) ∧
                 (¬ x_37 ≤ x_33 → jJ kB_X8_moss d k 8 [mR 8 0 0, mI v1, mI v2, mI v3, mI v4, mI v5, mI v6, mI x_29] [] M_34)))))))))))) ∧
   (¬ (M 0 4) ≤ v7 → wpD mB mNL d zX8_has [mI v6, mI v7] M (fun r_43 M_42 => wI r_43 fun x_45 =>
    ((x_45 = 0 → (vp_in ((3 * v7) + 1) 24 ∧ (vp_in ((3 * v7) + 1) 27 ∧ jJ kB_X8_moss d k 4 [mR 8 0 0, mI v1, mI v2, mI v3, mI v4, mI v5, mI v6, mI (v7 + 1)] [] (up M_42 6 (((3 * v7) + 1).toNatClampNeg) (M_42 4 (((3 * v7) + 1).toNatClampNeg)))))) ∧
       (¬ x_45 = 0 → (vp_in ((3 * v7) + 1) 27 ∧ jJ kB_X8_moss d k 4 [mR 8 0 0, mI v1, mI v2, mI v3, mI v4, mI v5, mI v6, mI (v7 + 1)] [] (up M_42 6 (((3 * v7) + 1).toNatClampNeg) 0)))))))) :
  jJ kB_X8_moss d k 4 [mR 8 0 0, mI v1, mI v2, mI v3, mI v4, mI v5, mI v6, mI v7] [] M := Wt.blk (wpD_mono mB mNL d) (And.intro (fun c_47 => Wt.blk (wpD_mono mB mNL d) (cI (fun x_29 M_26 h_28 => And.intro (fun c_41 => (h_28.1 c_41)) (fun c_41 => And.intro (fun c_40 => Wt.blk (wpD_mono mB mNL d) (((h_28.2 c_41).1 c_40))) (fun c_40 => And.intro (fun c_39 => Wt.blk (wpD_mono mB mNL d) ((((h_28.2 c_41).2 c_40).1 c_39))) (fun c_39 => cI (fun x_33 M_30 h_32 => cI (fun x_37 M_34 h_36 => And.intro (fun c_38 => Wt.blk (wpD_mono mB mNL d) ((h_36.1 c_38))) (fun c_38 => (h_36.2 c_38))) h_32) (((h_28.2 c_41).2 c_40).2 c_39))))) (h.1 c_47))) (fun c_47 => cI (fun x_45 M_42 h_44 => And.intro (fun c_46 => Wt.blk (wpD_mono mB mNL d) (And.intro (h_44.1 c_46).1 (Wt.blk (wpD_mono mB mNL d) (And.intro (h_44.1 c_46).2.1 ((h_44.1 c_46).2.2))))) (fun c_46 => Wt.blk (wpD_mono mB mNL d) (And.intro (h_44.2 c_46).1 ((h_44.2 c_46).2)))) (h.2 c_47)))
theorem v_X8_moss_8 {d : Nat} {k : mQ} {M : mM} (v1 : Int32) (v2 : Int32) (v3 : Int32) (v4 : Int32) (v5 : Int32) (v6 : Int32) (v7 : Int32)
  (h : ((0 ≤ v7 → jJ kB_X8_moss d k 3 [mR 8 0 0, mI v1, mI v2, mI v3, mI v6, mI v7, mI (v6 + 1), mI v7] [] M) ∧
   (¬ 0 ≤ v7 → jJ kB_X8_moss d k 3 [mR 8 0 0, mI v1, mI v2, mI v3, mI (-6), mI v7, mI (v6 + 1), mI v7] [] M))) :
  jJ kB_X8_moss d k 8 [mR 8 0 0, mI v1, mI v2, mI v3, mI v4, mI v5, mI v6, mI v7] [] M := Wt.blk (wpD_mono mB mNL d) (And.intro (fun c_48 => Wt.blk (wpD_mono mB mNL d) (Wt.blk (wpD_mono mB mNL d) (Wt.blk (wpD_mono mB mNL d) ((h.1 c_48))))) (fun c_48 => Wt.blk (wpD_mono mB mNL d) (Wt.blk (wpD_mono mB mNL d) ((h.2 c_48)))))
theorem v_X8_cools_0 {d : Nat} {k : mQ} {M : mM} (v1 : Int32) (v2 : Int32) (v3 : Int32)
  (h : wpD mB mNL d zX8_areBits [mR 8 0 0, mI v1, mI v2, mI v3] M (fun r_2 M_1 => wI r_2 fun x_4 =>
  ((¬ x_4 = 0 → wpD mB mNL d zX8_asLane [mR 8 0 0] M_1 (fun r_6 M_5 => wV r_6 (
      jJ kB_X8_cools d k 2 [mR 8 0 0, mI v1, mI v2, mI v3, mI 0] [] M_5))) ∧
     (x_4 = 0 → k (mI (-2)) M_1)))) :
  wpD mB mNL (d + 1) zX8_cools [mR 8 0 0, mI v1, mI v2, mI v3] M k := (show jJ kB_X8_cools d k 0 [mR 8 0 0, mI v1, mI v2, mI v3, none] [] M from Wt.blk (wpD_mono mB mNL d) (cI (fun x_4 M_1 h_3 => And.intro (fun c_8 => Wt.blk (wpD_mono mB mNL d) (cV (fun M_5 h_7 => h_7) (h_3.1 c_8))) (fun c_8 => (h_3.2 c_8))) h))
theorem v_X8_cools_2 {d : Nat} {k : mQ} {M : mM} (v1 : Int32) (v2 : Int32) (v3 : Int32) (v4 : Int32)
  (h : ((1000 < v4 → k (mI (-6)) M) ∧
   (¬ 1000 < v4 → wpD mB mNL d zX8_go [mR 8 0 0, mI v1, mI v2, mI v3, mI v4] M (fun r_10 M_9 => wV r_10 (
    ((¬ (M_9 0 14) = 0 → jJ kB_X8_cools d k 2 [mR 8 0 0, mI v1, mI v2, mI v3, mI (v4 + 1)] [] M_9) ∧
       ((M_9 0 14) = 0 → ((¬ (M_9 0 13) = v3 → jJ kB_X8_cools d k 2 [mR 8 0 0, mI v1, mI v2, mI v3, mI (v4 + 1)] [] M_9) ∧
         ((M_9 0 13) = v3 → k (mI v4) M_9))))))))) :
  jJ kB_X8_cools d k 2 [mR 8 0 0, mI v1, mI v2, mI v3, mI v4] [] M := Wt.blk (wpD_mono mB mNL d) (And.intro (fun c_14 => Wt.blk (wpD_mono mB mNL d) ((h.1 c_14))) (fun c_14 => cV (fun M_9 h_11 => And.intro (fun c_13 => Wt.blk (wpD_mono mB mNL d) ((h_11.1 c_13))) (fun c_13 => And.intro (fun c_12 => Wt.blk (wpD_mono mB mNL d) (((h_11.2 c_13).1 c_12))) (fun c_12 => ((h_11.2 c_13).2 c_12)))) (h.2 c_14)))
theorem v_X8_putAt_0 {d : Nat} {k : mQ} {M : mM} (v1 : Int32) (v2 : Int32)
  (h : wpD mB mNL d zX8_asLane [mR 8 0 0] M (fun r_2 M_1 => wV r_2 (
  jJ kB_X8_putAt d k 1 [mR 8 0 0, mI v1, mI v2, mI ((3 * (M_1 0 4)) - 1)] [] M_1))) :
  wpD mB mNL (d + 1) zX8_putAt [mR 8 0 0, mI v1, mI v2] M k := (show jJ kB_X8_putAt d k 0 [mR 8 0 0, mI v1, mI v2, none] [] M from Wt.blk (wpD_mono mB mNL d) (cV (fun M_1 h_3 => h_3) h))
theorem v_X8_putAt_1 {d : Nat} {k : mQ} {M : mM} (v1 : Int32) (v2 : Int32) (v3 : Int32)
  (h : ((v3 < (3 * v2) → (vp_in (3 * v2) 27 ∧ (vp_in ((3 * v2) + 1) 27 ∧ (vp_in ((3 * v2) + 2) 27 ∧ k none (up (up (up (up M 6 ((3 * v2).toNatClampNeg) v1) 6 (((3 * v2) + 1).toNatClampNeg) 0) 6 (((3 * v2) + 2).toNatClampNeg) (-6)) 0 9 ((M 0 4) + 1)))))) ∧
   (¬ v3 < (3 * v2) → (vp_in v3 27 ∧ (vp_in (v3 + 3) 27 ∧ jJ kB_X8_putAt d k 1 [mR 8 0 0, mI v1, mI v2, mI (v3 + (-1))] [] (up M 6 ((v3 + 3).toNatClampNeg) (M 6 (v3.toNatClampNeg)))))))) :
  jJ kB_X8_putAt d k 1 [mR 8 0 0, mI v1, mI v2, mI v3] [] M := Wt.blk (wpD_mono mB mNL d) (And.intro (fun c_4 => Wt.blk (wpD_mono mB mNL d) (And.intro (h.1 c_4).1 (And.intro (h.1 c_4).2.1 (And.intro (h.1 c_4).2.2.1 ((h.1 c_4).2.2.2))))) (fun c_4 => And.intro (h.2 c_4).1 (And.intro (h.2 c_4).2.1 ((h.2 c_4).2.2))))
theorem v_X8_put_0 {d : Nat} {k : mQ} {M : mM} (v1 : Int32) (v2 : Int32) (v3 : Int32)
  (h : wpD mB mNL d zX8_in [mI v2, mI 0, mI 5] M (fun r_2 M_1 => wI r_2 fun x_4 =>
  ((x_4 = 0 → k (mI (-1)) M_1) ∧
     (¬ x_4 = 0 → wpD mB mNL d zX8_in [mI v3, mI 0, mI (M_1 0 4)] M_1 (fun r_6 M_5 => wI r_6 fun x_8 =>
      ((¬ x_8 = 0 → wpD mB mNL d zX8_in [mI v1, mI 0, mI 5] M_5 (fun r_10 M_9 => wI r_10 fun x_12 =>
          ((¬ x_12 = 0 → ((¬ (M_9 0 4) = 8 → wpD mB mNL d zX8_putAt [mR 8 0 0, mI v2, mI v3] M_9 (fun r_14 M_13 => wV r_14 (
                wpD mB mNL d zX8_layBest [mR 8 0 0, mI v1] M_13 (fun r_17 M_16 => wI r_17 fun x_19 =>
                  k (mI x_19) M_16)))) ∧
               ((M_9 0 4) = 8 → k (mI (-4)) M_9))) ∧
             (x_12 = 0 → k (mI (-2)) M_9)))) ∧
         (x_8 = 0 → k (mI (-1)) M_5))))))) :
  wpD mB mNL (d + 1) zX8_put [mR 8 0 0, mI v1, mI v2, mI v3] M k := (show jJ kB_X8_put d k 0 [mR 8 0 0, mI v1, mI v2, mI v3] [] M from Wt.blk (wpD_mono mB mNL d) (cI (fun x_4 M_1 h_3 => And.intro (fun c_23 => Wt.blk (wpD_mono mB mNL d) ((h_3.1 c_23))) (fun c_23 => cI (fun x_8 M_5 h_7 => And.intro (fun c_22 => Wt.blk (wpD_mono mB mNL d) (cI (fun x_12 M_9 h_11 => And.intro (fun c_21 => Wt.blk (wpD_mono mB mNL d) (And.intro (fun c_20 => Wt.blk (wpD_mono mB mNL d) (cV (fun M_13 h_15 => cI (fun x_19 M_16 h_18 => h_18) h_15) ((h_11.1 c_21).1 c_20))) (fun c_20 => ((h_11.1 c_21).2 c_20)))) (fun c_21 => (h_11.2 c_21))) (h_7.1 c_22))) (fun c_22 => Wt.blk (wpD_mono mB mNL d) ((h_7.2 c_22)))) (h_3.2 c_23))) h))
theorem v_X8_where_0 {d : Nat} {k : mQ} {M : mM} (v1 : Int32) (v2 : Int32) (v3 : Int32)
  (h : wpD mB mNL d zX8_in [mI v2, mI 0, mI 5] M (fun r_2 M_1 => wI r_2 fun x_4 =>
  ((¬ x_4 = 0 → wpD mB mNL d zX8_in [mI v1, mI 0, mI 5] M_1 (fun r_6 M_5 => wI r_6 fun x_8 =>
      ((x_8 = 0 → k (mI (-2)) M_5) ∧
         (¬ x_8 = 0 → wpD mB mNL d zX8_in [mI v3, mI 0, mI 1] M_5 (fun r_10 M_9 => wI r_10 fun x_12 =>
          ((¬ x_12 = 0 → ((¬ (M_9 0 4) = 8 → jJ kB_X8_where d k 5 [mR 8 0 0, mI v1, mI v2, mI v3, mI (-6), mI (-6), mI 0, none] [] M_9) ∧
               ((M_9 0 4) = 8 → k (mI (-4)) M_9))) ∧
             (x_12 = 0 → k (mI (-2)) M_9))))))) ∧
     (x_4 = 0 → k (mI (-1)) M_1)))) :
  wpD mB mNL (d + 1) zX8_where [mR 8 0 0, mI v1, mI v2, mI v3] M k := (show jJ kB_X8_where d k 0 [mR 8 0 0, mI v1, mI v2, mI v3, none, none, none, none] [] M from Wt.blk (wpD_mono mB mNL d) (cI (fun x_4 M_1 h_3 => And.intro (fun c_16 => Wt.blk (wpD_mono mB mNL d) (cI (fun x_8 M_5 h_7 => And.intro (fun c_15 => Wt.blk (wpD_mono mB mNL d) ((h_7.1 c_15))) (fun c_15 => cI (fun x_12 M_9 h_11 => And.intro (fun c_14 => Wt.blk (wpD_mono mB mNL d) (And.intro (fun c_13 => Wt.blk (wpD_mono mB mNL d) (((h_11.1 c_14).1 c_13))) (fun c_13 => ((h_11.1 c_14).2 c_13)))) (fun c_14 => Wt.blk (wpD_mono mB mNL d) ((h_11.2 c_14)))) (h_7.2 c_15))) (h_3.1 c_16))) (fun c_16 => (h_3.2 c_16))) h))
theorem v_X8_where_5 {d : Nat} {k : mQ} {M : mM} (v1 : Int32) (v2 : Int32) (v3 : Int32) (v4 : Int32) (v5 : Int32) (v6 : Int32) (u7 : mV)
  (h : (((M 0 4) < v6 → ((¬ v3 = 0 → k (mI v5) M) ∧
     (v3 = 0 → k (mI v4) M))) ∧
   (¬ (M 0 4) < v6 → wpD mB mNL d zX8_putAt [mR 8 0 0, mI v2, mI v6] M (fun r_19 M_18 => wV r_19 (
    wpD mB mNL d zX8_layBest [mR 8 0 0, mI v1] M_18 (fun r_22 M_21 => wI r_22 fun x_24 =>
      ((x_24 ≤ v5 → jJ kB_X8_where d k 5 [mR 8 0 0, mI v1, mI v2, mI v3, mI v4, mI v5, mI (v6 + 1), mI x_24] [] M_21) ∧
         (¬ x_24 ≤ v5 → jJ kB_X8_where d k 5 [mR 8 0 0, mI v1, mI v2, mI v3, mI v6, mI x_24, mI (v6 + 1), mI x_24] [] M_21)))))))) :
  jJ kB_X8_where d k 5 [mR 8 0 0, mI v1, mI v2, mI v3, mI v4, mI v5, mI v6, u7] [] M := Wt.blk (wpD_mono mB mNL d) (And.intro (fun c_26 => Wt.blk (wpD_mono mB mNL d) (And.intro (fun c_17 => Wt.blk (wpD_mono mB mNL d) (Wt.blk (wpD_mono mB mNL d) (((h.1 c_26).1 c_17)))) (fun c_17 => Wt.blk (wpD_mono mB mNL d) (((h.1 c_26).2 c_17))))) (fun c_26 => cV (fun M_18 h_20 => cI (fun x_24 M_21 h_23 => And.intro (fun c_25 => Wt.blk (wpD_mono mB mNL d) ((h_23.1 c_25))) (fun c_25 => Wt.blk (wpD_mono mB mNL d) ((h_23.2 c_25)))) h_20) (h.2 c_26)))
theorem v_X8_nextOrder_0 {d : Nat} {k : mQ} {M : mM} 
  (h : jJ kB_X8_nextOrder d k 1 [mR 8 0 0, mI ((M 0 4) - 2), none, none, none] [] M) :
  wpD mB mNL (d + 1) zX8_nextOrder [mR 8 0 0] M k := (show jJ kB_X8_nextOrder d k 0 [mR 8 0 0, none, none, none, none] [] M from Wt.blk (wpD_mono mB mNL d) (h))
theorem v_X8_nextOrder_1 {d : Nat} {k : mQ} {M : mM} (v1 : Int32) (u2 : mV) (u3 : mV) (u4 : mV)
  (h : ((v1 < 0 → jJ kB_X8_nextOrder d k 2 [mR 8 0 0, mI v1, u2, u3, u4] [] M) ∧
   (¬ v1 < 0 → (vp_in v1 8 ∧ (vp_in (v1 + 1) 8 ∧ (((M 9 (v1.toNatClampNeg)) ≤ (M 9 ((v1 + 1).toNatClampNeg)) → jJ kB_X8_nextOrder d k 2 [mR 8 0 0, mI v1, u2, u3, u4] [] M) ∧
     (¬ (M 9 (v1.toNatClampNeg)) ≤ (M 9 ((v1 + 1).toNatClampNeg)) → jJ kB_X8_nextOrder d k 1 [mR 8 0 0, mI (v1 + (-1)), u2, u3, u4] [] M))))))) :
  jJ kB_X8_nextOrder d k 1 [mR 8 0 0, mI v1, u2, u3, u4] [] M := Wt.blk (wpD_mono mB mNL d) (And.intro (fun c_2 => (h.1 c_2)) (fun c_2 => And.intro (h.2 c_2).1 (And.intro (h.2 c_2).2.1 (And.intro (fun c_1 => ((h.2 c_2).2.2.1 c_1)) (fun c_1 => ((h.2 c_2).2.2.2 c_1))))))
theorem v_X8_nextOrder_2 {d : Nat} {k : mQ} {M : mM} (v1 : Int32) (u2 : mV) (u3 : mV) (u4 : mV)
  (h : ((0 ≤ v1 → jJ kB_X8_nextOrder d k 4 [mR 8 0 0, mI v1, mI ((M 0 4) - 1), u3, u4] [] M) ∧
   (¬ 0 ≤ v1 → k (mI 0) M))) :
  jJ kB_X8_nextOrder d k 2 [mR 8 0 0, mI v1, u2, u3, u4] [] M := Wt.blk (wpD_mono mB mNL d) (And.intro (fun c_3 => Wt.blk (wpD_mono mB mNL d) ((h.1 c_3))) (fun c_3 => And.intro (Or.inl rfl) (h.2 c_3)))
theorem v_X8_nextOrder_4 {d : Nat} {k : mQ} {M : mM} (v1 : Int32) (v2 : Int32) (u3 : mV) (u4 : mV)
  (h : (vp_in v2 8 ∧ (vp_in v1 8 ∧ (((M 9 (v1.toNatClampNeg)) ≤ (M 9 (v2.toNatClampNeg)) → wpD mB mNL d zX8_change [mR 8 0 0, mI v1, mI v2] M (fun r_5 M_4 => wV r_5 (
    jJ kB_X8_nextOrder d k 6 [mR 8 0 0, mI v1, mI v2, mI (v1 + 1), mI ((M_4 0 4) - 1)] [] M_4))) ∧
   (¬ (M 9 (v1.toNatClampNeg)) ≤ (M 9 (v2.toNatClampNeg)) → jJ kB_X8_nextOrder d k 4 [mR 8 0 0, mI v1, mI (v2 + (-1)), u3, u4] [] M))))) :
  jJ kB_X8_nextOrder d k 4 [mR 8 0 0, mI v1, mI v2, u3, u4] [] M := Wt.blk (wpD_mono mB mNL d) (And.intro h.1 (And.intro h.2.1 (And.intro (fun c_7 => Wt.blk (wpD_mono mB mNL d) (cV (fun M_4 h_6 => h_6) (h.2.2.1 c_7))) (fun c_7 => (h.2.2.2 c_7)))))
theorem v_X8_nextOrder_6 {d : Nat} {k : mQ} {M : mM} (v1 : Int32) (v2 : Int32) (v3 : Int32) (v4 : Int32)
  (h : ((v4 ≤ v3 → k (mI 1) M) ∧
   (¬ v4 ≤ v3 → wpD mB mNL d zX8_change [mR 8 0 0, mI v3, mI v4] M (fun r_9 M_8 => wV r_9 (
    jJ kB_X8_nextOrder d k 6 [mR 8 0 0, mI v1, mI v2, mI (v3 + 1), mI (v4 + (-1))] [] M_8))))) :
  jJ kB_X8_nextOrder d k 6 [mR 8 0 0, mI v1, mI v2, mI v3, mI v4] [] M := Wt.blk (wpD_mono mB mNL d) (And.intro (fun c_11 => Wt.blk (wpD_mono mB mNL d) (And.intro (Or.inr rfl) (h.1 c_11))) (fun c_11 => cV (fun M_8 h_10 => h_10) (h.2 c_11)))
theorem v_X8_change_0 {d : Nat} {k : mQ} {M : mM} (v1 : Int32) (v2 : Int32)
  (h : (vp_in v1 8 ∧ (vp_in v2 8 ∧ (vp_in v1 8 ∧ (vp_in v2 8 ∧ k none (up (up M 9 (v1.toNatClampNeg) (M 9 (v2.toNatClampNeg))) 9 (v2.toNatClampNeg) (M 9 (v1.toNatClampNeg)))))))) :
  wpD mB mNL (d + 1) zX8_change [mR 8 0 0, mI v1, mI v2] M k := (show jJ kB_X8_change d k 0 [mR 8 0 0, mI v1, mI v2, none] [] M from Wt.blk (wpD_mono mB mNL d) (And.intro h.1 (And.intro h.2.1 (And.intro h.2.2.1 (And.intro h.2.2.2.1 (h.2.2.2.2))))))
theorem v_X8_order_0 {d : Nat} {k : mQ} {M : mM} (v1 : Int32) (v2 : Int32)
  (h : wpD mB mNL d zX8_in [mI v1, mI 0, mI 5] M (fun r_2 M_1 => wI r_2 fun x_4 =>
  ((x_4 = 0 → k (mI (-2)) M_1) ∧
     (¬ x_4 = 0 → wpD mB mNL d zX8_in [mI v2, mI (-1), mI ((M_1 0 4) - 1)] M_1 (fun r_6 M_5 => wI r_6 fun x_8 =>
      ((¬ x_8 = 0 → (((M_5 0 4) ≤ 7 → wpD mB mNL d zX8_asLane [mR 8 0 0] M_5 (fun r_10 M_9 => wV r_10 (
            jJ kB_X8_order d k 4 [mR 8 0 0, mI v1, mI v2, mI 0, none, none, none] [] M_9))) ∧
           (¬ (M_5 0 4) ≤ 7 → k (mI (-4)) M_5))) ∧
         (x_8 = 0 → k (mI (-2)) M_5))))))) :
  wpD mB mNL (d + 1) zX8_order [mR 8 0 0, mI v1, mI v2] M k := (show jJ kB_X8_order d k 0 [mR 8 0 0, mI v1, mI v2, none, none, none, none] [] M from Wt.blk (wpD_mono mB mNL d) (cI (fun x_4 M_1 h_3 => And.intro (fun c_14 => Wt.blk (wpD_mono mB mNL d) ((h_3.1 c_14))) (fun c_14 => cI (fun x_8 M_5 h_7 => And.intro (fun c_13 => Wt.blk (wpD_mono mB mNL d) (And.intro (fun c_12 => Wt.blk (wpD_mono mB mNL d) (cV (fun M_9 h_11 => h_11) ((h_7.1 c_13).1 c_12))) (fun c_12 => ((h_7.1 c_13).2 c_12)))) (fun c_13 => Wt.blk (wpD_mono mB mNL d) ((h_7.2 c_13)))) (h_3.2 c_14))) h))
theorem v_X8_order_4 {d : Nat} {k : mQ} {M : mM} (v1 : Int32) (v2 : Int32) (v3 : Int32) (u4 : mV) (u5 : mV) (u6 : mV)
  (h : (((M 0 4) ≤ v3 → jJ kB_X8_order d k 6 [mR 8 0 0, mI v1, mI v2, mI (-6), mI (-6), mI 1, u6] [] M) ∧
   (¬ (M 0 4) ≤ v3 → (vp_in v3 8 ∧ jJ kB_X8_order d k 4 [mR 8 0 0, mI v1, mI v2, mI (v3 + 1), u4, u5, u6] [] (up M 9 (v3.toNatClampNeg) v3))))) :
  jJ kB_X8_order d k 4 [mR 8 0 0, mI v1, mI v2, mI v3, u4, u5, u6] [] M := Wt.blk (wpD_mono mB mNL d) (And.intro (fun c_15 => Wt.blk (wpD_mono mB mNL d) ((h.1 c_15))) (fun c_15 => And.intro (h.2 c_15).1 ((h.2 c_15).2)))
theorem v_X8_order_6 {d : Nat} {k : mQ} {M : mM} (v1 : Int32) (v2 : Int32) (v3 : Int32) (v4 : Int32) (v5 : Int32) (u6 : mV)
  (h : ((v5 = 0 → k (mI v4) M) ∧
   (¬ v5 = 0 → jJ kB_X8_order d k 7 [mR 8 0 0, mI v1, mI v2, mI v3, mI v4, mI v5, mI 0] [] M))) :
  jJ kB_X8_order d k 6 [mR 8 0 0, mI v1, mI v2, mI v3, mI v4, mI v5, u6] [] M := Wt.blk (wpD_mono mB mNL d) (And.intro (fun c_16 => Wt.blk (wpD_mono mB mNL d) ((h.1 c_16))) (fun c_16 => (h.2 c_16)))
theorem v_X8_order_7 {d : Nat} {k : mQ} {M : mM} (v1 : Int32) (v2 : Int32) (v3 : Int32) (v4 : Int32) (v5 : Int32) (v6 : Int32)
  (h : (((M 0 4) ≤ v6 → (vp_in 1 5 ∧ wpD mB mNL d zX8_go [mR 8 0 0, mI v1, mI 0, mI ((1 <<< ((M 0 4) &&& 31)) - 1), mI (M 1 ((1 : Int32).toNatClampNeg))] M (fun r_18 M_17 => wV r_18 (
    ((¬ (M_17 0 14) = 0 → jJ kB_X8_order d k 11 [mR 8 0 0, mI v1, mI v2, mI v3, mI v4, mI v5, mI v6] [] M_17) ∧
       ((M_17 0 14) = 0 → wpD mB mNL d zX8_worthOf [mR 8 0 0, mI (M_17 0 13)] M_17 (fun r_21 M_20 => wI r_21 fun x_23 =>
        ((x_23 ≤ v3 → jJ kB_X8_order d k 11 [mR 8 0 0, mI v1, mI v2, mI v3, mI v4, mI v5, mI v6] [] M_20) ∧
           (¬ x_23 ≤ v3 → wpD mB mNL d zX8_worthOf [mR 8 0 0, mI (M_20 0 13)] M_20 (fun r_25 M_24 => wI r_25 fun x_27 =>
            ((0 ≤ v2 → (vp_in v2 8 ∧ jJ kB_X8_order d k 10 [mR 8 0 0, mI v1, mI v2, mI x_27, mI v4, mI v5, mI v6] [mI (M_24 9 (v2.toNatClampNeg))] M_24)) ∧
               (¬ 0 ≤ v2 → jJ kB_X8_order d k 10 [mR 8 0 0, mI v1, mI v2, mI x_27, mI v4, mI v5, mI v6] [mI x_27] M_24)))))))))))) ∧
   (¬ (M 0 4) ≤ v6 → (vp_in v6 8 ∧ (vp_in (3 * (M 9 (v6.toNatClampNeg))) 24 ∧ (vp_in (3 * v6) 27 ∧ jJ kB_X8_order d k 7 [mR 8 0 0, mI v1, mI v2, mI v3, mI v4, mI v5, mI (v6 + 1)] [] (up M 6 ((3 * v6).toNatClampNeg) (M 4 ((3 * (M 9 (v6.toNatClampNeg))).toNatClampNeg))))))))) :
  jJ kB_X8_order d k 7 [mR 8 0 0, mI v1, mI v2, mI v3, mI v4, mI v5, mI v6] [] M := Wt.blk (wpD_mono mB mNL d) (And.intro (fun c_31 => Wt.blk (wpD_mono mB mNL d) (And.intro (h.1 c_31).1 (cV (fun M_17 h_19 => And.intro (fun c_30 => (h_19.1 c_30)) (fun c_30 => cI (fun x_23 M_20 h_22 => And.intro (fun c_29 => (h_22.1 c_29)) (fun c_29 => cI (fun x_27 M_24 h_26 => And.intro (fun c_28 => Wt.blk (wpD_mono mB mNL d) (And.intro (h_26.1 c_28).1 ((h_26.1 c_28).2))) (fun c_28 => (h_26.2 c_28))) (h_22.2 c_29))) (h_19.2 c_30))) (h.1 c_31).2))) (fun c_31 => And.intro (h.2 c_31).1 (And.intro (h.2 c_31).2.1 (And.intro (h.2 c_31).2.2.1 ((h.2 c_31).2.2.2)))))
theorem v_X8_order_10 {d : Nat} {k : mQ} {M : mM} (v1 : Int32) (v2 : Int32) (v3 : Int32) (v4 : Int32) (v5 : Int32) (v6 : Int32) (s0 : Int32)
  (h : jJ kB_X8_order d k 11 [mR 8 0 0, mI v1, mI v2, mI v3, mI s0, mI v5, mI v6] [] M) :
  jJ kB_X8_order d k 10 [mR 8 0 0, mI v1, mI v2, mI v3, mI v4, mI v5, mI v6] [mI s0] M := Wt.blk (wpD_mono mB mNL d) (h)
theorem v_X8_order_11 {d : Nat} {k : mQ} {M : mM} (v1 : Int32) (v2 : Int32) (v3 : Int32) (v4 : Int32) (v5 : Int32) (v6 : Int32)
  (h : wpD mB mNL d zX8_nextOrder [mR 8 0 0] M (fun r_33 M_32 => wI r_33 fun x_35 =>
  jJ kB_X8_order d k 6 [mR 8 0 0, mI v1, mI v2, mI v3, mI v4, mI x_35, mI v6] [] M_32)) :
  jJ kB_X8_order d k 11 [mR 8 0 0, mI v1, mI v2, mI v3, mI v4, mI v5, mI v6] [] M := Wt.blk (wpD_mono mB mNL d) (cI (fun x_35 M_32 h_34 => h_34) h)
theorem v_X8_felt_0 {d : Nat} {k : mQ} {M : mM} (v1 : Int32) (v2 : Int32) (v3 : Int32)
  (h : wpD mB mNL d zX8_in [mI v1, mI 0, mI ((M 0 4) - 1)] M (fun r_2 M_1 => wI r_2 fun x_4 =>
  ((¬ x_4 = 0 → wpD mB mNL d zX8_in [mI v2, mI 0, mI 1000] M_1 (fun r_6 M_5 => wI r_6 fun x_8 =>
      ((x_8 = 0 → k (mI (-2)) M_5) ∧
         (¬ x_8 = 0 → wpD mB mNL d zX8_in [mI v3, mI v2, mI 1000] M_5 (fun r_10 M_9 => wI r_10 fun x_12 =>
          ((¬ x_12 = 0 → ((¬ (M_9 0 7) = 6 → (vp_in (3 * (M_9 0 7)) 18 ∧ (vp_in ((3 * (M_9 0 7)) + 1) 18 ∧ (vp_in ((3 * (M_9 0 7)) + 2) 18 ∧ k (mI ((M_9 0 7) + 1)) (up (up (up (up M_9 5 ((3 * (M_9 0 7)).toNatClampNeg) v1) 5 (((3 * (M_9 0 7)) + 1).toNatClampNeg) v2) 5 (((3 * (M_9 0 7)) + 2).toNatClampNeg) v3) 0 7 ((M_9 0 7) + 1)))))) ∧
               ((M_9 0 7) = 6 → k (mI (-4)) M_9))) ∧
             (x_12 = 0 → k (mI (-2)) M_9))))))) ∧
     (x_4 = 0 → k (mI (-1)) M_1)))) :
  wpD mB mNL (d + 1) zX8_felt [mR 8 0 0, mI v1, mI v2, mI v3] M k := (show jJ kB_X8_felt d k 0 [mR 8 0 0, mI v1, mI v2, mI v3] [] M from Wt.blk (wpD_mono mB mNL d) (cI (fun x_4 M_1 h_3 => And.intro (fun c_16 => Wt.blk (wpD_mono mB mNL d) (cI (fun x_8 M_5 h_7 => And.intro (fun c_15 => Wt.blk (wpD_mono mB mNL d) ((h_7.1 c_15))) (fun c_15 => cI (fun x_12 M_9 h_11 => And.intro (fun c_14 => Wt.blk (wpD_mono mB mNL d) (And.intro (fun c_13 => Wt.blk (wpD_mono mB mNL d) (And.intro ((h_11.1 c_14).1 c_13).1 (And.intro ((h_11.1 c_14).1 c_13).2.1 (And.intro ((h_11.1 c_14).1 c_13).2.2.1 (((h_11.1 c_14).1 c_13).2.2.2))))) (fun c_13 => ((h_11.1 c_14).2 c_13)))) (fun c_14 => Wt.blk (wpD_mono mB mNL d) ((h_11.2 c_14)))) (h_7.2 c_15))) (h_3.1 c_16))) (fun c_16 => (h_3.2 c_16))) h))
theorem v_X8_forget_0 {d : Nat} {k : mQ} {M : mM} 
  (h : k (mI (M 0 7)) (up M 0 7 0)) :
  wpD mB mNL (d + 1) zX8_forget [mR 8 0 0] M k := (show jJ kB_X8_forget d k 0 [mR 8 0 0, none] [] M from Wt.blk (wpD_mono mB mNL d) (h))
theorem v_X8_isFelt_0 {d : Nat} {k : mQ} {M : mM} (v1 : Int32) (v2 : Int32) (v3 : Int32)
  (h : (vp_in 1 5 ∧ wpD mB mNL d zX8_go [mR 8 0 0, mI v1, mI v2, mI v3, mI (M 1 ((1 : Int32).toNatClampNeg))] M (fun r_2 M_1 => wV r_2 (
  jJ kB_X8_isFelt d k 1 [mR 8 0 0, mI v1, mI v2, mI v3, mI 1, mI 0, none] [] M_1)))) :
  wpD mB mNL (d + 1) zX8_isFelt [mR 8 0 0, mI v1, mI v2, mI v3] M k := (show jJ kB_X8_isFelt d k 0 [mR 8 0 0, mI v1, mI v2, mI v3, none, none, none] [] M from Wt.blk (wpD_mono mB mNL d) (And.intro h.1 (cV (fun M_1 h_3 => h_3) h.2)))
theorem v_X8_isFelt_1 {d : Nat} {k : mQ} {M : mM} (v1 : Int32) (v2 : Int32) (v3 : Int32) (v4 : Int32) (v5 : Int32) (u6 : mV)
  (h : (((M 0 7) ≤ v5 → ((v4 = 0 ∨ v4 = 1) ∧ k (mI v4) M)) ∧
   (¬ (M 0 7) ≤ v5 → (vp_in (3 * v5) 18 ∧ ((v4 = 0 → jJ kB_X8_isFelt d k 1 [mR 8 0 0, mI v1, mI v2, mI v3, mI 0, mI (v5 + 1), mI (M 5 ((3 * v5).toNatClampNeg))] [] M) ∧
     (¬ v4 = 0 → (vp_in (M 5 ((3 * v5).toNatClampNeg)) 10 ∧ (vp_in (M 5 ((3 * v5).toNatClampNeg)) 10 ∧ (¬ (M 7 ((M 5 ((3 * v5).toNatClampNeg)).toNatClampNeg)) = (0 : Int32) ∧ (vp_in ((3 * v5) + 1) 18 ∧ (vp_in ((3 * v5) + 2) 18 ∧ wpD mB mNL d zX8_in [mI ((M 8 ((M 5 ((3 * v5).toNatClampNeg)).toNatClampNeg)) / (M 7 ((M 5 ((3 * v5).toNatClampNeg)).toNatClampNeg))), mI (M 5 (((3 * v5) + 1).toNatClampNeg)), mI (M 5 (((3 * v5) + 2).toNatClampNeg))] M (fun r_5 M_4 => wI r_5 fun x_7 =>
      ((x_7 = 0 → jJ kB_X8_isFelt d k 1 [mR 8 0 0, mI v1, mI v2, mI v3, mI 0, mI (v5 + 1), mI (M 5 ((3 * v5).toNatClampNeg))] [] M_4) ∧
         (¬ x_7 = 0 → jJ kB_X8_isFelt d k 1 [mR 8 0 0, mI v1, mI v2, mI v3, mI 1, mI (v5 + 1), mI (M 5 ((3 * v5).toNatClampNeg))] [] M_4)))))))))))))) :
  jJ kB_X8_isFelt d k 1 [mR 8 0 0, mI v1, mI v2, mI v3, mI v4, mI v5, u6] [] M := Wt.blk (wpD_mono mB mNL d) (And.intro (fun c_10 => Wt.blk (wpD_mono mB mNL d) ((h.1 c_10))) (fun c_10 => And.intro (h.2 c_10).1 (And.intro (fun c_9 => Wt.blk (wpD_mono mB mNL d) (Wt.blk (wpD_mono mB mNL d) (((h.2 c_10).2.1 c_9)))) (fun c_9 => And.intro ((h.2 c_10).2.2 c_9).1 (And.intro ((h.2 c_10).2.2 c_9).2.1 (And.intro ((h.2 c_10).2.2 c_9).2.2.1 (And.intro ((h.2 c_10).2.2 c_9).2.2.2.1 (And.intro ((h.2 c_10).2.2 c_9).2.2.2.2.1 (cI (fun x_7 M_4 h_6 => And.intro (fun c_8 => Wt.blk (wpD_mono mB mNL d) (Wt.blk (wpD_mono mB mNL d) ((h_6.1 c_8)))) (fun c_8 => Wt.blk (wpD_mono mB mNL d) ((h_6.2 c_8)))) ((h.2 c_10).2.2 c_9).2.2.2.2.2)))))))))
theorem v_X8_fits_0 {d : Nat} {k : mQ} {M : mM} (v1 : Int32) (v2 : Int32) (v3 : Int32)
  (h : wpD mB mNL d zX8_areBits [mR 8 0 0, mI v1, mI 0, mI v2] M (fun r_2 M_1 => wI r_2 fun x_4 =>
  ((¬ x_4 = 0 → wpD mB mNL d zX8_asLane [mR 8 0 0] M_1 (fun r_6 M_5 => wV r_6 (
      jJ kB_X8_fits d k 2 [mR 8 0 0, mI v1, mI v2, mI v3, mI 0, mI 0] [] M_5))) ∧
     (x_4 = 0 → k (mI (-2)) M_1)))) :
  wpD mB mNL (d + 1) zX8_fits [mR 8 0 0, mI v1, mI v2, mI v3] M k := (show jJ kB_X8_fits d k 0 [mR 8 0 0, mI v1, mI v2, mI v3, none, none] [] M from Wt.blk (wpD_mono mB mNL d) (cI (fun x_4 M_1 h_3 => And.intro (fun c_8 => Wt.blk (wpD_mono mB mNL d) (cV (fun M_5 h_7 => h_7) (h_3.1 c_8))) (fun c_8 => (h_3.2 c_8))) h))
theorem v_X8_fits_2 {d : Nat} {k : mQ} {M : mM} (v1 : Int32) (v2 : Int32) (v3 : Int32) (v4 : Int32) (v5 : Int32)
  (h : (((1 <<< ((M 0 6) &&& 31)) ≤ v5 → ((¬ v3 = (-1) → k (mI (-6)) M) ∧
     (v3 = (-1) → k (mI v4) M))) ∧
   (¬ (1 <<< ((M 0 6) &&& 31)) ≤ v5 → wpD mB mNL d zX8_isFelt [mR 8 0 0, mI v1, mI v5, mI v2] M (fun r_11 M_10 => wI r_11 fun x_13 =>
    ((x_13 = 0 → jJ kB_X8_fits d k 2 [mR 8 0 0, mI v1, mI v2, mI v3, mI v4, mI (v5 + 1)] [] M_10) ∧
       (¬ x_13 = 0 → ((¬ v4 = v3 → jJ kB_X8_fits d k 2 [mR 8 0 0, mI v1, mI v2, mI v3, mI (v4 + 1), mI (v5 + 1)] [] M_10) ∧
         (v4 = v3 → k (mI v5) M_10)))))))) :
  jJ kB_X8_fits d k 2 [mR 8 0 0, mI v1, mI v2, mI v3, mI v4, mI v5] [] M := Wt.blk (wpD_mono mB mNL d) (And.intro (fun c_16 => Wt.blk (wpD_mono mB mNL d) (And.intro (fun c_9 => Wt.blk (wpD_mono mB mNL d) (Wt.blk (wpD_mono mB mNL d) (((h.1 c_16).1 c_9)))) (fun c_9 => Wt.blk (wpD_mono mB mNL d) (((h.1 c_16).2 c_9))))) (fun c_16 => cI (fun x_13 M_10 h_12 => And.intro (fun c_15 => Wt.blk (wpD_mono mB mNL d) ((h_12.1 c_15))) (fun c_15 => And.intro (fun c_14 => Wt.blk (wpD_mono mB mNL d) (Wt.blk (wpD_mono mB mNL d) (((h_12.2 c_15).1 c_14)))) (fun c_14 => ((h_12.2 c_15).2 c_14)))) (h.2 c_16)))
theorem v_X8_door_0 {d : Nat} {k : mQ} {M : mM} (v1 : Int32) (v2 : Int32) (v3 : Int32)
  (h : wpD mB mNL d zX8_areBits [mR 8 0 0, mI v1, mI 0, mI v2] M (fun r_2 M_1 => wI r_2 fun x_4 =>
  ((x_4 = 0 → k (mI (-2)) M_1) ∧
     (¬ x_4 = 0 → wpD mB mNL d zX8_in [mI v3, mI 0, mI 1] M_1 (fun r_6 M_5 => wI r_6 fun x_8 =>
      ((¬ x_8 = 0 → wpD mB mNL d zX8_asLane [mR 8 0 0] M_5 (fun r_10 M_9 => wV r_10 (
          jJ kB_X8_door d k 3 [mR 8 0 0, mI v1, mI v2, mI v3, mI (-6), mI (-6), mI 0, none, none, none, none] [] M_9))) ∧
         (x_8 = 0 → k (mI (-2)) M_5))))))) :
  wpD mB mNL (d + 1) zX8_door [mR 8 0 0, mI v1, mI v2, mI v3] M k := (show jJ kB_X8_door d k 0 [mR 8 0 0, mI v1, mI v2, mI v3, none, none, none, none, none, none, none] [] M from Wt.blk (wpD_mono mB mNL d) (cI (fun x_4 M_1 h_3 => And.intro (fun c_13 => Wt.blk (wpD_mono mB mNL d) ((h_3.1 c_13))) (fun c_13 => cI (fun x_8 M_5 h_7 => And.intro (fun c_12 => Wt.blk (wpD_mono mB mNL d) (cV (fun M_9 h_11 => h_11) (h_7.1 c_12))) (fun c_12 => Wt.blk (wpD_mono mB mNL d) ((h_7.2 c_12)))) (h_3.2 c_13))) h))
theorem v_X8_door_3 {d : Nat} {k : mQ} {M : mM} (v1 : Int32) (v2 : Int32) (v3 : Int32) (v4 : Int32) (v5 : Int32) (v6 : Int32) (u7 : mV) (u8 : mV) (u9 : mV) (u10 : mV)
  (h : (((M 0 4) ≤ v6 → ((¬ v3 = 0 → k (mI v5) M) ∧
     (v3 = 0 → k (mI v4) M))) ∧
   (¬ (M 0 4) ≤ v6 → jJ kB_X8_door d k 4 [mR 8 0 0, mI v1, mI v2, mI v3, mI v4, mI v5, mI v6, mI 0, mI 0, u9, u10] [] M))) :
  jJ kB_X8_door d k 3 [mR 8 0 0, mI v1, mI v2, mI v3, mI v4, mI v5, mI v6, u7, u8, u9, u10] [] M := Wt.blk (wpD_mono mB mNL d) (And.intro (fun c_15 => Wt.blk (wpD_mono mB mNL d) (And.intro (fun c_14 => Wt.blk (wpD_mono mB mNL d) (Wt.blk (wpD_mono mB mNL d) (((h.1 c_15).1 c_14)))) (fun c_14 => Wt.blk (wpD_mono mB mNL d) (((h.1 c_15).2 c_14))))) (fun c_15 => (h.2 c_15)))
theorem v_X8_door_4 {d : Nat} {k : mQ} {M : mM} (v1 : Int32) (v2 : Int32) (v3 : Int32) (v4 : Int32) (v5 : Int32) (v6 : Int32) (v7 : Int32) (v8 : Int32) (u9 : mV) (u10 : mV)
  (h : (((1 <<< ((M 0 6) &&& 31)) ≤ v8 → jJ kB_X8_door d k 8 [mR 8 0 0, mI v1, mI v2, mI v3, mI v4, mI v5, mI v6, mI v7, mI 0, u9, u10] [] M) ∧
   (¬ (1 <<< ((M 0 6) &&& 31)) ≤ v8 → wpD mB mNL d zX8_isFelt [mR 8 0 0, mI v1, mI v8, mI v2] M (fun r_17 M_16 => wI r_17 fun x_19 =>
    ((x_19 = 0 → (vp_in v8 16 ∧ jJ kB_X8_door d k 4 [mR 8 0 0, mI v1, mI v2, mI v3, mI v4, mI v5, mI v6, mI v7, mI (v8 + 1), u9, u10] [] (up M_16 10 (v8.toNatClampNeg) (-6)))) ∧
       (¬ x_19 = 0 → (vp_in v6 10 ∧ (vp_in v6 10 ∧ (¬ (M_16 7 (v6.toNatClampNeg)) = (0 : Int32) ∧ (vp_in v8 16 ∧ jJ kB_X8_door d k 4 [mR 8 0 0, mI v1, mI v2, mI v3, mI v4, mI v5, mI v6, mI v7, mI (v8 + 1), u9, u10] [] (up M_16 10 (v8.toNatClampNeg) ((M_16 8 (v6.toNatClampNeg)) / (M_16 7 (v6.toNatClampNeg)))))))))))))) :
  jJ kB_X8_door d k 4 [mR 8 0 0, mI v1, mI v2, mI v3, mI v4, mI v5, mI v6, mI v7, mI v8, u9, u10] [] M := Wt.blk (wpD_mono mB mNL d) (And.intro (fun c_21 => Wt.blk (wpD_mono mB mNL d) ((h.1 c_21))) (fun c_21 => cI (fun x_19 M_16 h_18 => And.intro (fun c_20 => Wt.blk (wpD_mono mB mNL d) (Wt.blk (wpD_mono mB mNL d) (And.intro (h_18.1 c_20).1 ((h_18.1 c_20).2)))) (fun c_20 => And.intro (h_18.2 c_20).1 (And.intro (h_18.2 c_20).2.1 (And.intro (h_18.2 c_20).2.2.1 (Wt.blk (wpD_mono mB mNL d) (And.intro (h_18.2 c_20).2.2.2.1 ((h_18.2 c_20).2.2.2.2))))))) (h.2 c_21)))
theorem v_X8_door_8 {d : Nat} {k : mQ} {M : mM} (v1 : Int32) (v2 : Int32) (v3 : Int32) (v4 : Int32) (v5 : Int32) (v6 : Int32) (v7 : Int32) (v8 : Int32) (u9 : mV) (u10 : mV)
  (h : (((1 <<< ((M 0 6) &&& 31)) ≤ v8 → ((v7 ≤ 0 → jJ kB_X8_door d k 3 [mR 8 0 0, mI v1, mI v2, mI v3, mI v4, mI v5, mI (v6 + 1), mI v7, mI v8, u9, u10] [] M) ∧
     (¬ v7 ≤ 0 → ((v4 < 0 → jJ kB_X8_door d k 3 [mR 8 0 0, mI v1, mI v2, mI v3, mI v6, mI v7, mI (v6 + 1), mI v7, mI v8, u9, u10] [] M) ∧
       (¬ v4 < 0 → ((v5 ≤ v7 → jJ kB_X8_door d k 3 [mR 8 0 0, mI v1, mI v2, mI v3, mI v4, mI v5, mI (v6 + 1), mI v7, mI v8, u9, u10] [] M) ∧
         (¬ v5 ≤ v7 → jJ kB_X8_door d k 3 [mR 8 0 0, mI v1, mI v2, mI v3, mI v6, mI v7, mI (v6 + 1), mI v7, mI v8, u9, u10] [] M))))))) ∧
   (¬ (1 <<< ((M 0 6) &&& 31)) ≤ v8 → jJ kB_X8_door d k 9 [mR 8 0 0, mI v1, mI v2, mI v3, mI v4, mI v5, mI v6, mI v7, mI v8, mI 0, mI 0] [] M))) :
  jJ kB_X8_door d k 8 [mR 8 0 0, mI v1, mI v2, mI v3, mI v4, mI v5, mI v6, mI v7, mI v8, u9, u10] [] M := Wt.blk (wpD_mono mB mNL d) (And.intro (fun c_25 => Wt.blk (wpD_mono mB mNL d) (And.intro (fun c_24 => Wt.blk (wpD_mono mB mNL d) (((h.1 c_25).1 c_24))) (fun c_24 => And.intro (fun c_23 => Wt.blk (wpD_mono mB mNL d) (Wt.blk (wpD_mono mB mNL d) ((((h.1 c_25).2 c_24).1 c_23)))) (fun c_23 => And.intro (fun c_22 => Wt.blk (wpD_mono mB mNL d) (((((h.1 c_25).2 c_24).2 c_23).1 c_22))) (fun c_22 => Wt.blk (wpD_mono mB mNL d) (Wt.blk (wpD_mono mB mNL d) (((((h.1 c_25).2 c_24).2 c_23).2 c_22)))))))) (fun c_25 => (h.2 c_25)))
theorem v_X8_door_9 {d : Nat} {k : mQ} {M : mM} (v1 : Int32) (v2 : Int32) (v3 : Int32) (v4 : Int32) (v5 : Int32) (v6 : Int32) (v7 : Int32) (v8 : Int32) (v9 : Int32) (v10 : Int32)
  (h : (((1 <<< ((M 0 6) &&& 31)) ≤ v10 → ((v9 ≤ v7 → jJ kB_X8_door d k 8 [mR 8 0 0, mI v1, mI v2, mI v3, mI v4, mI v5, mI v6, mI v7, mI (v8 + 1), mI v9, mI v10] [] M) ∧
     (¬ v9 ≤ v7 → jJ kB_X8_door d k 8 [mR 8 0 0, mI v1, mI v2, mI v3, mI v4, mI v5, mI v6, mI v9, mI (v8 + 1), mI v9, mI v10] [] M))) ∧
   (¬ (1 <<< ((M 0 6) &&& 31)) ≤ v10 → (vp_in v8 16 ∧ (((M 10 (v8.toNatClampNeg)) < 0 → jJ kB_X8_door d k 9 [mR 8 0 0, mI v1, mI v2, mI v3, mI v4, mI v5, mI v6, mI v7, mI v8, mI (v9 + 0), mI (v10 + 1)] [] M) ∧
     (¬ (M 10 (v8.toNatClampNeg)) < 0 → (vp_in v10 16 ∧ (vp_in v8 16 ∧ ((¬ (M 10 (v10.toNatClampNeg)) = (M 10 (v8.toNatClampNeg)) → jJ kB_X8_door d k 9 [mR 8 0 0, mI v1, mI v2, mI v3, mI v4, mI v5, mI v6, mI v7, mI v8, mI (v9 + 0), mI (v10 + 1)] [] M) ∧
       ((M 10 (v10.toNatClampNeg)) = (M 10 (v8.toNatClampNeg)) → jJ kB_X8_door d k 9 [mR 8 0 0, mI v1, mI v2, mI v3, mI v4, mI v5, mI v6, mI v7, mI v8, mI (v9 + 1), mI (v10 + 1)] [] M)))))))))) :
  jJ kB_X8_door d k 9 [mR 8 0 0, mI v1, mI v2, mI v3, mI v4, mI v5, mI v6, mI v7, mI v8, mI v9, mI v10] [] M := Wt.blk (wpD_mono mB mNL d) (And.intro (fun c_29 => Wt.blk (wpD_mono mB mNL d) (And.intro (fun c_26 => Wt.blk (wpD_mono mB mNL d) (Wt.blk (wpD_mono mB mNL d) (((h.1 c_29).1 c_26)))) (fun c_26 => Wt.blk (wpD_mono mB mNL d) (((h.1 c_29).2 c_26))))) (fun c_29 => And.intro (h.2 c_29).1 (And.intro (fun c_28 => Wt.blk (wpD_mono mB mNL d) (Wt.blk (wpD_mono mB mNL d) (((h.2 c_29).2.1 c_28)))) (fun c_28 => And.intro ((h.2 c_29).2.2 c_28).1 (And.intro ((h.2 c_29).2.2 c_28).2.1 (And.intro (fun c_27 => Wt.blk (wpD_mono mB mNL d) (Wt.blk (wpD_mono mB mNL d) ((((h.2 c_29).2.2 c_28).2.2.1 c_27)))) (fun c_27 => Wt.blk (wpD_mono mB mNL d) ((((h.2 c_29).2.2 c_28).2.2.2 c_27)))))))))
theorem v_X8_winter_0 {d : Nat} {k : mQ} {M : mM} (v1 : Int32) (v2 : Int32) (v3 : Int32)
  (h : wpD mB mNL d zX8_in [mI v1, mI 0, mI 9999] M (fun r_2 M_1 => wI r_2 fun x_4 =>
  ((x_4 = 0 → k (mI (-2)) M_1) ∧
     (¬ x_4 = 0 → wpD mB mNL d zX8_in [mI v2, mI 1, mI 30] M_1 (fun r_6 M_5 => wI r_6 fun x_8 =>
      ((x_8 = 0 → k (mI (-2)) M_5) ∧
         (¬ x_8 = 0 → wpD mB mNL d zX8_in [mI v3, mI 0, mI 1] M_5 (fun r_10 M_9 => wI r_10 fun x_12 =>
          ((¬ x_12 = 0 → wpD mB mNL d zX8_asLane [mR 8 0 0] M_9 (fun r_14 M_13 => wV r_14 (
              jJ kB_X8_winter d k 3 [mR 8 0 0, mI v1, mI v2, mI v3, mI 0, none, none, none, none, none] [] M_13))) ∧
             (x_12 = 0 → k (mI (-2)) M_9)))))))))) :
  wpD mB mNL (d + 1) zX8_winter [mR 8 0 0, mI v1, mI v2, mI v3] M k := (show jJ kB_X8_winter d k 0 [mR 8 0 0, mI v1, mI v2, mI v3, none, none, none, none, none, none] [] M from Wt.blk (wpD_mono mB mNL d) (cI (fun x_4 M_1 h_3 => And.intro (fun c_18 => Wt.blk (wpD_mono mB mNL d) ((h_3.1 c_18))) (fun c_18 => cI (fun x_8 M_5 h_7 => And.intro (fun c_17 => Wt.blk (wpD_mono mB mNL d) ((h_7.1 c_17))) (fun c_17 => cI (fun x_12 M_9 h_11 => And.intro (fun c_16 => Wt.blk (wpD_mono mB mNL d) (cV (fun M_13 h_15 => h_15) (h_11.1 c_16))) (fun c_16 => Wt.blk (wpD_mono mB mNL d) ((h_11.2 c_16)))) (h_7.2 c_17))) (h_3.2 c_18))) h))
theorem v_X8_winter_3 {d : Nat} {k : mQ} {M : mM} (v1 : Int32) (v2 : Int32) (v3 : Int32) (v4 : Int32) (u5 : mV) (u6 : mV) (u7 : mV) (u8 : mV) (u9 : mV)
  (h : ((6 ≤ v4 → jJ kB_X8_winter d k 7 [mR 8 0 0, mI v1, mI v2, mI v3, mI v1, mI 0, mI 0, mI 0, u8, u9] [] M) ∧
   (¬ 6 ≤ v4 → wpD mB mNL d zX8_layBest [mR 8 0 0, mI v4] M (fun r_20 M_19 => wI r_20 fun x_22 =>
    ((0 ≤ x_22 → (vp_in v4 6 ∧ jJ kB_X8_winter d k 3 [mR 8 0 0, mI v1, mI v2, mI v3, mI (v4 + 1), u5, u6, u7, u8, u9] [] (up M_19 11 (v4.toNatClampNeg) (M_19 0 17)))) ∧
       (¬ 0 ≤ x_22 → (vp_in v4 6 ∧ jJ kB_X8_winter d k 3 [mR 8 0 0, mI v1, mI v2, mI v3, mI (v4 + 1), u5, u6, u7, u8, u9] [] (up M_19 11 (v4.toNatClampNeg) 0)))))))) :
  jJ kB_X8_winter d k 3 [mR 8 0 0, mI v1, mI v2, mI v3, mI v4, u5, u6, u7, u8, u9] [] M := Wt.blk (wpD_mono mB mNL d) (And.intro (fun c_24 => Wt.blk (wpD_mono mB mNL d) ((h.1 c_24))) (fun c_24 => cI (fun x_22 M_19 h_21 => And.intro (fun c_23 => Wt.blk (wpD_mono mB mNL d) (Wt.blk (wpD_mono mB mNL d) (And.intro (h_21.1 c_23).1 ((h_21.1 c_23).2)))) (fun c_23 => Wt.blk (wpD_mono mB mNL d) (And.intro (h_21.2 c_23).1 ((h_21.2 c_23).2)))) (h.2 c_24)))
theorem v_X8_winter_7 {d : Nat} {k : mQ} {M : mM} (v1 : Int32) (v2 : Int32) (v3 : Int32) (v4 : Int32) (v5 : Int32) (v6 : Int32) (v7 : Int32) (u8 : mV) (u9 : mV)
  (h : ((v2 ≤ v7 → ((¬ v3 = 0 → k (mI v6) M) ∧
     (v3 = 0 → k (mI v5) M))) ∧
   (¬ v2 ≤ v7 → (¬ 65537 = (0 : Int32) ∧ (vp_in 1 5 ∧ (¬ 200 = (0 : Int32) ∧ jJ kB_X8_winter d k 8 [mR 8 0 0, mI v1, mI v2, mI v3, mI (((75 * v4) + 74) - ((75 * v4) + 74) / 65537 * 65537), mI v5, mI v6, mI v7, mI ((M 1 ((1 : Int32).toNatClampNeg)) - ((((75 * v4) + 74) - ((75 * v4) + 74) / 65537 * 65537) - (((75 * v4) + 74) - ((75 * v4) + 74) / 65537 * 65537) / 200 * 200)), mI 0] [] M)))))) :
  jJ kB_X8_winter d k 7 [mR 8 0 0, mI v1, mI v2, mI v3, mI v4, mI v5, mI v6, mI v7, u8, u9] [] M := Wt.blk (wpD_mono mB mNL d) (And.intro (fun c_26 => Wt.blk (wpD_mono mB mNL d) (And.intro (fun c_25 => Wt.blk (wpD_mono mB mNL d) (Wt.blk (wpD_mono mB mNL d) (((h.1 c_26).1 c_25)))) (fun c_25 => Wt.blk (wpD_mono mB mNL d) (((h.1 c_26).2 c_25))))) (fun c_26 => And.intro (h.2 c_26).1 (And.intro (h.2 c_26).2.1 (And.intro (h.2 c_26).2.2.1 ((h.2 c_26).2.2.2)))))
theorem v_X8_winter_8 {d : Nat} {k : mQ} {M : mM} (v1 : Int32) (v2 : Int32) (v3 : Int32) (v4 : Int32) (v5 : Int32) (v6 : Int32) (v7 : Int32) (v8 : Int32) (v9 : Int32)
  (h : ((6 ≤ v9 → jJ kB_X8_winter d k 7 [mR 8 0 0, mI v1, mI v2, mI v3, mI v4, mI v5, mI v6, mI (v7 + 1), mI v8, mI v9] [] M) ∧
   (¬ 6 ≤ v9 → (vp_in v9 6 ∧ (vp_in v9 6 ∧ ((0 ≤ v8 → jJ kB_X8_winter d k 10 [mR 8 0 0, mI v1, mI v2, mI v3, mI v4, mI v5, mI v6, mI v7, mI v8, mI v9] [mI v8, mI ((M 11 (v9.toNatClampNeg)) &&& 511), mI ((M 11 (v9.toNatClampNeg)) >>> (9 &&& 31)), mI v9, mR 8 0 0] M) ∧
     (¬ 0 ≤ v8 → jJ kB_X8_winter d k 10 [mR 8 0 0, mI v1, mI v2, mI v3, mI v4, mI v5, mI v6, mI v7, mI v8, mI v9] [mI 0, mI ((M 11 (v9.toNatClampNeg)) &&& 511), mI ((M 11 (v9.toNatClampNeg)) >>> (9 &&& 31)), mI v9, mR 8 0 0] M))))))) :
  jJ kB_X8_winter d k 8 [mR 8 0 0, mI v1, mI v2, mI v3, mI v4, mI v5, mI v6, mI v7, mI v8, mI v9] [] M := Wt.blk (wpD_mono mB mNL d) (And.intro (fun c_28 => Wt.blk (wpD_mono mB mNL d) ((h.1 c_28))) (fun c_28 => And.intro (h.2 c_28).1 (And.intro (h.2 c_28).2.1 (And.intro (fun c_27 => Wt.blk (wpD_mono mB mNL d) (((h.2 c_28).2.2.1 c_27))) (fun c_27 => ((h.2 c_28).2.2.2 c_27))))))
theorem v_X8_winter_10 {d : Nat} {k : mQ} {M : mM} (v1 : Int32) (v2 : Int32) (v3 : Int32) (v4 : Int32) (v5 : Int32) (v6 : Int32) (v7 : Int32) (v8 : Int32) (v9 : Int32) (s1 : Int32) (s2 : Int32) (s3 : Int32) (s4 : Int32)
  (h : wpD mB mNL d zX8_go [mR 8 0 0, mI s1, mI s2, mI s3, mI s4] M (fun r_30 M_29 => wV r_30 (
  wpD mB mNL d zX8_worthOf [mR 8 0 0, mI (M_29 0 13)] M_29 (fun r_33 M_32 => wI r_33 fun x_35 =>
    wpD mB mNL d zX8_bits [mI (M_32 0 14)] M_32 (fun r_37 M_36 => wI r_37 fun x_39 =>
      jJ kB_X8_winter d k 8 [mR 8 0 0, mI v1, mI v2, mI v3, mI v4, mI (v5 + x_35), mI (v6 + x_39), mI v7, mI v8, mI (v9 + 1)] [] M_36))))) :
  jJ kB_X8_winter d k 10 [mR 8 0 0, mI v1, mI v2, mI v3, mI v4, mI v5, mI v6, mI v7, mI v8, mI v9] [mI s4, mI s3, mI s2, mI s1, mR 8 0 0] M := Wt.blk (wpD_mono mB mNL d) (cV (fun M_29 h_31 => cI (fun x_35 M_32 h_34 => cI (fun x_39 M_36 h_38 => h_38) h_34) h_31) h)
theorem v_X8_image_0 {d : Nat} {k : mQ} {M : mM} (v1 : Int32)
  (h : wpD mB mNL d zX8_in [mI v1, mI 0, mI 1] M (fun r_2 M_1 => wI r_2 fun x_4 =>
  ((¬ x_4 = 0 → jJ kB_X8_image d k 2 [mR 8 0 0, mI v1, mI (80 * v1), mI 0] [] M_1) ∧
     (x_4 = 0 → k (mI (-2)) M_1)))) :
  wpD mB mNL (d + 1) zX8_image [mR 8 0 0, mI v1] M k := (show jJ kB_X8_image d k 0 [mR 8 0 0, mI v1, none, none] [] M from Wt.blk (wpD_mono mB mNL d) (cI (fun x_4 M_1 h_3 => And.intro (fun c_5 => Wt.blk (wpD_mono mB mNL d) ((h_3.1 c_5))) (fun c_5 => (h_3.2 c_5))) h))
theorem v_X8_image_2 {d : Nat} {k : mQ} {M : mM} (v1 : Int32) (v2 : Int32) (v3 : Int32)
  (h : ((5 ≤ v3 → jJ kB_X8_image d k 4 [mR 8 0 0, mI v1, mI v2, mI 0] [] M) ∧
   (¬ 5 ≤ v3 → (vp_in v3 5 ∧ (vp_in (v2 + v3) 160 ∧ jJ kB_X8_image d k 2 [mR 8 0 0, mI v1, mI v2, mI (v3 + 1)] [] (up M 12 ((v2 + v3).toNatClampNeg) (M 1 (v3.toNatClampNeg)))))))) :
  jJ kB_X8_image d k 2 [mR 8 0 0, mI v1, mI v2, mI v3] [] M := Wt.blk (wpD_mono mB mNL d) (And.intro (fun c_6 => Wt.blk (wpD_mono mB mNL d) ((h.1 c_6))) (fun c_6 => And.intro (h.2 c_6).1 (And.intro (h.2 c_6).2.1 ((h.2 c_6).2.2))))
theorem v_X8_image_4 {d : Nat} {k : mQ} {M : mM} (v1 : Int32) (v2 : Int32) (v3 : Int32)
  (h : ((30 ≤ v3 → jJ kB_X8_image d k 6 [mR 8 0 0, mI v1, mI v2, mI 0] [] M) ∧
   (¬ 30 ≤ v3 → (vp_in v3 30 ∧ (vp_in ((v2 + 5) + v3) 160 ∧ jJ kB_X8_image d k 4 [mR 8 0 0, mI v1, mI v2, mI (v3 + 1)] [] (up M 12 (((v2 + 5) + v3).toNatClampNeg) (M 2 (v3.toNatClampNeg)))))))) :
  jJ kB_X8_image d k 4 [mR 8 0 0, mI v1, mI v2, mI v3] [] M := Wt.blk (wpD_mono mB mNL d) (And.intro (fun c_7 => Wt.blk (wpD_mono mB mNL d) ((h.1 c_7))) (fun c_7 => And.intro (h.2 c_7).1 (And.intro (h.2 c_7).2.1 ((h.2 c_7).2.2))))
theorem v_X8_image_6 {d : Nat} {k : mQ} {M : mM} (v1 : Int32) (v2 : Int32) (v3 : Int32)
  (h : ((24 ≤ v3 → jJ kB_X8_image d k 8 [mR 8 0 0, mI v1, mI v2, mI 0] [] M) ∧
   (¬ 24 ≤ v3 → (vp_in v3 24 ∧ (vp_in ((v2 + 35) + v3) 160 ∧ jJ kB_X8_image d k 6 [mR 8 0 0, mI v1, mI v2, mI (v3 + 1)] [] (up M 12 (((v2 + 35) + v3).toNatClampNeg) (M 4 (v3.toNatClampNeg)))))))) :
  jJ kB_X8_image d k 6 [mR 8 0 0, mI v1, mI v2, mI v3] [] M := Wt.blk (wpD_mono mB mNL d) (And.intro (fun c_8 => Wt.blk (wpD_mono mB mNL d) ((h.1 c_8))) (fun c_8 => And.intro (h.2 c_8).1 (And.intro (h.2 c_8).2.1 ((h.2 c_8).2.2))))
theorem v_X8_image_8 {d : Nat} {k : mQ} {M : mM} (v1 : Int32) (v2 : Int32) (v3 : Int32)
  (h : ((18 ≤ v3 → (vp_in (v2 + 77) 160 ∧ (vp_in (v2 + 78) 160 ∧ (vp_in (v2 + 79) 160 ∧ (vp_in v1 2 ∧ k (mI 1) (up (up (up (up M 12 ((v2 + 77).toNatClampNeg) (M 0 4)) 12 ((v2 + 78).toNatClampNeg) (M 0 6)) 12 ((v2 + 79).toNatClampNeg) (M 0 7)) 13 (v1.toNatClampNeg) (vp_nar .boolean 1))))))) ∧
   (¬ 18 ≤ v3 → (vp_in v3 18 ∧ (vp_in ((v2 + 59) + v3) 160 ∧ jJ kB_X8_image d k 8 [mR 8 0 0, mI v1, mI v2, mI (v3 + 1)] [] (up M 12 (((v2 + 59) + v3).toNatClampNeg) (M 5 (v3.toNatClampNeg)))))))) :
  jJ kB_X8_image d k 8 [mR 8 0 0, mI v1, mI v2, mI v3] [] M := Wt.blk (wpD_mono mB mNL d) (And.intro (fun c_9 => Wt.blk (wpD_mono mB mNL d) (And.intro (h.1 c_9).1 (And.intro (h.1 c_9).2.1 (And.intro (h.1 c_9).2.2.1 (And.intro (h.1 c_9).2.2.2.1 ((h.1 c_9).2.2.2.2)))))) (fun c_9 => And.intro (h.2 c_9).1 (And.intro (h.2 c_9).2.1 ((h.2 c_9).2.2))))
theorem v_X8_restore_0 {d : Nat} {k : mQ} {M : mM} (v1 : Int32)
  (h : wpD mB mNL d zX8_in [mI v1, mI 0, mI 1] M (fun r_2 M_1 => wI r_2 fun x_4 =>
  ((¬ x_4 = 0 → (vp_in v1 2 ∧ ((¬ (M_1 13 (v1.toNatClampNeg)) = 0 → jJ kB_X8_restore d k 3 [mR 8 0 0, mI v1, mI (80 * v1), mI 0] [] M_1) ∧
       ((M_1 13 (v1.toNatClampNeg)) = 0 → k (mI (-3)) M_1)))) ∧
     (x_4 = 0 → k (mI (-2)) M_1)))) :
  wpD mB mNL (d + 1) zX8_restore [mR 8 0 0, mI v1] M k := (show jJ kB_X8_restore d k 0 [mR 8 0 0, mI v1, none, none] [] M from Wt.blk (wpD_mono mB mNL d) (cI (fun x_4 M_1 h_3 => And.intro (fun c_6 => Wt.blk (wpD_mono mB mNL d) (And.intro (h_3.1 c_6).1 (And.intro (fun c_5 => Wt.blk (wpD_mono mB mNL d) (((h_3.1 c_6).2.1 c_5))) (fun c_5 => ((h_3.1 c_6).2.2 c_5))))) (fun c_6 => (h_3.2 c_6))) h))
theorem v_X8_restore_3 {d : Nat} {k : mQ} {M : mM} (v1 : Int32) (v2 : Int32) (v3 : Int32)
  (h : ((5 ≤ v3 → jJ kB_X8_restore d k 5 [mR 8 0 0, mI v1, mI v2, mI 0] [] M) ∧
   (¬ 5 ≤ v3 → (vp_in (v2 + v3) 160 ∧ (vp_in v3 5 ∧ jJ kB_X8_restore d k 3 [mR 8 0 0, mI v1, mI v2, mI (v3 + 1)] [] (up M 1 (v3.toNatClampNeg) (M 12 ((v2 + v3).toNatClampNeg)))))))) :
  jJ kB_X8_restore d k 3 [mR 8 0 0, mI v1, mI v2, mI v3] [] M := Wt.blk (wpD_mono mB mNL d) (And.intro (fun c_7 => Wt.blk (wpD_mono mB mNL d) ((h.1 c_7))) (fun c_7 => And.intro (h.2 c_7).1 (And.intro (h.2 c_7).2.1 ((h.2 c_7).2.2))))
theorem v_X8_restore_5 {d : Nat} {k : mQ} {M : mM} (v1 : Int32) (v2 : Int32) (v3 : Int32)
  (h : ((30 ≤ v3 → jJ kB_X8_restore d k 7 [mR 8 0 0, mI v1, mI v2, mI 0] [] M) ∧
   (¬ 30 ≤ v3 → (vp_in ((v2 + 5) + v3) 160 ∧ (vp_in v3 30 ∧ jJ kB_X8_restore d k 5 [mR 8 0 0, mI v1, mI v2, mI (v3 + 1)] [] (up M 2 (v3.toNatClampNeg) (M 12 (((v2 + 5) + v3).toNatClampNeg)))))))) :
  jJ kB_X8_restore d k 5 [mR 8 0 0, mI v1, mI v2, mI v3] [] M := Wt.blk (wpD_mono mB mNL d) (And.intro (fun c_8 => Wt.blk (wpD_mono mB mNL d) ((h.1 c_8))) (fun c_8 => And.intro (h.2 c_8).1 (And.intro (h.2 c_8).2.1 ((h.2 c_8).2.2))))
theorem v_X8_restore_7 {d : Nat} {k : mQ} {M : mM} (v1 : Int32) (v2 : Int32) (v3 : Int32)
  (h : ((24 ≤ v3 → jJ kB_X8_restore d k 9 [mR 8 0 0, mI v1, mI v2, mI 0] [] M) ∧
   (¬ 24 ≤ v3 → (vp_in ((v2 + 35) + v3) 160 ∧ (vp_in v3 24 ∧ jJ kB_X8_restore d k 7 [mR 8 0 0, mI v1, mI v2, mI (v3 + 1)] [] (up M 4 (v3.toNatClampNeg) (M 12 (((v2 + 35) + v3).toNatClampNeg)))))))) :
  jJ kB_X8_restore d k 7 [mR 8 0 0, mI v1, mI v2, mI v3] [] M := Wt.blk (wpD_mono mB mNL d) (And.intro (fun c_9 => Wt.blk (wpD_mono mB mNL d) ((h.1 c_9))) (fun c_9 => And.intro (h.2 c_9).1 (And.intro (h.2 c_9).2.1 ((h.2 c_9).2.2))))
theorem v_X8_restore_9 {d : Nat} {k : mQ} {M : mM} (v1 : Int32) (v2 : Int32) (v3 : Int32)
  (h : ((18 ≤ v3 → (vp_in (v2 + 77) 160 ∧ (vp_in (v2 + 78) 160 ∧ (vp_in (v2 + 79) 160 ∧ k (mI 1) (up (up (up M 0 4 (M 12 ((v2 + 77).toNatClampNeg))) 0 6 (M 12 ((v2 + 78).toNatClampNeg))) 0 7 (M 12 ((v2 + 79).toNatClampNeg))))))) ∧
   (¬ 18 ≤ v3 → (vp_in ((v2 + 59) + v3) 160 ∧ (vp_in v3 18 ∧ jJ kB_X8_restore d k 9 [mR 8 0 0, mI v1, mI v2, mI (v3 + 1)] [] (up M 5 (v3.toNatClampNeg) (M 12 (((v2 + 59) + v3).toNatClampNeg)))))))) :
  jJ kB_X8_restore d k 9 [mR 8 0 0, mI v1, mI v2, mI v3] [] M := Wt.blk (wpD_mono mB mNL d) (And.intro (fun c_10 => Wt.blk (wpD_mono mB mNL d) (And.intro (h.1 c_10).1 (And.intro (h.1 c_10).2.1 (And.intro (h.1 c_10).2.2.1 ((h.1 c_10).2.2.2))))) (fun c_10 => And.intro (h.2 c_10).1 (And.intro (h.2 c_10).2.1 ((h.2 c_10).2.2))))
theorem v_X8_told_0 {d : Nat} {k : mQ} {M : mM} (v1 : Int32)
  (h : (¬ 10 = (0 : Int32) ∧ wpD mB mNL d zX8_in [mI v1, mI 10, mI 14] M (fun r_2 M_1 => wI r_2 fun x_4 =>
  ((x_4 = 0 → wpD mB mNL d zX8_in [mI v1, mI 20, mI 69] M_1 (fun r_6 M_5 => wI r_6 fun x_8 =>
      ((x_8 = 0 → jJ kB_X8_told d k 2 [mR 8 0 0, mI v1, mI (v1 - v1 / 10 * 10)] [] M_5) ∧
         (¬ x_8 = 0 → wpD mB mNL d zX8_in [mI (v1 - v1 / 10 * 10), mI 0, mI 5] M_5 (fun r_10 M_9 => wI r_10 fun x_12 =>
          ((x_12 = 0 → jJ kB_X8_told d k 2 [mR 8 0 0, mI v1, mI (v1 - v1 / 10 * 10)] [] M_9) ∧
             (¬ x_12 = 0 → (¬ 10 = (0 : Int32) ∧ (vp_in ((6 * ((v1 / 10) - 2)) + (v1 - v1 / 10 * 10)) 30 ∧ k (mI (M_9 2 (((6 * ((v1 / 10) - 2)) + (v1 - v1 / 10 * 10)).toNatClampNeg))) M_9))))))))) ∧
     (¬ x_4 = 0 → (vp_in (v1 - v1 / 10 * 10) 5 ∧ k (mI (M_1 1 ((v1 - v1 / 10 * 10).toNatClampNeg))) M_1)))))) :
  wpD mB mNL (d + 1) zX8_told [mR 8 0 0, mI v1] M k := (show jJ kB_X8_told d k 0 [mR 8 0 0, mI v1, none] [] M from Wt.blk (wpD_mono mB mNL d) (And.intro h.1 (cI (fun x_4 M_1 h_3 => And.intro (fun c_15 => Wt.blk (wpD_mono mB mNL d) (cI (fun x_8 M_5 h_7 => And.intro (fun c_14 => (h_7.1 c_14)) (fun c_14 => cI (fun x_12 M_9 h_11 => And.intro (fun c_13 => (h_11.1 c_13)) (fun c_13 => And.intro (h_11.2 c_13).1 (And.intro (h_11.2 c_13).2.1 ((h_11.2 c_13).2.2)))) (h_7.2 c_14))) (h_3.1 c_15))) (fun c_15 => And.intro (h_3.2 c_15).1 ((h_3.2 c_15).2))) h.2)))
theorem v_X8_told_2 {d : Nat} {k : mQ} {M : mM} (v1 : Int32) (v2 : Int32)
  (h : ((¬ v1 = 0 → ((¬ v1 = 1 → ((¬ v1 = 2 → ((¬ v1 = 3 → k (mI (-2)) M) ∧
         (v1 = 3 → k (mI (M 0 7)) M))) ∧
       (v1 = 2 → k (mI (M 0 6)) M))) ∧
     (v1 = 1 → k (mI (M 0 4)) M))) ∧
   (v1 = 0 → k (mI (M 0 2)) M))) :
  jJ kB_X8_told d k 2 [mR 8 0 0, mI v1, mI v2] [] M := Wt.blk (wpD_mono mB mNL d) (And.intro (fun c_19 => Wt.blk (wpD_mono mB mNL d) (And.intro (fun c_18 => Wt.blk (wpD_mono mB mNL d) (And.intro (fun c_17 => Wt.blk (wpD_mono mB mNL d) (And.intro (fun c_16 => Wt.blk (wpD_mono mB mNL d) (Wt.blk (wpD_mono mB mNL d) (((((h.1 c_19).1 c_18).1 c_17).1 c_16)))) (fun c_16 => Wt.blk (wpD_mono mB mNL d) (((((h.1 c_19).1 c_18).1 c_17).2 c_16))))) (fun c_17 => Wt.blk (wpD_mono mB mNL d) ((((h.1 c_19).1 c_18).2 c_17))))) (fun c_18 => Wt.blk (wpD_mono mB mNL d) (((h.1 c_19).2 c_18))))) (fun c_19 => Wt.blk (wpD_mono mB mNL d) ((h.2 c_19))))
end
section
/-! INTS AS NUMBERS -/
def zi (z : Int) : Int32 := Int32.ofInt z
theorem zi_add (a b : Int) : zi a + zi b = zi (a + b) := (Int32.ofInt_add a b).symm
theorem zi_sub (a b : Int) : zi a - zi b = zi (a - b) := (Int32.ofInt_sub a b).symm
theorem zi_mul (a b : Int) : zi a * zi b = zi (a * b) := (Int32.ofInt_mul a b).symm
theorem zi_toInt {a : Int} (h1 : -2147483648 ≤ a) (h2 : a < 2147483648) : (zi a).toInt = a := Int32.toInt_ofInt_of_le h1 h2
theorem zi_of (x : Int32) : zi x.toInt = x := Int32.ofInt_toInt x
theorem toInt_rng (x : Int32) : -2147483648 ≤ x.toInt ∧ x.toInt < 2147483648 := ⟨Int32.le_toInt x, Int32.toInt_lt x⟩
theorem zi_lt {a b : Int} (h1 : -2147483648 ≤ a) (h2 : a < 2147483648) (h3 : -2147483648 ≤ b) (h4 : b < 2147483648) : zi a < zi b ↔ a < b := by
  rw [Int32.lt_iff_toInt_lt, zi_toInt h1 h2, zi_toInt h3 h4]
theorem zi_le {a b : Int} (h1 : -2147483648 ≤ a) (h2 : a < 2147483648) (h3 : -2147483648 ≤ b) (h4 : b < 2147483648) : zi a ≤ zi b ↔ a ≤ b := by
  rw [Int32.le_iff_toInt_le, zi_toInt h1 h2, zi_toInt h3 h4]
theorem zi_eq {a b : Int} (h1 : -2147483648 ≤ a) (h2 : a < 2147483648) (h3 : -2147483648 ≤ b) (h4 : b < 2147483648) : zi a = zi b ↔ a = b := by
  rw [← Int32.toInt_inj, zi_toInt h1 h2, zi_toInt h3 h4]
theorem nI_zi (n : Nat) : nI n = zi n := by
  exact (Int32.ofInt_eq_ofNat (n := n)).symm
theorem zi_nI (n : Nat) : zi (n : Int) = nI n := (nI_zi n).symm
theorem nI_inj {a b : Nat} (ha : a < 2147483648) (hb : b < 2147483648) (h : nI a = nI b) : a = b := (nI_eq ha hb).mp h
/-- an int is a number in its range -/
theorem zi_ex (x : Int32) : ∃ z : Int, x = zi z ∧ -2147483648 ≤ z ∧ z < 2147483648 := ⟨x.toInt, (zi_of x).symm, toInt_rng x⟩
theorem lt_zi {x y : Int32} : x < y ↔ x.toInt < y.toInt := Int32.lt_iff_toInt_lt
theorem le_zi {x y : Int32} : x ≤ y ↔ x.toInt ≤ y.toInt := Int32.le_iff_toInt_le
theorem eq_zi {x y : Int32} : x = y ↔ x.toInt = y.toInt := Int32.toInt_inj.symm
theorem nI_ti {n : Nat} (h : n < 2147483648) : (nI n).toInt = n := nI_toInt h
/-- an int that is not negative, and not above, is a small number -/
theorem nI_ex {x : Int32} {N : Nat} (h0 : 0 ≤ x.toInt) (h : x.toInt ≤ N) (hN : N < 2147483648) : ∃ n : Nat, n ≤ N ∧ x = nI n := by
  refine ⟨x.toInt.toNat, by omega, ?_⟩
  rw [eq_zi, nI_ti (by omega)]
  omega
/-! memory -/
theorem up_at (M : mM) (k j : Nat) (v : Int32) : up M k j v k j = v := by simp [up]
theorem up_k {M : mM} {k j k' j' : Nat} {v : Int32} (h : k' ≠ k) : up M k j v k' j' = M k' j' := by simp [up, h]
theorem up_j {M : mM} {k j k' j' : Nat} {v : Int32} (h : j' ≠ j) : up M k j v k' j' = M k' j' := by simp [up, h]
/-! bits -/
theorem sh_small {n : Nat} (h : n < 31) : (1 : Int32) <<< (nI n &&& 31) = nI (2 ^ n) := by
  have : ∀ n, n < 31 → (1 : Int32) <<< (nI n &&& 31) = nI (2 ^ n) := by decide
  exact this n h
theorem nI_and31 {n : Nat} (h : n < 32) : nI n &&& 31 = nI n := by
  have : ∀ n, n < 32 → nI n &&& 31 = nI n := by decide
  exact this n h
theorem nI_or (a b : Nat) : nI a ||| nI b = nI (a ||| b) := by
  unfold nI
  rw [← Int32.toBitVec_inj]
  simp [Int32.toBitVec_or]
theorem nI_and (a b : Nat) : nI a &&& nI b = nI (a &&& b) := by
  unfold nI
  rw [← Int32.toBitVec_inj]
  simp [Int32.toBitVec_and]
theorem nI_shr {a n : Nat} (ha : a < 2147483648) (hn : n < 32) : nI a >>> (nI n &&& 31) = nI (a / 2 ^ n) := by
  refine pk_shrN ha _ n ?_
  have : ∀ n, n < 32 → ((nI n &&& 31).toBitVec.smod 32).toNat = n := by decide
  exact this n hn
theorem nI_bit {a n : Nat} (ha : a < 2147483648) (hn : n < 32) : (nI a >>> (nI n &&& 31)) &&& 1 = nI (if a.testBit n then 1 else 0) := by
  rw [nI_shr ha hn, show (1 : Int32) = nI 1 from rfl, nI_and]
  congr 1
  rw [Nat.and_one_is_mod, Nat.testBit_eq_decide_div_mod_eq]
  have : a / 2 ^ n % 2 < 2 := Nat.mod_lt _ (by decide)
  split <;> simp_all <;> omega
end
section
/-! THE CLASS' LEAVES -/
theorem ifle {a b : Nat} {A B : Prop} (ha : a < 2147483648) (hb : b < 2147483648) (h1 : a ≤ b → A) (h2 : b < a → B) : (nI a ≤ nI b → A) ∧ (¬ nI a ≤ nI b → B) :=
  ⟨fun c => h1 ((nI_leI ha hb).mp c), fun c => h2 (by rw [nI_leI ha hb] at c; omega)⟩
theorem iflt {a b : Nat} {A B : Prop} (ha : a < 2147483648) (hb : b < 2147483648) (h1 : a < b → A) (h2 : b ≤ a → B) : (nI a < nI b → A) ∧ (¬ nI a < nI b → B) :=
  ⟨fun c => h1 ((nI_ltI ha hb).mp c), fun c => h2 (by rw [nI_ltI ha hb] at c; omega)⟩
def bI (b : Bool) : Int32 := if b then 1 else 0
theorem bI_0 {b : Bool} : bI b = 0 ↔ b = false := by cases b <;> simp [bI]
theorem bI_01 (b : Bool) : bI b = 0 ∨ bI b = 1 := by cases b <;> simp [bI]
theorem ifb {b : Bool} {A B : Prop} (h1 : b = false → A) (h2 : b = true → B) : (bI b = 0 → A) ∧ (¬ bI b = 0 → B) :=
  ⟨fun c => h1 (bI_0.mp c), fun c => h2 (by cases b; exact absurd rfl c; rfl)⟩
theorem ifb' {b : Bool} {A B : Prop} (h1 : b = true → A) (h2 : b = false → B) : (¬ bI b = 0 → A) ∧ (bI b = 0 → B) :=
  ⟨fun c => h1 (by cases b; exact absurd rfl c; rfl), fun c => h2 (bI_0.mp c)⟩
theorem wpD_at {d z : Nat} {as as' : List mV} {M : mM} {k : mQ} (e : as = as') (h : wpD mB mNL d z as' M k) : wpD mB mNL d z as M k := e ▸ h
theorem sp_cell {d : Nat} {k : mQ} {M : mM} {L r i : Nat} (hi : i < L) (hL : L < 2147483648) (h : k (mI (M r i)) M) : wpD mB mNL (d + 1) zX7_cell [mR 50 L r, mI (nI i)] M k := by
  refine v_X7_cell_0 _ _ _ ⟨fun c => absurd c (nI_pos (by omega)), fun _ => ifle (a := L) (b := i) (by omega) (by omega) (fun c => by omega) (fun c => ⟨vp_in_nI hi (by omega), ?_⟩)⟩
  rw [nI_clamp (by omega)]
  exact h
theorem sp_cell_ro {d : Nat} {k : mQ} {M : mM} {L r i : Nat} (hi : i < L) (hL : L < 2147483648) (h : k (mI (M (1000 + r) i)) M) : wpD mB mNL (d + 1) zX7_cell [mR 51 L r, mI (nI i)] M k := by
  refine v_X7_cell_ro_0 _ _ _ ⟨fun c => absurd c (nI_pos (by omega)), fun _ => ifle (a := L) (b := i) (by omega) (by omega) (fun c => by omega) (fun c => ⟨vp_in_nI hi (by omega), ?_⟩)⟩
  rw [nI_clamp (by omega)]
  exact h
theorem sp_setCell {d : Nat} {k : mQ} {M : mM} {L r i : Nat} {v : Int32} (hi : i < L) (hL : L < 2147483648) (h : k none (up M r i v)) : wpD mB mNL (d + 1) zX7_setCell [mR 50 L r, mI (nI i), mI v] M k := by
  refine v_X7_setCell_0 _ _ _ _ ⟨fun c => absurd c (nI_pos (by omega)), fun _ => ifle (a := L) (b := i) (by omega) (by omega) (fun c => by omega) (fun c => ⟨vp_in_nI hi (by omega), ?_⟩)⟩
  rw [nI_clamp (by omega)]
  exact h
theorem sp_exchange {d : Nat} {k : mQ} {M : mM} {L r i : Nat} {v : Int32} (hi : i < L) (hL : L < 2147483648) (h : k (mI (M r i)) (up M r i v)) : wpD mB mNL (d + 2) zX7_exchange [mR 50 L r, mI (nI i), mI v] M k :=
  v_X7_exchange_0 _ _ _ _ (sp_cell hi hL (sp_setCell hi hL h))
/-- a row over another -/
def cpy (M : mM) (r0 r1 L : Nat) : mM := fun k j => if k = r1 ∧ j < L then M r0 j else M k j
theorem cpy_0 (M : mM) (r0 r1 : Nat) : cpy M r0 r1 0 = M := by
  funext k j
  simp [cpy]
theorem cpy_succ {M : mM} {r0 r1 i : Nat} (h : r0 ≠ r1) : up (cpy M r0 r1 i) r1 i (cpy M r0 r1 i r0 i) = cpy M r0 r1 (i + 1) := by
  funext k j
  simp only [cpy, up]
  by_cases hk : k = r1
  · subst hk
    by_cases hj : j = i
    · subst hj
      simp [h]
    · by_cases h2 : j < i
      · simp [hj, h2, show j < i + 1 by omega]
      · simp [hj, h2, show ¬ j < i + 1 by omega]
  · simp [hk]
theorem sp_copyRow {d : Nat} {k : mQ} {M : mM} {L r0 r1 : Nat} (hr : r0 ≠ r1) (hL : L < 2147483648) (h : k none (cpy M r0 r1 L)) : wpD mB mNL (d + 1) zX7_copyRow [mR 50 L r0, mR 50 L r1] M k := by
  refine v_X7_copyRow_0 _ _ _ _ ?_
  have key : ∀ m i, i + m = L → jJ kB_X7_copyRow d k 1 [mR 50 L r0, mR 50 L r1, mI (nI i)] [] (cpy M r0 r1 i) := by
    intro m
    induction m with
    | zero =>
      intro i hi
      refine v_X7_copyRow_1 _ _ _ _ _ (ifle (a := L) (b := i) (by omega) (by omega) (fun _ => ?_) (fun c => by omega))
      rw [show i = L by omega]
      exact h
    | succ m ih =>
      intro i hi
      refine v_X7_copyRow_1 _ _ _ _ _ (ifle (a := L) (b := i) (by omega) (by omega) (fun c => by omega) (fun _ => ifle (a := L) (b := i) (by omega) (by omega) (fun c => by omega) (fun _ => ⟨vp_in_nI (by omega) (by omega), vp_in_nI (by omega) (by omega), ?_⟩)))
      rw [nI_clamp (by omega), cpy_succ hr, nI_1]
      exact ih (i + 1) (by omega)
  have := key L 0 (by omega)
  rw [cpy_0] at this
  exact this
theorem sp_hasBit {d : Nat} {k : mQ} {M : mM} {a b : Nat} (ha : a < 2147483648) (hb : b < 32) (h : k (mI (bI (a.testBit b))) M) : wpD mB mNL (d + 1) zX7_hasBit [mI (nI a), mI (nI b)] M k := by
  refine v_X7_hasBit_0 _ _ ⟨fun c => absurd c (nI_pos (by omega)), fun _ => ifle (a := 32) (b := b) (by omega) (by omega) (fun c => by omega) (fun _ => ?_)⟩
  rw [nI_bit ha hb]
  cases hB : a.testBit b
  · rw [hB] at h
    exact ⟨fun _ => h, fun c => absurd rfl c⟩
  · rw [hB] at h
    exact ⟨fun c => absurd c (by decide), fun _ => h⟩
theorem sp_hasBit_neg {d : Nat} {k : mQ} {M : mM} {a b : Int32} (hb : b < 0) (h : k (mI 0) M) : wpD mB mNL (d + 1) zX7_hasBit [mI a, mI b] M k :=
  v_X7_hasBit_0 _ _ ⟨fun _ => h, fun c => absurd hb c⟩
/-! lanes -/
theorem sp_kindOf {d : Nat} {k : mQ} {M : mM} {o i : Nat} (hi : i < 8) (h : k (mI (M (o + 1) i)) M) : wpD mB mNL (d + 2) zX2_kindOf [mR 2 0 o, mI (nI i)] M k := v_X2_kindOf_0 _ _ (sp_cell hi (by decide) h)
theorem sp_lossAheadOf {d : Nat} {k : mQ} {M : mM} {o i : Nat} (hi : i < 8) (h : k (mI (M (o + 2) i)) M) : wpD mB mNL (d + 2) zX2_lossAheadOf [mR 2 0 o, mI (nI i)] M k := v_X2_lossAheadOf_0 _ _ (sp_cell hi (by decide) h)
theorem sp_brookAheadOf {d : Nat} {k : mQ} {M : mM} {o i : Nat} (hi : i < 8) (h : k (mI (M (o + 3) i)) M) : wpD mB mNL (d + 2) zX2_brookAheadOf [mR 2 0 o, mI (nI i)] M k := v_X2_brookAheadOf_0 _ _ (sp_cell hi (by decide) h)
theorem sp_isFull {d : Nat} {k : mQ} {M : mM} {o n : Nat} (hn : M o 0 = nI n) (h9 : n < 2147483648) (h : k (mI (bI (decide (8 ≤ n)))) M) : wpD mB mNL (d + 1) zX2_isFull [mR 2 0 o] M k := by
  refine v_X2_isFull_0 _ ?_
  rw [hn]
  refine iflt (a := n) (b := 8) (by omega) (by omega) (fun c => ?_) (fun c => ?_)
  · rw [show decide (8 ≤ n) = false by simp; omega] at h
    exact h
  · rw [show decide (8 ≤ n) = true by simp; omega] at h
    exact h
theorem sp_houseSets {d : Nat} {k : mQ} {M : mM} {o n : Nat} (hn : M o 0 = nI n) (h9 : n < 31) (h : k (mI (nI (2 ^ n))) M) : wpD mB mNL (d + 1) zX2_houseSets [mR 2 0 o] M k := by
  refine v_X2_houseSets_0 _ ?_
  rw [hn, sh_small h9]
  exact h
theorem sp_brookSets {d : Nat} {k : mQ} {M : mM} {o n : Nat} (hn : M o 1 = nI n) (h9 : n < 31) (h : k (mI (nI (2 ^ n))) M) : wpD mB mNL (d + 1) zX2_brookSets [mR 2 0 o] M k := by
  refine v_X2_brookSets_0 _ ?_
  rw [hn, sh_small h9]
  exact h
theorem sp_lclear {d : Nat} {k : mQ} {M : mM} {o : Nat} (h : k none (up (up M o 0 0) o 1 0)) : wpD mB mNL (d + 1) zX2_clear [mR 2 0 o] M k := v_X2_clear_0 _ h
/-- a lane over another -/
def cpyL (M : mM) (a o : Nat) : mM := cpy (cpy (cpy (up (up M o 0 (M a 0)) o 1 (M a 1)) (a + 1) (o + 1) 8) (a + 2) (o + 2) 8) (a + 3) (o + 3) 8
theorem sp_copyLane {d : Nat} {k : mQ} {M : mM} {o a : Nat} (h1 : a ≠ o) (h : k none (cpyL M a o)) : wpD mB mNL (d + 2) zX2_copyOf [mR 2 0 o, mR 2 0 a] M k := by
  refine v_X2_copyOf_0 _ _ ?_
  rw [up_k (v := M a 0) (k' := a) h1]
  exact sp_copyRow (by omega) (by decide) (sp_copyRow (by omega) (by decide) (sp_copyRow (by omega) (by decide) h))
def cpyF (M : mM) (a o : Nat) : mM := cpy (cpy (cpy (up M o 0 (M a 0)) (a + 1) (o + 1) 6) (a + 2) (o + 2) 6) (a + 3) (o + 3) 6
theorem sp_copyFelt {d : Nat} {k : mQ} {M : mM} {o a : Nat} (h1 : a ≠ o) (h : k none (cpyF M a o)) : wpD mB mNL (d + 2) zX1_copyOf [mR 1 0 o, mR 1 0 a] M k :=
  v_X1_copyOf_0 _ _ (sp_copyRow (by omega) (by decide) (sp_copyRow (by omega) (by decide) (sp_copyRow (by omega) (by decide) h)))
def cpyV (M : mM) (a o : Nat) : mM := cpyF (cpyL (cpy (cpy M (a + 1) (o + 1) 5) (a + 2) (o + 2) 30) (a + 3) (o + 3)) (a + 7) (o + 7)
theorem sp_copyValley {d : Nat} {k : mQ} {M : mM} {o a : Nat} (h1 : a ≠ o) (h : k none (cpyV M a o)) : wpD mB mNL (d + 3) zX6_copyOf [mR 6 0 o, mR 6 0 a] M k :=
  v_X6_copyOf_0 _ _ (sp_copyRow (by omega) (by decide) (sp_copyRow (by omega) (by decide) (sp_copyLane (by omega) (sp_copyFelt (by omega) h))))
/-! valleys -/
theorem sp_springValue {d : Nat} {k : mQ} {M : mM} {o i : Nat} (hi : i < 5) (h : k (mI (M (o + 1) i)) M) : wpD mB mNL (d + 2) zX6_springValue [mR 6 0 o, mI (nI i)] M k := v_X6_springValue_0 _ _ (sp_cell hi (by decide) h)
theorem sp_kindValue {d : Nat} {k : mQ} {M : mM} {o w c : Nat} (hw : w < 5) (hc : c < 6) (h : k (mI (M (o + 2) (6 * w + c))) M) : wpD mB mNL (d + 2) zX6_kindValue [mR 6 0 o, mI (nI w), mI (nI c)] M k := by
  refine v_X6_kindValue_0 _ _ _ ?_
  rw [show (6 : Int32) = nI 6 from rfl, pk_mul, nI_add, Nat.mul_comm w 6]
  exact sp_cell (by omega) (by decide) h
/-- what springs and kinds may be -/
def Rng (sp kv : Nat → Int) : Prop := (1 ≤ sp 0 ∧ sp 0 ≤ 50) ∧ (0 ≤ sp 1 ∧ sp 1 ≤ 1000) ∧ (0 ≤ sp 2 ∧ sp 2 ≤ 300) ∧ (1 ≤ sp 3 ∧ sp 3 ≤ 30) ∧ (0 ≤ sp 4 ∧ sp 4 ≤ 300) ∧
  ∀ c, c < 6 → (0 ≤ kv c ∧ kv c ≤ 1000) ∧ (0 ≤ kv (6 + c) ∧ kv (6 + c) ≤ 1000) ∧ (0 ≤ kv (12 + c) ∧ kv (12 + c) ≤ 9999) ∧ (0 ≤ kv (18 + c) ∧ kv (18 + c) ≤ 99) ∧ (0 ≤ kv (24 + c) ∧ kv (24 + c) ≤ 63)
/-- rows s and q of memory hold springs and kinds -/
def Hyd (sp kv : Nat → Int) (M : mM) (s q : Nat) : Prop := (∀ j, j < 5 → M s j = zi (sp j)) ∧ ∀ j, j < 30 → M q j = zi (kv j)
def WB (F Q : Int) : Prop := 1 ≤ F ∧ F ≤ 400 ∧ 0 ≤ Q ∧ Q ≤ 200000
theorem mul_bd {a b m n : Int} (h1 : 0 ≤ a) (h2 : a ≤ m) (h3 : 0 ≤ b) (h4 : b ≤ n) : 0 ≤ a * b ∧ a * b ≤ m * n :=
  ⟨Int.mul_nonneg h1 h3, Int.mul_le_mul h2 h4 h3 (Int.le_trans h1 h2)⟩
/-- a pipe of loss l -/
def pipeQ (A l F Q : Int) : Int := if Q < A * F then Q else if Q - 10 * l * F < A * F then A * F else Q - 10 * l * F
def harmB (kv : Nat → Int) (c : Nat) (F Q : Int) : Bool := decide (kv (6 + c) * F < Q)
def canB (sp kv : Nat → Int) (hour c : Nat) (F Q : Int) : Bool := (kv (24 + c)).toNat.testBit hour && decide (kv c * F ≤ Q) && decide (sp 2 * F ≤ Q - kv (12 + c))
theorem sp_heatBehindPipe {d : Nat} {k : mQ} {M : mM} {o : Nat} {sp kv : Nat → Int} {l F Q : Int} (hR : Rng sp kv) (hH : Hyd sp kv M (o + 1) (o + 2)) (hl : 0 ≤ l ∧ l ≤ 9) (hW : WB F Q) (h : k (mI (zi (pipeQ (sp 2) l F Q))) M) : wpD mB mNL (d + 3) zX6_heatBehindPipe [mR 6 0 o, mI (zi l), mI (zi F), mI (zi Q)] M k := by
  obtain ⟨-, -, hA, -⟩ := hR
  obtain ⟨w1, w2, w3, w4⟩ := hW
  refine v_X6_heatBehindPipe_0 _ _ _ _ (sp_springValue (i := 2) (by decide) ?_)
  have b1 := mul_bd hA.1 hA.2 (show 0 ≤ F by omega) w2
  have b2 := mul_bd (show 0 ≤ 10 * l by omega) (show 10 * l ≤ 90 by omega) (show 0 ≤ F by omega) w2
  show (_ ∧ _)
  rw [hH.1 2 (by decide), show (10 : Int32) = zi 10 from rfl]
  simp only [zi_mul, zi_sub]
  unfold pipeQ at h
  refine ⟨fun c => ?_, fun c => ?_⟩
  · rw [zi_le (by omega) (by omega) (by omega) (by omega)] at c
    rw [if_neg (by omega)] at h
    by_cases c2 : Q - 10 * l * F < sp 2 * F
    · rw [if_pos ((zi_lt (by omega) (by omega) (by omega) (by omega)).mpr c2)]
      rw [if_pos c2] at h
      exact h
    · rw [if_neg (fun q => c2 ((zi_lt (by omega) (by omega) (by omega) (by omega)).mp q))]
      rw [if_neg c2] at h
      exact h
  · rw [zi_le (by omega) (by omega) (by omega) (by omega)] at c
    rw [if_pos (by omega)] at h
    exact h
theorem sp_isHarmed {d : Nat} {k : mQ} {M : mM} {o c : Nat} {sp kv : Nat → Int} {F Q : Int} (hR : Rng sp kv) (hH : Hyd sp kv M (o + 1) (o + 2)) (hc : c < 6) (hW : WB F Q) (h : k (mI (bI (harmB kv c F Q))) M) : wpD mB mNL (d + 3) zX6_isHarmed [mR 6 0 o, mI (nI c), mI (zi F), mI (zi Q)] M k := by
  obtain ⟨-, hm, -⟩ := hR.2.2.2.2.2 c hc
  obtain ⟨w1, w2, w3, w4⟩ := hW
  refine v_X6_isHarmed_0 _ _ _ _ (sp_kindValue (w := 1) (by decide) hc ?_)
  have b1 := mul_bd hm.1 hm.2 (show 0 ≤ F by omega) w2
  show (_ ∧ _)
  rw [hH.2 _ (by omega), show 6 * 1 + c = 6 + c from rfl]
  simp only [zi_mul]
  rw [zi_le (by omega) (by omega) (by omega) (by omega)]
  unfold harmB at h
  refine ⟨fun c2 => ?_, fun c2 => ?_⟩
  · rw [show decide (kv (6 + c) * F < Q) = false by simp; omega] at h
    exact h
  · rw [show decide (kv (6 + c) * F < Q) = true by simp; omega] at h
    exact h
theorem nI_hours {z : Int} (h0 : 0 ≤ z) : zi z = nI z.toNat := by
  rw [nI_zi]
  congr 1
  omega
theorem sp_isWanting {d : Nat} {k : mQ} {M : mM} {o c hour : Nat} {sp kv : Nat → Int} (hR : Rng sp kv) (hH : Hyd sp kv M (o + 1) (o + 2)) (hc : c < 6) (hh : hour < 6) (h : k (mI (bI ((kv (24 + c)).toNat.testBit hour))) M) : wpD mB mNL (d + 3) zX6_isWanting [mR 6 0 o, mI (nI c), mI (nI hour)] M k := by
  obtain ⟨-, -, -, -, hm⟩ := hR.2.2.2.2.2 c hc
  refine v_X6_isWanting_0 _ _ _ (sp_kindValue (w := 4) (by decide) hc ?_)
  show wpD _ _ _ _ [mI (M (o + 2) (6 * 4 + c)), _] _ _
  rw [hH.2 _ (by omega), show 6 * 4 + c = 24 + c from rfl, nI_hours hm.1]
  exact sp_hasBit (by omega) (by omega) ⟨bI_01 _, h⟩
theorem sp_isServed {d : Nat} {k : mQ} {M : mM} {o c hour : Nat} {sp kv : Nat → Int} {F Q : Int} (hR : Rng sp kv) (hH : Hyd sp kv M (o + 1) (o + 2)) (hc : c < 6) (hh : hour < 6) (hW : WB F Q) (h : k (mI (bI (canB sp kv hour c F Q))) M) : wpD mB mNL (d + 3) zX6_isServed [mR 6 0 o, mI (nI c), mI (nI hour), mI (zi F), mI (zi Q)] M k := by
  obtain ⟨hn, -, hw, -, hm⟩ := hR.2.2.2.2.2 c hc
  have hA := hR.2.2.1
  obtain ⟨w1, w2, w3, w4⟩ := hW
  have b1 := mul_bd hn.1 hn.2 (show 0 ≤ F by omega) w2
  have b2 := mul_bd hA.1 hA.2 (show 0 ≤ F by omega) w2
  refine v_X6_isServed_0 _ _ _ _ _ (sp_kindValue (w := 4) (by decide) hc ?_)
  show wpD _ _ _ _ [mI (M (o + 2) (6 * 4 + c)), _] _ _
  rw [hH.2 _ (by omega), show 6 * 4 + c = 24 + c from rfl, nI_hours hm.1]
  unfold canB at h
  refine sp_hasBit (by omega) (by omega) (ifb (fun e => ?_) (fun e => ?_))
  · rw [e] at h
    exact h
  · rw [e] at h
    refine sp_kindValue (w := 0) (by decide) hc ?_
    show (_ ∧ _)
    rw [hH.2 _ (by omega), show 6 * 0 + c = c by omega]
    simp only [zi_mul]
    rw [zi_lt (by omega) (by omega) (by omega) (by omega)]
    refine ⟨fun c2 => ?_, fun c2 => sp_kindValue (w := 2) (by decide) hc (sp_springValue (i := 2) (by decide) ?_)⟩
    · rw [show decide (kv c * F ≤ Q) = false by simp; omega] at h
      exact h
    · rw [show decide (kv c * F ≤ Q) = true by simp; omega] at h
      show (_ ∧ _)
      rw [hH.2 _ (by omega), hH.1 _ (by omega), show 6 * 2 + c = 12 + c from rfl]
      simp only [zi_mul, zi_sub]
      rw [zi_lt (by omega) (by omega) (by omega) (by omega)]
      refine ⟨fun c3 => ?_, fun c3 => ?_⟩
      · rw [show decide (sp 2 * F ≤ Q - kv (12 + c)) = false by simp; omega] at h
        exact h
      · rw [show decide (sp 2 * F ≤ Q - kv (12 + c)) = true by simp; omega] at h
        exact h
end
section
/-! ONE HOUR'S WATER: what a lane does, as numbers -/
/-- springs, kinds, and of each house its kind, the loss ahead, the brook ahead (-6: none) -/
abbrev LG : Type := (Nat → Int) × (Nat → Int) × (Nat → Nat) × (Nat → Int) × (Nat → Int)
def gS (G : LG) : Nat → Int := G.1
def gK (G : LG) : Nat → Int := G.2.1
def kdH (G : LG) : Nat → Nat := G.2.2.1
def loH (G : LG) : Nat → Int := G.2.2.2.1
def brH (G : LG) : Nat → Int := G.2.2.2.2
def brB (L : Nat) (b : Int) : Bool := decide (0 ≤ b) && L.testBit b.toNat
def aF (G : LG) (L h : Nat) (F : Int) : Int := if brB L (brH G h) then F + gS G 3 else F
def aQ (G : LG) (L h : Nat) (F Q : Int) : Int := if brB L (brH G h) then pipeQ (gS G 2) (loH G h) F Q + gS G 3 * gS G 4 else pipeQ (gS G 2) (loH G h) F Q
def haB (G : LG) (h : Nat) (F Q : Int) : Bool := harmB (gK G) (kdH G h) F Q
def caB (G : LG) (hour h : Nat) (F Q : Int) : Bool := canB (gS G) (gK G) hour (kdH G h) F Q
def svB (G : LG) (D hour h : Nat) (F Q : Int) : Bool := D.testBit h && !haB G h F Q && caB G hour h F Q
def wtK (G : LG) (h : Nat) : Int := gK G (12 + kdH G h)
/-- water and heat ahead of the pipe of house h -/
def fl (G : LG) (L D hour : Nat) (w : Int) : Nat → Int × Int
  | 0 => (gS G 0, gS G 0 * w)
  | h + 1 => (aF G L h (fl G L D hour w h).1, if svB G D hour h (aF G L h (fl G L D hour w h).1) (aQ G L h (fl G L D hour w h).1 (fl G L D hour w h).2) then aQ G L h (fl G L D hour w h).1 (fl G L D hour w h).2 - wtK G h else aQ G L h (fl G L D hour w h).1 (fl G L D hour w h).2)
/-- as they come to house h -/
def arF (G : LG) (L D hour : Nat) (w : Int) (h : Nat) : Int := aF G L h (fl G L D hour w h).1
def arQ (G : LG) (L D hour : Nat) (w : Int) (h : Nat) : Int := aQ G L h (fl G L D hour w h).1 (fl G L D hour w h).2
def isS (G : LG) (L D hour : Nat) (w : Int) (h : Nat) : Bool := svB G D hour h (arF G L D hour w h) (arQ G L D hour w h)
def isH (G : LG) (L D hour : Nat) (w : Int) (h : Nat) : Bool := haB G h (arF G L D hour w h) (arQ G L D hour w h)
def svN (G : LG) (L D hour : Nat) (w : Int) : Nat → Nat
  | 0 => 0
  | h + 1 => if isS G L D hour w h then svN G L D hour w h + 2 ^ h else svN G L D hour w h
def hmN (G : LG) (L D hour : Nat) (w : Int) : Nat → Nat
  | 0 => 0
  | h + 1 => if isH G L D hour w h then hmN G L D hour w h + 2 ^ h else hmN G L D hour w h
def lsN (G : LG) (L D hour : Nat) (w : Int) : Nat → Int
  | 0 => 0
  | h + 1 => lsN G L D hour w h + ((fl G L D hour w h).2 - pipeQ (gS G 2) (loH G h) (fl G L D hour w h).1 (fl G L D hour w h).2)
def tkN (G : LG) (L D hour : Nat) (w : Int) : Nat → Int
  | 0 => 0
  | h + 1 => if isS G L D hour w h then tkN G L D hour w h + wtK G h else tkN G L D hour w h
theorem fl_succ (G : LG) (L D hour : Nat) (w : Int) (h : Nat) : fl G L D hour w (h + 1) = (arF G L D hour w h, if isS G L D hour w h then arQ G L D hour w h - wtK G h else arQ G L D hour w h) := rfl
theorem svN_f {G : LG} {L D hour : Nat} {w : Int} {h : Nat} (e : isS G L D hour w h = false) : svN G L D hour w (h + 1) = svN G L D hour w h := by
  show (if _ then _ else _) = _
  rw [e]; rfl
theorem svN_t {G : LG} {L D hour : Nat} {w : Int} {h : Nat} (e : isS G L D hour w h = true) : svN G L D hour w (h + 1) = svN G L D hour w h + 2 ^ h := by
  show (if _ then _ else _) = _
  rw [e]; rfl
theorem hmN_f {G : LG} {L D hour : Nat} {w : Int} {h : Nat} (e : isH G L D hour w h = false) : hmN G L D hour w (h + 1) = hmN G L D hour w h := by
  show (if _ then _ else _) = _
  rw [e]; rfl
theorem hmN_t {G : LG} {L D hour : Nat} {w : Int} {h : Nat} (e : isH G L D hour w h = true) : hmN G L D hour w (h + 1) = hmN G L D hour w h + 2 ^ h := by
  show (if _ then _ else _) = _
  rw [e]; rfl
theorem tkN_f {G : LG} {L D hour : Nat} {w : Int} {h : Nat} (e : isS G L D hour w h = false) : tkN G L D hour w (h + 1) = tkN G L D hour w h := by
  show (if _ then _ else _) = _
  rw [e]; rfl
theorem tkN_t {G : LG} {L D hour : Nat} {w : Int} {h : Nat} (e : isS G L D hour w h = true) : tkN G L D hour w (h + 1) = tkN G L D hour w h + wtK G h := by
  show (if _ then _ else _) = _
  rw [e]; rfl
/-- what n houses may be -/
def LR (G : LG) (n b : Nat) : Prop := ∀ h, h < n → kdH G h < 6 ∧ (0 ≤ loH G h ∧ loH G h ≤ 9) ∧ (brH G h = -6 ∨ (0 ≤ brH G h ∧ brH G h < b))
def WBh (h : Nat) (F Q : Int) : Prop := 1 ≤ F ∧ F ≤ 50 + 30 * (h : Int) ∧ 0 ≤ Q ∧ Q ≤ 50000 + 9000 * (h : Int)
theorem WBh.wb {h : Nat} {F Q : Int} (hw : WBh h F Q) (h9 : h ≤ 10) : WB F Q := by
  obtain ⟨h1, h2, h3, h4⟩ := hw
  exact ⟨h1, by omega, h3, by omega⟩
theorem pipe_bd {A l F Q : Int} (hA : 0 ≤ A) (hl : 0 ≤ l) (hF : 0 ≤ F) (hQ : 0 ≤ Q) : 0 ≤ pipeQ A l F Q ∧ pipeQ A l F Q ≤ Q := by
  have b1 := Int.mul_nonneg hA hF
  have b2 := Int.mul_nonneg (show 0 ≤ 10 * l by omega) hF
  unfold pipeQ
  split
  · exact ⟨hQ, Int.le_refl _⟩
  · split
    · exact ⟨b1, by omega⟩
    · exact ⟨by omega, by omega⟩
theorem ar_bd {G : LG} {L h : Nat} {F Q : Int} (hR : Rng (gS G) (gK G)) (hl : 0 ≤ loH G h) (hw : WBh h F Q) : WBh (h + 1) (aF G L h F) (aQ G L h F Q) := by
  obtain ⟨h1, h2, h3, h4⟩ := hw
  obtain ⟨-, -, hA, hb, hc, -⟩ := hR
  have p := pipe_bd (A := gS G 2) (l := loH G h) (F := F) (Q := Q) hA.1 hl (by omega) h3
  have m := mul_bd (a := gS G 3) (b := gS G 4) (by omega) hb.2 hc.1 hc.2
  unfold WBh aF aQ
  split
  · exact ⟨by omega, by omega, by omega, by omega⟩
  · exact ⟨by omega, by omega, by omega, by omega⟩
theorem can_bd {G : LG} {D hour h : Nat} {F Q : Int} (hR : Rng (gS G) (gK G)) (hF : 0 ≤ F) (hk : kdH G h < 6) (hs : svB G D hour h F Q = true) : 0 ≤ Q - wtK G h ∧ 0 ≤ wtK G h ∧ wtK G h ≤ 9999 := by
  have hw := (hR.2.2.2.2.2 (kdH G h) hk).2.2.1
  unfold svB caB canB at hs
  simp only [Bool.and_eq_true, decide_eq_true_eq] at hs
  have b1 := Int.mul_nonneg hR.2.2.1.1 hF
  have := hs.2.2
  unfold wtK
  exact ⟨by omega, hw.1, hw.2⟩
theorem fl_bd {G : LG} {L D hour n b : Nat} {w : Int} (hR : Rng (gS G) (gK G)) (hw : 0 ≤ w ∧ w ≤ 1000) (hl : LR G n b) : ∀ h, h ≤ n → WBh h (fl G L D hour w h).1 (fl G L D hour w h).2
  | 0, _ => by
    have m := mul_bd (a := gS G 0) (b := w) (by have := hR.1; omega) hR.1.2 hw.1 hw.2
    have := hR.1
    exact ⟨by show 1 ≤ gS G 0; omega, by show gS G 0 ≤ _; omega, m.1, by show gS G 0 * w ≤ _; omega⟩
  | h + 1, hn => by
    have ih := fl_bd (D := D) (hour := hour) (L := L) hR hw hl h (by omega)
    have hh := hl h (by omega)
    have a := ar_bd (L := L) hR hh.2.1.1 ih
    rw [fl_succ]
    unfold isS
    by_cases hs : svB G D hour h (arF G L D hour w h) (arQ G L D hour w h) = true
    · rw [if_pos hs]
      have c := can_bd hR (by have := a.1; unfold arF; omega) hh.1 hs
      obtain ⟨a1, a2, a3, a4⟩ := a
      exact ⟨a1, a2, c.1, by have : arQ G L D hour w h ≤ 50000 + 9000 * ((h + 1 : Nat) : Int) := a4; have := c.2.1; show arQ G L D hour w h - wtK G h ≤ _; omega⟩
    · rw [if_neg hs]
      exact a
theorem ars_bd {G : LG} {L D hour n b : Nat} {w : Int} (hR : Rng (gS G) (gK G)) (hw : 0 ≤ w ∧ w ≤ 1000) (hl : LR G n b) {h : Nat} (hn : h < n) : WBh (h + 1) (arF G L D hour w h) (arQ G L D hour w h) :=
  ar_bd hR (hl h hn).2.1.1 (fl_bd hR hw hl h (by omega))
theorem svN_lt (G : LG) (L D hour : Nat) (w : Int) : ∀ h, svN G L D hour w h < 2 ^ h
  | 0 => Nat.one_pos
  | h + 1 => by
    have := svN_lt G L D hour w h
    unfold svN
    split <;> omega
theorem hmN_lt (G : LG) (L D hour : Nat) (w : Int) : ∀ h, hmN G L D hour w h < 2 ^ h
  | 0 => Nat.one_pos
  | h + 1 => by
    have := hmN_lt G L D hour w h
    unfold hmN
    split <;> omega
theorem or_pow {a h : Nat} (ha : a < 2 ^ h) : a ||| 2 ^ h = a + 2 ^ h := by
  have := Nat.two_pow_add_eq_or_of_lt ha 1
  rw [Nat.mul_one] at this
  rw [Nat.or_comm, ← this, Nat.add_comm]
theorem add_pow_bit {a h i : Nat} (ha : a < 2 ^ h) : (a + 2 ^ h).testBit i = (a.testBit i || decide (i = h)) := by
  rw [← or_pow ha, Nat.testBit_or, Nat.testBit_two_pow]
  congr 1
  simp [eq_comm]
theorem svN_bit (G : LG) (L D hour : Nat) (w : Int) : ∀ h i, (svN G L D hour w h).testBit i = (decide (i < h) && isS G L D hour w i)
  | 0, i => by simp [svN]
  | h + 1, i => by
    have ih := svN_bit G L D hour w h i
    unfold svN
    by_cases hi : i = h
    · subst hi
      have hz : (svN G L D hour w i).testBit i = false := by rw [ih]; simp
      cases hs : isS G L D hour w i
      · simp [hz]
      · simp [add_pow_bit (svN_lt G L D hour w i)]
    · have hlt : decide (i < h + 1) = decide (i < h) := by simp; omega
      split
      · rw [add_pow_bit (svN_lt G L D hour w h), ih, hlt]; simp [hi]
      · rw [ih, hlt]
theorem hmN_bit (G : LG) (L D hour : Nat) (w : Int) : ∀ h i, (hmN G L D hour w h).testBit i = (decide (i < h) && isH G L D hour w i)
  | 0, i => by simp [hmN]
  | h + 1, i => by
    have ih := hmN_bit G L D hour w h i
    unfold hmN
    by_cases hi : i = h
    · subst hi
      have hz : (hmN G L D hour w i).testBit i = false := by rw [ih]; simp
      cases hs : isH G L D hour w i
      · simp [hz]
      · simp [add_pow_bit (hmN_lt G L D hour w i)]
    · have hlt : decide (i < h + 1) = decide (i < h) := by simp; omega
      split
      · rw [add_pow_bit (hmN_lt G L D hour w h), ih, hlt]; simp [hi]
      · rw [ih, hlt]
/-- houses that are harmed, or draw and are not served -/
def wrN (G : LG) (L D hour : Nat) (w : Int) (n : Nat) : Nat := hmN G L D hour w n ||| (D ^^^ (D &&& svN G L D hour w n))
theorem nI_not {D a : Nat} : nI D &&& (nI a ^^^ (-1)) = nI (D ^^^ (D &&& a)) := by
  have t : ∀ n, (nI n).toBitVec = BitVec.ofNat 32 n := fun _ => rfl
  have e : (-1 : Int32).toBitVec = BitVec.allOnes 32 := by decide
  rw [← Int32.toBitVec_inj, Int32.toBitVec_and, Int32.toBitVec_xor, t, t, t, e]
  refine BitVec.eq_of_getLsbD_eq fun i hi => ?_
  rw [BitVec.getLsbD_and, BitVec.getLsbD_xor, BitVec.getLsbD_ofNat, BitVec.getLsbD_ofNat, BitVec.getLsbD_ofNat, BitVec.getLsbD_allOnes, Nat.testBit_xor, Nat.testBit_and]
  cases D.testBit i <;> cases a.testBit i <;> simp [hi]
theorem wrN_bit {G : LG} {L D hour : Nat} {w : Int} {n i : Nat} : (wrN G L D hour w n).testBit i = ((decide (i < n) && isH G L D hour w i) || (D.testBit i && !(decide (i < n) && isS G L D hour w i))) := by
  unfold wrN
  rw [Nat.testBit_or, hmN_bit, Nat.testBit_xor, Nat.testBit_and, svN_bit]
  cases D.testBit i <;> simp
end
section
/-! THE CLASS' COURSE -/
theorem sp_springZ {d : Nat} {k : mQ} {M : mM} {o i : Nat} {sp kv : Nat → Int} (hH : Hyd sp kv M (o + 1) (o + 2)) (hi : i < 5) (h : k (mI (zi (sp i))) M) : wpD mB mNL (d + 2) zX6_springValue [mR 6 0 o, mI (nI i)] M k :=
  sp_springValue hi (by rw [hH.1 i hi]; exact h)
theorem sp_kindZ {d : Nat} {k : mQ} {M : mM} {o w c : Nat} {sp kv : Nat → Int} (hH : Hyd sp kv M (o + 1) (o + 2)) (hw : w < 5) (hc : c < 6) (h : k (mI (zi (kv (6 * w + c)))) M) : wpD mB mNL (d + 2) zX6_kindValue [mR 6 0 o, mI (nI w), mI (nI c)] M k :=
  sp_kindValue hw hc (by rw [hH.2 _ (by omega)]; exact h)
theorem Hyd.of {sp kv : Nat → Int} {M M' : mM} {s q : Nat} (h : Hyd sp kv M s q) (hs : ∀ j, M' s j = M s j) (hq : ∀ j, M' q j = M q j) : Hyd sp kv M' s q :=
  ⟨fun j hj => by rw [hs]; exact h.1 j hj, fun j hj => by rw [hq]; exact h.2 j hj⟩
theorem Hyd.up {sp kv : Nat → Int} {M : mM} {s q k j : Nat} {v : Int32} (h : Hyd sp kv M s q) (hs : s ≠ k) (hq : q ≠ k) : Hyd sp kv (up M k j v) s q :=
  h.of (fun _ => up_k hs) (fun _ => up_k hq)
/-- the lane at o is that of G, n houses -/
def LnC (G : LG) (M : mM) (o n : Nat) : Prop := M o 0 = nI n ∧ ∀ h, h < n → M (o + 1) h = nI (kdH G h) ∧ M (o + 2) h = zi (loH G h) ∧ M (o + 3) h = zi (brH G h)
theorem LnC.of {G : LG} {M M' : mM} {o n : Nat} (h : LnC G M o n) (h0 : ∀ k j, o ≤ k → k ≤ o + 3 → M' k j = M k j) : LnC G M' o n :=
  ⟨by rw [h0 o 0 (by omega) (by omega)]; exact h.1, fun i hi => ⟨by rw [h0 _ i (by omega) (by omega)]; exact (h.2 i hi).1, by rw [h0 _ i (by omega) (by omega)]; exact (h.2 i hi).2.1, by rw [h0 _ i (by omega) (by omega)]; exact (h.2 i hi).2.2⟩⟩
theorem nI_1eq : (1 : Int32) = nI 1 := rfl
set_option maxHeartbeats 4000000 in
theorem sp_meetHouse {d : Nat} {k : mQ} {M : mM} {i c hour : Nat} {sp kv : Nat → Int} {F Q : Int} {b : Bool} (hR : Rng sp kv) (hH : Hyd sp kv M 36 37) (hi : i < 8) (hk : M 39 i = nI c) (hc : c < 6) (hh : hour < 6) (hW : WB F Q)
    (h1 : harmB kv c F Q = true → k (mI 0) (up M 23 1 (M 23 1 ||| nI (2 ^ i)))) (h2 : harmB kv c F Q = false → (b && canB sp kv hour c F Q) = false → k (mI 0) M)
    (h3 : harmB kv c F Q = false → (b && canB sp kv hour c F Q) = true → k (mI (zi (kv (12 + c)))) (up (up M 23 0 (M 23 0 ||| nI (2 ^ i))) 23 4 (M 23 4 + zi (kv (12 + c))))) :
    wpD mB mNL (d + 4) zX0_meetHouse [mR 0 0 23, mI (nI i), mI (nI hour), mI (zi F), mI (zi Q), mI (bI b)] M k := by
  refine v_X0_meetHouse_0 _ _ _ _ _ (sp_kindOf hi ?_)
  refine wpD_at (as' := [mR 6 0 35, mI (nI c), mI (zi F), mI (zi Q)]) (by rw [← hk]) ?_
  refine sp_isHarmed hR hH hc hW (ifb (fun e1 => ifb (fun e2 => ?_) (fun e2 => ?_)) (fun e1 => ?_))
  · exact h2 e1 (by rw [e2]; rfl)
  · refine wpD_at (as' := [mR 6 0 35, mI (nI c), mI (nI hour), mI (zi F), mI (zi Q)]) (by rw [← hk]) ?_
    refine sp_isServed hR hH hc hh hW (ifb' (fun e3 => ?_) (fun e3 => ?_))
    · refine wpD_at (as' := [mR 6 0 35, mI (nI 2), mI (nI c)]) (by rw [← hk]; rfl) ?_
      refine sp_kindZ (hH.up (by decide) (by decide)) (by decide) hc ?_
      refine wpD_at (as' := [mR 6 0 35, mI (nI 2), mI (nI c)]) (by rw [← hk]; rfl) ?_
      refine sp_kindZ ((hH.up (by decide) (by decide)).up (by decide) (by decide)) (by decide) hc ?_
      have h4 := h3 e1 (by rw [e2, e3]; rfl)
      rw [← sh_small (show i < 31 by omega)] at h4
      exact h4
    · exact h2 e1 (by rw [e2, e3]; rfl)
  · rw [← sh_small (show i < 31 by omega)] at h1
    exact h1 e1
def FInv (G : LG) (L D hour : Nat) (w : Int) (M0 M : mM) (i : Nat) : Prop :=
  (∀ k j, k < 23 ∨ 25 < k → M k j = M0 k j) ∧ M 23 0 = nI (svN G L D hour w i) ∧ M 23 1 = nI (hmN G L D hour w i) ∧ M 23 3 = zi (lsN G L D hour w i) ∧ M 23 4 = zi (tkN G L D hour w i) ∧ ∀ h, h < i → M 24 h = zi (arF G L D hour w h) ∧ M 25 h = zi (arQ G L D hour w h)
/-- what the course knows when it has followed the lane's n houses -/
def FEnd (G : LG) (L D hour : Nat) (w : Int) (n : Nat) (M0 M : mM) : Prop :=
  FInv G L D hour w M0 M n ∧ M 24 n = zi (fl G L D hour w n).1 ∧ M 25 n = zi (fl G L D hour w n).2 ∧ M 23 2 = nI (wrN G L D hour w n)
theorem nI_or_pow {a h : Nat} (ha : a < 2 ^ h) : nI a ||| nI (2 ^ h) = nI (a + 2 ^ h) := by rw [nI_or, or_pow ha]
theorem brB_lt {L : Nat} {b : Int} (h : brB L b = true) : 0 ≤ b ∧ L.testBit b.toNat = true := by
  unfold brB at h
  simpa using h
set_option maxHeartbeats 4000000 in
theorem sp_follow {d : Nat} {k : mQ} {M : mM} {G : LG} {L D hour n b : Nat} {w : Int} (hR : Rng (gS G) (gK G)) (hH : Hyd (gS G) (gK G) M 36 37) (hw : 0 ≤ w ∧ w ≤ 1000) (hLn : LnC G M 38 n) (hn : n ≤ 8) (hLR : LR G n b) (hb : b ≤ 4) (hh : hour < 6) (hL : L < 16) (hD : D < 2147483648)
    (h : ∀ M', FEnd G L D hour w n M M' → k none M') : wpD mB mNL (d + 5) zX0_follow [mR 0 0 23, mI (zi w), mI (nI hour), mI (nI L), mI (nI D)] M k := by
  have key : ∀ r i M1 u, i + r = n → FInv G L D hour w M M1 i → jJ kB_X0_follow (d + 4) k 1 [mR 0 0 23, mI (zi w), mI (nI hour), mI (nI L), mI (nI D), mR 2 0 38, mI (zi (fl G L D hour w i).1), mI (zi (fl G L D hour w i).2), mI (nI i), u] [] M1 := by
    intro r
    induction r with
    | zero =>
      intro i M1 u hi hI
      obtain ⟨i1, i2, i3, i4, i5, i6⟩ := id hI
      have hin : i = n := by omega
      subst hin
      have e0 : M1 38 0 = nI i := by rw [i1 38 0 (by omega)]; exact hLn.1
      refine v_X0_follow_1 _ _ _ _ _ _ _ _ ?_
      rw [e0]
      refine ifle (by omega) (by omega) (fun _ => ?_) (fun c => by omega)
      refine sp_setCell (i := i) (by omega) (by decide) ?_
      refine wpD_at (as' := [mR 50 9 25, mI (nI i), mI (zi (fl G L D hour w i).2)]) (by rw [up_k (by decide), e0]) ?_
      refine sp_setCell (i := i) (by omega) (by decide) (h _ ⟨⟨fun k j hk => ?_, ?_, ?_, ?_, ?_, fun h hh => ⟨?_, ?_⟩⟩, ?_, ?_, ?_⟩)
      · rw [up_k (by omega), up_k (by omega), up_k (by omega)]; exact i1 k j hk
      · rw [up_j (by decide), up_k (by decide), up_k (by decide)]; exact i2
      · rw [up_j (by decide), up_k (by decide), up_k (by decide)]; exact i3
      · rw [up_j (by decide), up_k (by decide), up_k (by decide)]; exact i4
      · rw [up_j (by decide), up_k (by decide), up_k (by decide)]; exact i5
      · rw [up_k (by decide), up_k (by decide), up_j (by omega)]; exact (i6 h hh).1
      · rw [up_k (by decide), up_j (by omega), up_k (by decide)]; exact (i6 h hh).2
      · rw [up_k (by decide), up_k (by decide), up_at]
      · rw [up_k (by decide), up_at]
      · rw [up_at, up_k (by decide), up_k (by decide), up_k (by decide), up_k (by decide), i2, i3, nI_not, nI_or]
        rfl
    | succ r ih =>
      intro i M1 u hi hI
      obtain ⟨i1, i2, i3, i4, i5, i6⟩ := id hI
      have e0 : M1 38 0 = nI n := by rw [i1 38 0 (by omega)]; exact hLn.1
      have hln := hLn.2 i (by omega)
      have hlr := hLR i (by omega)
      have hH1 : Hyd (gS G) (gK G) M1 36 37 := hH.of (fun j => i1 36 j (by omega)) (fun j => i1 37 j (by omega))
      have bd := fl_bd (L := L) (D := D) (hour := hour) hR hw hLR i (by omega)
      have abd := ars_bd (L := L) (D := D) (hour := hour) hR hw hLR (h := i) (by omega)
      -- behind the brook
      have back : ∀ M2, (∀ k j, k ≠ 23 → M2 k j = M1 k j) → M2 23 0 = M1 23 0 → M2 23 1 = M1 23 1 → M2 23 3 = zi (lsN G L D hour w (i + 1)) → M2 23 4 = M1 23 4 → ∀ v9, jJ kB_X0_follow (d + 4) k 2 [mR 0 0 23, mI (zi w), mI (nI hour), mI (nI L), mI (nI D), mR 2 0 38, mI (zi (arF G L D hour w i)), mI (zi (arQ G L D hour w i)), mI (nI i), mI v9] [] M2 := by
        intro M2 m0 m1 m2 m3 m4 v9
        refine v_X0_follow_2 _ _ _ _ _ _ _ _ (sp_setCell (i := i) (by omega) (by decide) (sp_setCell (i := i) (by omega) (by decide) (sp_hasBit hD (by omega) ?_)))
        have hH3 : Hyd (gS G) (gK G) (up (up M2 24 i (zi (arF G L D hour w i))) 25 i (zi (arQ G L D hour w i))) 36 37 := (hH1.of (fun j => m0 36 j (by decide)) (fun j => m0 37 j (by decide))).up (by decide) (by decide) |>.up (by decide) (by decide)
        have hk3 : (up (up M2 24 i (zi (arF G L D hour w i))) 25 i (zi (arQ G L D hour w i))) 39 i = nI (kdH G i) := by rw [up_k (by decide), up_k (by decide), m0 39 i (by decide), i1 39 i (by omega)]; exact hln.1
        have fin : ∀ (M3 : mM) (v : Int32), v = (if isS G L D hour w i then zi (wtK G i) else 0) → (∀ k j, k ≠ 23 → k ≠ 24 → k ≠ 25 → M3 k j = M2 k j) → M3 23 0 = nI (svN G L D hour w (i + 1)) → M3 23 1 = nI (hmN G L D hour w (i + 1)) → M3 23 3 = M2 23 3 → M3 23 4 = zi (tkN G L D hour w (i + 1)) → (∀ j, M3 24 j = (up M2 24 i (zi (arF G L D hour w i))) 24 j) → (∀ j, M3 25 j = (up M2 25 i (zi (arQ G L D hour w i))) 25 j) →
            jJ kB_X0_follow (d + 4) k 1 [mR 0 0 23, mI (zi w), mI (nI hour), mI (nI L), mI (nI D), mR 2 0 38, mI (zi (arF G L D hour w i)), mI (zi (arQ G L D hour w i) - v), mI (nI i + 1), mI v9] [] M3 := by
          intro M3 v hv n0 n1 n2 n3 n4 n5 n6
          have e1 : zi (arQ G L D hour w i) - v = zi (fl G L D hour w (i + 1)).2 := by
            rw [fl_succ, hv]
            split
            · rw [zi_sub]
            · rw [show (0 : Int32) = zi 0 from rfl, zi_sub, Int.sub_zero]
          rw [e1, nI_1]
          refine ih (i + 1) M3 _ (by omega) ⟨fun k j hk => ?_, n1, n2, by rw [n3, m3], n4, fun h hh => ?_⟩
          · rw [n0 k j (by omega) (by omega) (by omega), m0 k j (by omega)]; exact i1 k j hk
          · rw [n5, n6]
            by_cases e : h = i
            · subst e
              exact ⟨up_at _ _ _ _, up_at _ _ _ _⟩
            · rw [up_j e, up_j e, m0 24 h (by decide), m0 25 h (by decide)]
              exact i6 h (by omega)
        refine sp_meetHouse hR hH3 (by omega) hk3 hlr.1 hh (abd.wb (by omega)) (fun e => ?_) (fun e e2 => ?_) (fun e e2 => ?_)
        · have hs : isS G L D hour w i = false := by unfold isS svB haB; rw [e]; simp
          have hm : isH G L D hour w i = true := e
          refine fin _ _ (by rw [hs]; rfl) (fun k j k1 k2 k3 => ?_) ?_ ?_ ?_ ?_ (fun j => ?_) (fun j => ?_)
          · rw [up_k k1, up_k k3, up_k k2]
          · rw [up_j (by decide), up_k (by decide), up_k (by decide), m1, i2, svN_f hs]
          · rw [up_at, up_k (by decide), up_k (by decide), m2, i3, nI_or_pow (hmN_lt _ _ _ _ _ _), hmN_t hm]
          · rw [up_j (by decide), up_k (by decide), up_k (by decide)]
          · rw [up_j (by decide), up_k (by decide), up_k (by decide), m4, i5, tkN_f hs]
          · rw [up_k (by decide), up_k (by decide)]
          · rw [up_k (by decide)]; simp [up]
        · have hs : isS G L D hour w i = false := by
            unfold isS svB haB caB
            have e3 : harmB (gK G) (kdH G i) (arF G L D hour w i) (arQ G L D hour w i) = false := e
            rw [e3]
            simpa using e2
          have hm : isH G L D hour w i = false := e
          refine fin _ _ (by rw [hs]; rfl) (fun k j k1 k2 k3 => ?_) ?_ ?_ ?_ ?_ (fun j => ?_) (fun j => ?_)
          · rw [up_k k3, up_k k2]
          · rw [up_k (by decide), up_k (by decide), m1, i2, svN_f hs]
          · rw [up_k (by decide), up_k (by decide), m2, i3, hmN_f hm]
          · rw [up_k (by decide), up_k (by decide)]
          · rw [up_k (by decide), up_k (by decide), m4, i5, tkN_f hs]
          · rw [up_k (by decide)]
          · simp [up]
        · have hs : isS G L D hour w i = true := by
            unfold isS svB haB caB
            have e3 : harmB (gK G) (kdH G i) (arF G L D hour w i) (arQ G L D hour w i) = false := e
            rw [e3]
            simpa using e2
          have hm : isH G L D hour w i = false := e
          refine fin _ _ (by rw [hs]; rfl) (fun k j k1 k2 k3 => ?_) ?_ ?_ ?_ ?_ (fun j => ?_) (fun j => ?_)
          · rw [up_k k1, up_k k1, up_k k3, up_k k2]
          · rw [up_j (by decide), up_at, up_k (by decide), up_k (by decide), m1, i2, nI_or_pow (svN_lt _ _ _ _ _ _), svN_t hs]
          · rw [up_j (by decide), up_j (by decide), up_k (by decide), up_k (by decide), m2, i3, hmN_f hm]
          · rw [up_j (by decide), up_j (by decide), up_k (by decide), up_k (by decide)]
          · rw [up_at, up_k (by decide), up_k (by decide), m4, i5, zi_add, tkN_t hs]
            rfl
          · rw [up_k (by decide), up_k (by decide), up_k (by decide)]
          · rw [up_k (by decide), up_k (by decide)]; simp [up]
      refine v_X0_follow_1 _ _ _ _ _ _ _ _ ?_
      rw [e0]
      refine ifle (by omega) (by omega) (fun c => by omega) (fun _ => sp_lossAheadOf (i := i) (by omega) ?_)
      refine wpD_at (as' := [mR 6 0 35, mI (zi (loH G i)), mI (zi (fl G L D hour w i).1), mI (zi (fl G L D hour w i).2)]) (by rw [i1 (38 + 2) i (by omega), hln.2.1]) ?_
      refine sp_heatBehindPipe hR hH1 hlr.2.1 (bd.wb (by omega)) (sp_brookAheadOf (i := i) (by omega) ?_)
      have eb : (up M1 23 3 (M1 23 3 + (zi (fl G L D hour w i).2 - zi (pipeQ (gS G 2) (loH G i) (fl G L D hour w i).1 (fl G L D hour w i).2)))) (38 + 3) i = zi (brH G i) := by rw [up_k (by decide), i1 (38 + 3) i (by omega)]; exact hln.2.2
      have els : M1 23 3 + (zi (fl G L D hour w i).2 - zi (pipeQ (gS G 2) (loH G i) (fl G L D hour w i).1 (fl G L D hour w i).2)) = zi (lsN G L D hour w (i + 1)) := by rw [i4, zi_sub, zi_add]; rfl
      rw [els] at eb ⊢
      have hH2 : Hyd (gS G) (gK G) (up M1 23 3 (zi (lsN G L D hour w (i + 1)))) 36 37 := hH1.up (by decide) (by decide)
      have m0 : ∀ k j, k ≠ 23 → (up M1 23 3 (zi (lsN G L D hour w (i + 1)))) k j = M1 k j := fun k j hk => up_k hk
      refine wpD_at (as' := [mI (nI L), mI (zi (brH G i))]) (by rw [← eb]) ?_
      rcases hlr.2.2 with hb6 | hb0
      · rw [hb6]
        refine sp_hasBit_neg (by decide) ⟨fun _ => ?_, fun c => absurd rfl c⟩
        have e1 : arF G L D hour w i = (fl G L D hour w i).1 := by unfold arF aF brB; rw [hb6]; rfl
        have e2 : arQ G L D hour w i = pipeQ (gS G 2) (loH G i) (fl G L D hour w i).1 (fl G L D hour w i).2 := by unfold arQ aQ brB; rw [hb6]; rfl
        rw [← e2, ← e1]
        exact back _ m0 (up_j (by decide)) (up_j (by decide)) (up_at _ _ _ _) (up_j (by decide)) _
      · have e9 : zi (brH G i) = nI (brH G i).toNat := by rw [nI_zi]; congr 1; omega
        rw [e9]
        refine sp_hasBit (by omega) (by omega) (ifb (fun e => ?_) (fun e => ?_))
        · have ebr : brB L (brH G i) = false := by unfold brB; rw [e]; simp
          have e1 : arF G L D hour w i = (fl G L D hour w i).1 := by unfold arF aF; rw [ebr]; rfl
          have e2 : arQ G L D hour w i = pipeQ (gS G 2) (loH G i) (fl G L D hour w i).1 (fl G L D hour w i).2 := by unfold arQ aQ; rw [ebr]; rfl
          rw [← e2, ← e1]
          exact back _ m0 (up_j (by decide)) (up_j (by decide)) (up_at _ _ _ _) (up_j (by decide)) _
        · have ebr : brB L (brH G i) = true := by unfold brB; rw [e]; simp; omega
          have e1 : arF G L D hour w i = (fl G L D hour w i).1 + gS G 3 := by unfold arF aF; rw [ebr]; rfl
          have e2 : arQ G L D hour w i = pipeQ (gS G 2) (loH G i) (fl G L D hour w i).1 (fl G L D hour w i).2 + gS G 3 * gS G 4 := by unfold arQ aQ; rw [ebr]; rfl
          refine sp_springZ (o := 35) (i := 3) hH2 (by decide) (sp_springZ (o := 35) (i := 3) hH2 (by decide) (sp_springZ (o := 35) (i := 4) hH2 (by decide) ?_))
          have h9 := back _ m0 (up_j (by decide)) (up_j (by decide)) (up_at _ _ _ _) (up_j (by decide)) (zi (pipeQ (gS G 2) (loH G i) (fl G L D hour w i).1 (fl G L D hour w i).2))
          rw [e1, e2, ← zi_add, ← zi_add, ← zi_mul] at h9
          exact h9
  refine v_X0_follow_0 _ _ _ _ (sp_springZ (o := 35) (i := 0) hH (by decide) ?_)
  have e1 : zi (gS G 0) * zi w = zi (fl G L D hour w 0).2 := by rw [zi_mul]; rfl
  show jJ _ _ _ _ [_, _, _, _, _, _, mI (zi (gS G 0)), mI (zi (gS G 0) * zi w), _, _] _ _
  rw [e1]
  refine key n 0 _ none (by omega) ⟨fun k j hk => ?_, ?_, ?_, ?_, ?_, fun h hh => absurd hh (Nat.not_lt_zero _)⟩
  · rw [up_k (by omega), up_k (by omega), up_k (by omega), up_k (by omega)]
  · simp [up, svN]; rfl
  · simp [up, hmN]; rfl
  · simp [up, lsN]; rfl
  · simp [up, tkN]; rfl
end
section
/-! THE MODEL'S COURSE -/
theorem sp_in {d : Nat} {k : mQ} {M : mM} {a b c : Int32} (h : k (mI (bI (decide (b.toInt ≤ a.toInt ∧ a.toInt ≤ c.toInt)))) M) : wpD mB mNL (d + 1) zX8_in [mI a, mI b, mI c] M k := by
  refine v_X8_in_0 _ _ _ ⟨fun c1 => ?_, fun c1 => ⟨fun c2 => ?_, fun c2 => ?_⟩⟩
  · rw [lt_zi] at c1
    rw [show decide (b.toInt ≤ a.toInt ∧ a.toInt ≤ c.toInt) = false by simp; omega] at h
    exact h
  · rw [lt_zi] at c1 c2
    rw [show decide (b.toInt ≤ a.toInt ∧ a.toInt ≤ c.toInt) = false by simp; omega] at h
    exact h
  · rw [lt_zi] at c1 c2
    rw [show decide (b.toInt ≤ a.toInt ∧ a.toInt ≤ c.toInt) = true by simp; omega] at h
    exact h
theorem sp_has {d : Nat} {k : mQ} {M : mM} {a b : Nat} (ha : a < 2147483648) (hb : b < 32) (h : k (mI (bI (a.testBit b))) M) : wpD mB mNL (d + 1) zX8_has [mI (nI a), mI (nI b)] M k := by
  refine v_X8_has_0 _ _ ?_
  rw [nI_bit ha hb]
  cases hB : a.testBit b
  · rw [hB] at h
    exact ⟨fun _ => h, fun c => absurd c (by decide)⟩
  · rw [hB] at h
    exact ⟨fun c => absurd rfl c, fun _ => h⟩
theorem vpn {x : Int32} (n : Nat) {N : Nat} (e : x = nI n) (h : n < N) (hN : N < 2147483648) : vp_in x N := by rw [e]; exact vp_in_nI h hN
theorem cln {x : Int32} (n : Nat) (e : x = nI n) (h : n < 2147483648) : x.toNatClampNeg = n := by rw [e]; exact nI_clamp h
theorem cl0 : (0 : Int32).toNatClampNeg = 0 := by decide
theorem cl1 : (1 : Int32).toNatClampNeg = 1 := by decide
theorem cl2 : (2 : Int32).toNatClampNeg = 2 := by decide
theorem cl3 : (3 : Int32).toNatClampNeg = 3 := by decide
theorem cl4 : (4 : Int32).toNatClampNeg = 4 := by decide
theorem pipe_le {A l F Q : Int} (h : Q ≤ A * F) (hl : 0 ≤ l) (hF : 0 ≤ F) : pipeQ A l F Q = Q := by
  have b2 := Int.mul_nonneg (show 0 ≤ 10 * l by omega) hF
  unfold pipeQ
  split
  · rfl
  · split <;> omega
/-- the model's lane that is tried is that of G, n houses -/
def LnM (G : LG) (M : mM) (n : Nat) : Prop := M 0 9 = nI n ∧ ∀ h, h < n → M 6 (3 * h) = nI (kdH G h) ∧ M 6 (3 * h + 1) = zi (loH G h) ∧ M 6 (3 * h + 2) = zi (brH G h)
/-- cells of the model that its course writes -/
def goC (k j : Nat) : Prop := k = 7 ∨ k = 8 ∨ (k = 0 ∧ 13 ≤ j ∧ j ≤ 16)
def GInv (G : LG) (L D hour : Nat) (w : Int) (M0 M : mM) (i : Nat) : Prop :=
  (∀ k j, ¬ goC k j → M k j = M0 k j) ∧ M 0 13 = nI (svN G L D hour w i) ∧ M 0 14 = nI (hmN G L D hour w i) ∧ M 0 15 = zi (lsN G L D hour w i) ∧ M 0 16 = zi (tkN G L D hour w i) ∧ ∀ h, h < i → M 7 h = zi (arF G L D hour w h) ∧ M 8 h = zi (arQ G L D hour w h)
def GEnd (G : LG) (L D hour : Nat) (w : Int) (n : Nat) (M0 M : mM) : Prop :=
  GInv G L D hour w M0 M n ∧ M 7 n = zi (fl G L D hour w n).1 ∧ M 8 n = zi (fl G L D hour w n).2
theorem up_goC {M : mM} {k j k' j' : Nat} {v : Int32} (h : goC k j) (h' : ¬ goC k' j') : up M k j v k' j' = M k' j' := by
  unfold up
  rw [if_neg]
  rintro ⟨rfl, rfl⟩
  exact h' h
theorem goC7 (j : Nat) : goC 7 j := Or.inl rfl
theorem goC8 (j : Nat) : goC 8 j := Or.inr (Or.inl rfl)
theorem goC0 {j : Nat} (h : 13 ≤ j ∧ j ≤ 16) : goC 0 j := Or.inr (Or.inr ⟨rfl, h⟩)
theorem ngo {k j : Nat} (h7 : k ≠ 7) (h8 : k ≠ 8) (h0 : k ≠ 0) : ¬ goC k j := by
  rintro (h | h | ⟨h, -⟩)
  · exact h7 h
  · exact h8 h
  · exact h0 h
theorem ngo0 {j : Nat} (h : j < 13 ∨ 16 < j) : ¬ goC 0 j := by
  rintro (h | h | ⟨-, h⟩)
  · cases h
  · cases h
  · omega
set_option maxHeartbeats 4000000 in
theorem sp_go {d : Nat} {k : mQ} {M : mM} {G : LG} {L D hour n b : Nat} {w : Int} (hR : Rng (gS G) (gK G)) (hH : Hyd (gS G) (gK G) M 1 2) (hw : 0 ≤ w ∧ w ≤ 1000) (hLn : LnM G M n) (hn : n ≤ 9) (hLR : LR G n b) (hb : b ≤ 4) (hh : hour < 6) (hL : L < 16) (hD : D < 2147483648)
    (h : ∀ M', GEnd G L D hour w n M M' → k none M') : wpD mB mNL (d + 2) zX8_go [mR 8 0 0, mI (nI hour), mI (nI L), mI (nI D), mI (zi w)] M k := by
  have hA := hR.2.2.1
  have key : ∀ r i M1 u9 u10 u11 u12 u13, i + r = n → GInv G L D hour w M M1 i → jJ kB_X8_go (d + 1) k 1 [mR 8 0 0, mI (nI hour), mI (nI L), mI (nI D), mI (zi w), mI (zi (gS G 2)), mI (zi (fl G L D hour w i).1), mI (zi (fl G L D hour w i).2), mI (nI i), u9, u10, u11, u12, u13] [] M1 := by
    intro r
    induction r with
    | zero =>
      intro i M1 u9 u10 u11 u12 u13 hi hI
      obtain ⟨i1, i2, i3, i4, i5, i6⟩ := id hI
      have hin : i = n := by omega
      subst hin
      have e0 : M1 0 9 = nI i := by rw [i1 0 9 (ngo0 (by omega))]; exact hLn.1
      refine v_X8_go_1 _ _ _ _ _ _ _ _ _ _ _ _ _ ?_
      rw [e0, nI_clamp (by omega)]
      refine ⟨fun _ => ⟨vp_in_nI (by omega) (by decide), vp_in_nI (by omega) (by decide), h _ ⟨⟨fun k j hk => ?_, ?_, ?_, ?_, ?_, fun h hh => ⟨?_, ?_⟩⟩, ?_, ?_⟩⟩, fun c => absurd (nI_le (Nat.le_refl i) (by omega)) c⟩
      · rw [up_goC (goC8 _) hk, up_goC (goC7 _) hk]; exact i1 k j hk
      · rw [up_k (by decide), up_k (by decide)]; exact i2
      · rw [up_k (by decide), up_k (by decide)]; exact i3
      · rw [up_k (by decide), up_k (by decide)]; exact i4
      · rw [up_k (by decide), up_k (by decide)]; exact i5
      · rw [up_k (by decide), up_j (by omega)]; exact (i6 h hh).1
      · rw [up_j (by omega), up_k (by decide)]; exact (i6 h hh).2
      · rw [up_k (by decide), up_at]
      · rw [up_at]
    | succ r ih =>
      intro i M1 u9 u10 u11 u12 u13 hi hI
      obtain ⟨i1, i2, i3, i4, i5, i6⟩ := id hI
      have e0 : M1 0 9 = nI n := by rw [i1 0 9 (ngo0 (by omega))]; exact hLn.1
      have hln := hLn.2 i (by omega)
      have hlr := hLR i (by omega)
      have hc := hR.2.2.2.2.2 (kdH G i) hlr.1
      have hH1 : Hyd (gS G) (gK G) M1 1 2 := hH.of (fun j => i1 1 j (ngo (by decide) (by decide) (by decide))) (fun j => i1 2 j (ngo (by decide) (by decide) (by decide)))
      have bd := fl_bd (L := L) (D := D) (hour := hour) hR hw hLR i (by omega)
      have abd := ars_bd (L := L) (D := D) (hour := hour) hR hw hLR (h := i) (by omega)
      obtain ⟨bd1, bd2, bd3, bd4⟩ := bd.wb (by omega)
      obtain ⟨ad1, ad2, ad3, ad4⟩ := abd.wb (by omega)
      have bA := mul_bd hA.1 hA.2 (show 0 ≤ (fl G L D hour w i).1 by omega) bd2
      have bA2 := mul_bd hA.1 hA.2 (show 0 ≤ arF G L D hour w i by omega) ad2
      have bP := mul_bd (show 0 ≤ 10 * loH G i by omega) (show 10 * loH G i ≤ 90 by omega) (show 0 ≤ (fl G L D hour w i).1 by omega) bd2
      have bM := mul_bd hc.2.1.1 hc.2.1.2 (show 0 ≤ arF G L D hour w i by omega) ad2
      have bN := mul_bd hc.1.1 hc.1.2 (show 0 ≤ arF G L D hour w i by omega) ad2
      have k0 : M1 6 (3 * i) = nI (kdH G i) := by rw [i1 6 _ (ngo (by decide) (by decide) (by decide))]; exact hln.1
      have k1 : M1 6 (3 * i + 1) = zi (loH G i) := by rw [i1 6 _ (ngo (by decide) (by decide) (by decide))]; exact hln.2.1
      have k2 : M1 6 (3 * i + 2) = zi (brH G i) := by rw [i1 6 _ (ngo (by decide) (by decide) (by decide))]; exact hln.2.2
      have E0 : (3 : Int32) * nI i = nI (3 * i) := by rw [show (3 : Int32) = nI 3 from rfl, pk_mul]
      have E1 : (3 : Int32) * nI i + 1 = nI (3 * i + 1) := by rw [E0, nI_1]
      have E2 : (3 : Int32) * nI i + 2 = nI (3 * i + 2) := by rw [E0, show (2 : Int32) = nI 2 from rfl, nI_add]
      have C0 : ((3 : Int32) * nI i).toNatClampNeg = 3 * i := cln _ E0 (by omega)
      have C1 : ((3 : Int32) * nI i + 1).toNatClampNeg = 3 * i + 1 := cln _ E1 (by omega)
      have C2 : ((3 : Int32) * nI i + 2).toNatClampNeg = 3 * i + 2 := cln _ E2 (by omega)
      have K6 : (6 : Int32) + nI (kdH G i) = nI (6 + kdH G i) := by rw [show (6 : Int32) = nI 6 from rfl, nI_add]
      have K12 : (12 : Int32) + nI (kdH G i) = nI (12 + kdH G i) := by rw [show (12 : Int32) = nI 12 from rfl, nI_add]
      have K24 : (24 : Int32) + nI (kdH G i) = nI (24 + kdH G i) := by rw [show (24 : Int32) = nI 24 from rfl, nI_add]
      -- the end of the round
      have fin : ∀ (M3 : mM) (q : Int) u9 u10 u11 u12 u13, (∀ k j, ¬ goC k j → M3 k j = M k j) → q = (fl G L D hour w (i + 1)).2 → M3 0 13 = nI (svN G L D hour w (i + 1)) → M3 0 14 = nI (hmN G L D hour w (i + 1)) → M3 0 15 = zi (lsN G L D hour w (i + 1)) → M3 0 16 = zi (tkN G L D hour w (i + 1)) → (∀ h, h < i + 1 → M3 7 h = zi (arF G L D hour w h) ∧ M3 8 h = zi (arQ G L D hour w h)) →
          jJ kB_X8_go (d + 1) k 1 [mR 8 0 0, mI (nI hour), mI (nI L), mI (nI D), mI (zi w), mI (zi (gS G 2)), mI (zi (arF G L D hour w i)), mI (zi q), mI (nI i + 1), u9, u10, u11, u12, u13] [] M3 := by
        intro M3 q u9 u10 u11 u12 u13 n0 hq n1 n2 n3 n4 n5
        rw [nI_1, hq]
        exact ih (i + 1) M3 _ _ _ _ _ (by omega) ⟨n0, n1, n2, n3, n4, n5⟩
      -- behind the brook: M2 still holds the round's start, but lost
      have back : ∀ M2 u11 u12 u13, (∀ k j, (k ≠ 0 ∨ j ≠ 15) → M2 k j = M1 k j) → M2 0 15 = zi (lsN G L D hour w (i + 1)) → jJ kB_X8_go (d + 1) k 5 [mR 8 0 0, mI (nI hour), mI (nI L), mI (nI D), mI (zi w), mI (zi (gS G 2)), mI (zi (arF G L D hour w i)), mI (zi (arQ G L D hour w i)), mI (nI i), mI (nI (kdH G i)), mI (zi (brH G i)), u11, u12, u13] [] M2 := by
        intro M2 u11 u12 u13 m0 m15
        have hH2 : Hyd (gS G) (gK G) M2 1 2 := hH1.of (fun j => m0 1 j (Or.inl (by decide))) (fun j => m0 2 j (Or.inl (by decide)))
        -- behind the harm: label 9
        have nine : ∀ M4 u13 (hb : Bool), hb = isH G L D hour w i → (∀ k j, ¬ goC k j → M4 k j = M k j) → M4 0 13 = nI (svN G L D hour w i) → M4 0 14 = nI (hmN G L D hour w (i + 1)) → M4 0 15 = zi (lsN G L D hour w (i + 1)) → M4 0 16 = zi (tkN G L D hour w i) → (∀ h, h < i + 1 → M4 7 h = zi (arF G L D hour w h) ∧ M4 8 h = zi (arQ G L D hour w h)) →
            wpD mB mNL (d + 1) zX8_has [mI (nI D), mI (nI i)] M4 (fun r_13 M_12 => wI r_13 fun x_15 =>
              ((x_15 = 0 → jJ kB_X8_go (d + 1) k 10 [mR 8 0 0, mI (nI hour), mI (nI L), mI (nI D), mI (zi w), mI (zi (gS G 2)), mI (zi (arF G L D hour w i)), mI (zi (arQ G L D hour w i)), mI (nI i), mI (nI (kdH G i)), mI (zi (brH G i)), mI (bI hb), mI (zi (wtK G i)), u13] [] M_12) ∧
               (¬ x_15 = 0 → (vp_in (24 + nI (kdH G i)) 30 ∧ wpD mB mNL (d + 1) zX8_has [mI (M_12 2 ((24 + nI (kdH G i)).toNatClampNeg)), mI (nI hour)] M_12 (fun r_17 M_16 => wI r_17 fun x_19 =>
                ((x_19 = 0 → jJ kB_X8_go (d + 1) k 10 [mR 8 0 0, mI (nI hour), mI (nI L), mI (nI D), mI (zi w), mI (zi (gS G 2)), mI (zi (arF G L D hour w i)), mI (zi (arQ G L D hour w i)), mI (nI i), mI (nI (kdH G i)), mI (zi (brH G i)), mI (bI hb), mI (zi (wtK G i)), u13] [] M_16) ∧
                 (¬ x_19 = 0 → jJ kB_X8_go (d + 1) k 11 [mR 8 0 0, mI (nI hour), mI (nI L), mI (nI D), mI (zi w), mI (zi (gS G 2)), mI (zi (arF G L D hour w i)), mI (zi (arQ G L D hour w i)), mI (nI i), mI (nI (kdH G i)), mI (zi (brH G i)), mI (bI hb), mI (zi (wtK G i)), u13] [mI 1] M_16))))))) := by
          intro M4 u13 hb ehb n0 n1 n2 n3 n4 n5
          have hH4 : Hyd (gS G) (gK G) M4 1 2 := hH.of (fun j => n0 1 j (ngo (by decide) (by decide) (by decide))) (fun j => n0 2 j (ngo (by decide) (by decide) (by decide)))
          have eend : isS G L D hour w i = (D.testBit i && !hb && canB (gS G) (gK G) hour (kdH G i) (arF G L D hour w i) (arQ G L D hour w i)) := by rw [ehb]; rfl
          have no : isS G L D hour w i = false → ∀ u, jJ kB_X8_go (d + 1) k 1 [mR 8 0 0, mI (nI hour), mI (nI L), mI (nI D), mI (zi w), mI (zi (gS G 2)), mI (zi (arF G L D hour w i)), mI (zi (arQ G L D hour w i)), mI (nI i + 1), mI (nI (kdH G i)), mI (zi (brH G i)), mI (bI hb), mI (zi (wtK G i)), u] [] M4 := by
            intro hs u
            exact fin M4 _ _ _ _ _ _ n0 (by rw [fl_succ, hs]; rfl) (by rw [svN_f hs]; exact n1) n2 n3 (by rw [tkN_f hs]; exact n4) n5
          have ten : isS G L D hour w i = false → ∀ u, jJ kB_X8_go (d + 1) k 10 [mR 8 0 0, mI (nI hour), mI (nI L), mI (nI D), mI (zi w), mI (zi (gS G 2)), mI (zi (arF G L D hour w i)), mI (zi (arQ G L D hour w i)), mI (nI i), mI (nI (kdH G i)), mI (zi (brH G i)), mI (bI hb), mI (zi (wtK G i)), u] [] M4 := by
            intro hs u
            refine v_X8_go_10 _ _ _ _ _ _ _ _ _ _ _ _ _ (v_X8_go_11 _ _ _ _ _ _ _ _ _ _ _ _ _ _ ⟨fun _ => no hs _, fun c => absurd rfl c⟩)
          refine sp_has hD (by omega) (ifb (fun e => ten (by rw [eend, e]; rfl) _) (fun e => ⟨vpn _ K24 (by omega) (by decide), ?_⟩))
          rw [cln _ K24 (by omega), hH4.2 _ (by omega), nI_hours hc.2.2.2.2.1]
          refine sp_has (by omega) (by omega) (ifb (fun e2 => ten (by rw [eend]; unfold canB; rw [e2]; simp) _) (fun e2 => v_X8_go_11 _ _ _ _ _ _ _ _ _ _ _ _ _ _ ⟨fun c => absurd c (by decide), fun _ => ?_⟩))
          refine ifb' (fun e3 => no (by rw [eend, e3]; simp) _) (fun e3 => ⟨vp_in_nI (by omega) (by decide), ?_⟩)
          rw [nI_clamp (by omega), hH4.2 _ (by omega), zi_mul, zi_mul, zi_sub, zi_lt (by omega) (by omega) (by omega) (by omega)]
          refine ⟨fun c => no (by rw [eend]; unfold canB; rw [show decide (gK G (kdH G i) * arF G L D hour w i ≤ arQ G L D hour w i) = false by simp; omega]; simp) _, fun c => ?_⟩
          have hwt : 0 ≤ wtK G i ∧ wtK G i ≤ 9999 := hc.2.2.1
          rw [zi_lt (by omega) (by omega) (by omega) (by omega)]
          have ecan : canB (gS G) (gK G) hour (kdH G i) (arF G L D hour w i) (arQ G L D hour w i) = decide (gS G 2 * arF G L D hour w i ≤ arQ G L D hour w i - wtK G i) := by
            unfold canB
            rw [e2, show decide (gK G (kdH G i) * arF G L D hour w i ≤ arQ G L D hour w i) = true by simp; omega]
            rfl
          refine ⟨fun c2 => no (by rw [eend, ecan, show decide (gS G 2 * arF G L D hour w i ≤ arQ G L D hour w i - wtK G i) = false by simp; omega]; simp) _, fun c2 => ?_⟩
          have hs : isS G L D hour w i = true := by rw [eend, e, e3, ecan]; simp; omega
          refine fin _ _ _ _ _ _ _ (fun k j hk => ?_) (by rw [fl_succ, hs]; rfl) ?_ ?_ ?_ ?_ (fun h hh => ?_)
          · rw [up_goC (goC0 (by omega)) hk, up_goC (goC0 (by omega)) hk]; exact n0 k j hk
          · rw [up_j (by decide), up_at, n1, sh_small (by omega), nI_or_pow (svN_lt _ _ _ _ _ _), svN_t hs]
          · rw [up_j (by decide), up_j (by decide)]; exact n2
          · rw [up_j (by decide), up_j (by decide)]; exact n3
          · rw [up_at, n4, zi_add, tkN_t hs]
          · rw [up_k (by decide), up_k (by decide), up_k (by decide), up_k (by decide)]; exact n5 h hh
        -- labels 5, 7
        have m4 : ∀ k j, ¬ goC k j → (up (up M2 7 i (zi (arF G L D hour w i))) 8 i (zi (arQ G L D hour w i))) k j = M k j := fun k j hk => by
          rw [up_goC (goC8 _) hk, up_goC (goC7 _) hk, m0 k j (by
            by_cases q : k = 0
            · right; rintro rfl; exact hk (q ▸ goC0 (by omega))
            · exact Or.inl q)]
          exact i1 k j hk
        have m5 : ∀ h, h < i + 1 → (up (up M2 7 i (zi (arF G L D hour w i))) 8 i (zi (arQ G L D hour w i))) 7 h = zi (arF G L D hour w h) ∧ (up (up M2 7 i (zi (arF G L D hour w i))) 8 i (zi (arQ G L D hour w i))) 8 h = zi (arQ G L D hour w h) := fun h hh => by
          by_cases q : h = i
          · subst q
            exact ⟨by rw [up_k (by decide), up_at], by rw [up_at]⟩
          · rw [up_k (by decide), up_j q, up_j q, up_k (by decide), m0 7 h (Or.inl (by decide)), m0 8 h (Or.inl (by decide))]
            exact i6 h (by omega)
        have wt12 : (up (up M2 7 i (zi (arF G L D hour w i))) 8 i (zi (arQ G L D hour w i))) 2 (12 + kdH G i) = zi (wtK G i) := by rw [up_k (by decide), up_k (by decide)]; exact hH2.2 _ (by omega)
        refine v_X8_go_5 _ _ _ _ _ _ _ _ _ _ _ _ _ ⟨vp_in_nI (by omega) (by decide), vp_in_nI (by omega) (by decide), vpn _ K6 (by omega) (by decide), ?_⟩
        rw [cln _ K6 (by omega), hH2.2 _ (by omega), zi_mul, zi_le (by omega) (by omega) (by omega) (by omega), nI_clamp (by omega)]
        refine ⟨fun c => ?_, fun c => ?_⟩
        · have hm : isH G L D hour w i = false := by unfold isH haB harmB; simp; omega
          refine v_X8_go_7 _ _ _ _ _ _ _ _ _ _ _ _ _ _ ⟨vpn _ K12 (by omega) (by decide), ?_⟩
          rw [cln _ K12 (by omega), wt12]
          refine ⟨fun _ => v_X8_go_9 _ _ _ _ _ _ _ _ _ _ _ _ _ _ _ ?_, fun c => absurd rfl c⟩
          refine nine _ _ false hm.symm (fun k j hk => ?_) ?_ ?_ ?_ ?_ (fun h hh => ?_)
          · rw [up_goC (goC0 (by omega)) hk]; exact m4 k j hk
          · rw [up_j (by decide), up_k (by decide), up_k (by decide), m0 0 13 (by decide)]; exact i2
          · rw [up_at, up_k (by decide), up_k (by decide), m0 0 14 (by decide), i3, hmN_f hm, show (0 : Int32) = nI 0 from rfl, nI_or, Nat.or_zero]
          · rw [up_j (by decide), up_k (by decide), up_k (by decide)]; exact m15
          · rw [up_j (by decide), up_k (by decide), up_k (by decide), m0 0 16 (by decide)]; exact i5
          · rw [up_k (by decide), up_k (by decide)]; exact m5 h hh
        · have hm : isH G L D hour w i = true := by unfold isH haB harmB; simp; omega
          refine v_X8_go_7 _ _ _ _ _ _ _ _ _ _ _ _ _ _ ⟨vpn _ K12 (by omega) (by decide), ?_⟩
          rw [cln _ K12 (by omega), wt12]
          refine ⟨fun c => absurd c (by decide), fun _ => v_X8_go_9 _ _ _ _ _ _ _ _ _ _ _ _ _ _ _ ?_⟩
          refine nine _ _ true hm.symm (fun k j hk => ?_) ?_ ?_ ?_ ?_ (fun h hh => ?_)
          · rw [up_goC (goC0 (by omega)) hk]; exact m4 k j hk
          · rw [up_j (by decide), up_k (by decide), up_k (by decide), m0 0 13 (by decide)]; exact i2
          · rw [up_at, up_k (by decide), up_k (by decide), m0 0 14 (by decide), i3, hmN_t hm, sh_small (by omega), nI_or_pow (hmN_lt _ _ _ _ _ _)]
          · rw [up_j (by decide), up_k (by decide), up_k (by decide)]; exact m15
          · rw [up_j (by decide), up_k (by decide), up_k (by decide), m0 0 16 (by decide)]; exact i5
          · rw [up_k (by decide), up_k (by decide)]; exact m5 h hh
      -- label 4: behind the pipe
      have four : ∀ M2 u11 u12 u13, (∀ k j, (k ≠ 0 ∨ j ≠ 15) → M2 k j = M1 k j) → M2 0 15 = zi (lsN G L D hour w (i + 1)) → jJ kB_X8_go (d + 1) k 4 [mR 8 0 0, mI (nI hour), mI (nI L), mI (nI D), mI (zi w), mI (zi (gS G 2)), mI (zi (fl G L D hour w i).1), mI (zi (pipeQ (gS G 2) (loH G i) (fl G L D hour w i).1 (fl G L D hour w i).2)), mI (nI i), mI (nI (kdH G i)), mI (zi (brH G i)), u11, u12, u13] [] M2 := by
        intro M2 u11 u12 u13 m0 m15
        have hH2 : Hyd (gS G) (gK G) M2 1 2 := hH1.of (fun j => m0 1 j (Or.inl (by decide))) (fun j => m0 2 j (Or.inl (by decide)))
        refine v_X8_go_4 _ _ _ _ _ _ _ _ _ _ _ _ _ ?_
        rcases hlr.2.2 with hb6 | hb0
        · refine ⟨fun _ => ?_, fun c => absurd (by rw [hb6]; decide) c⟩
          have e1 : arF G L D hour w i = (fl G L D hour w i).1 := by unfold arF aF brB; rw [hb6]; rfl
          have e2 : arQ G L D hour w i = pipeQ (gS G 2) (loH G i) (fl G L D hour w i).1 (fl G L D hour w i).2 := by unfold arQ aQ brB; rw [hb6]; rfl
          rw [← e2, ← e1]
          exact back M2 _ _ _ m0 m15
        · have e9 : zi (brH G i) = nI (brH G i).toNat := by rw [nI_zi]; congr 1; omega
          refine ⟨fun c => absurd c (by rw [e9]; exact nI_pos (by omega)), fun _ => ?_⟩
          have no : brB L (brH G i) = false → jJ kB_X8_go (d + 1) k 5 [mR 8 0 0, mI (nI hour), mI (nI L), mI (nI D), mI (zi w), mI (zi (gS G 2)), mI (zi (fl G L D hour w i).1), mI (zi (pipeQ (gS G 2) (loH G i) (fl G L D hour w i).1 (fl G L D hour w i).2)), mI (nI i), mI (nI (kdH G i)), mI (zi (brH G i)), u11, u12, u13] [] M2 := by
            intro ebr
            have e1 : arF G L D hour w i = (fl G L D hour w i).1 := by unfold arF aF; rw [ebr]; rfl
            have e2 : arQ G L D hour w i = pipeQ (gS G 2) (loH G i) (fl G L D hour w i).1 (fl G L D hour w i).2 := by unfold arQ aQ; rw [ebr]; rfl
            rw [← e2, ← e1]
            exact back M2 _ _ _ m0 m15
          refine wpD_at (as' := [mI (nI L), mI (nI (brH G i).toNat)]) (by rw [e9]) ?_
          refine sp_has (by omega) (by omega) (ifb (fun e => no (by unfold brB; rw [e]; simp)) (fun e => ⟨vpn 3 rfl (by decide) (by decide), vpn 3 rfl (by decide) (by decide), vpn 4 rfl (by decide) (by decide), ?_⟩))
          have ebr : brB L (brH G i) = true := by unfold brB; rw [e]; simp; omega
          have e1 : arF G L D hour w i = (fl G L D hour w i).1 + gS G 3 := by unfold arF aF; rw [ebr]; rfl
          have e2 : arQ G L D hour w i = pipeQ (gS G 2) (loH G i) (fl G L D hour w i).1 (fl G L D hour w i).2 + gS G 3 * gS G 4 := by unfold arQ aQ; rw [ebr]; rfl
          rw [cl3, cl4, hH2.1 3 (by decide), hH2.1 4 (by decide), zi_mul, zi_add, zi_add, ← e2, ← e1]
          exact back M2 _ _ _ m0 m15
      refine v_X8_go_1 _ _ _ _ _ _ _ _ _ _ _ _ _ ?_
      rw [e0, C0, C1, C2, k0, k1, k2]
      refine ifle (by omega) (by omega) (fun c => by omega) (fun _ => ⟨vpn _ E0 (by omega) (by decide), vpn _ E2 (by omega) (by decide), ?_⟩)
      simp only [zi_mul, zi_sub, show (10 : Int32) = zi 10 from rfl]
      rw [zi_le (by omega) (by omega) (by omega) (by omega), zi_le (by omega) (by omega) (by omega) (by omega)]
      refine ⟨fun c => ?_, fun c => ⟨vpn _ E1 (by omega) (by decide), fun c2 => ?_, fun c2 => ?_⟩⟩
      · have ep := pipe_le (l := loH G i) c hlr.2.1.1 (by omega)
        have h9 := four M1 u11 u12 u13 (fun _ _ _ => rfl) (by rw [i4]; show _ = zi (_ + ((fl G L D hour w i).2 - _)); rw [ep, Int.sub_self, Int.add_zero])
        rw [ep] at h9
        exact h9
      · have ep : pipeQ (gS G 2) (loH G i) (fl G L D hour w i).1 (fl G L D hour w i).2 = (fl G L D hour w i).2 - 10 * loH G i * (fl G L D hour w i).1 := by unfold pipeQ; rw [if_neg (by omega), if_neg (by omega)]
        have h9 := four (up M1 0 15 (M1 0 15 + (zi (fl G L D hour w i).2 - zi ((fl G L D hour w i).2 - 10 * loH G i * (fl G L D hour w i).1)))) (mI (zi ((fl G L D hour w i).2 - 10 * loH G i * (fl G L D hour w i).1))) u12 u13 (fun k j hk => by rcases hk with q | q; exact up_k q; exact up_j q) (by rw [up_at, i4, zi_sub, zi_add, ← ep]; rfl)
        rw [ep] at h9
        exact v_X8_go_3 _ _ _ _ _ _ _ _ _ _ _ _ _ _ h9
      · have ep : pipeQ (gS G 2) (loH G i) (fl G L D hour w i).1 (fl G L D hour w i).2 = gS G 2 * (fl G L D hour w i).1 := by unfold pipeQ; rw [if_neg (by omega), if_pos (by omega)]
        have h9 := four (up M1 0 15 (M1 0 15 + (zi (fl G L D hour w i).2 - zi (gS G 2 * (fl G L D hour w i).1)))) (mI (zi (gS G 2 * (fl G L D hour w i).1))) u12 u13 (fun k j hk => by rcases hk with q | q; exact up_k q; exact up_j q) (by rw [up_at, i4, zi_sub, zi_add, ← ep]; rfl)
        rw [ep] at h9
        exact v_X8_go_3 _ _ _ _ _ _ _ _ _ _ _ _ _ _ h9
  refine v_X8_go_0 _ _ _ _ ⟨vpn 2 rfl (by decide) (by decide), vpn 0 rfl (by decide) (by decide), ?_⟩
  rw [cl2, cl0, hH.1 2 (by decide), hH.1 0 (by decide), zi_mul]
  refine key n 0 _ _ _ _ _ _ (by omega) ⟨fun k j hk => ?_, ?_, ?_, ?_, ?_, fun h hh => absurd hh (Nat.not_lt_zero _)⟩
  · rw [up_goC (goC0 (by omega)) hk, up_goC (goC0 (by omega)) hk, up_goC (goC0 (by omega)) hk, up_goC (goC0 (by omega)) hk]
  · simp [up, svN]; rfl
  · simp [up, hmN]; rfl
  · simp [up, lsN]; rfl
  · simp [up, tkN]; rfl
end
section
/-! THE MODEL: its lane, worths, the best plan by trying all -/
def LnP (G : LG) (M : mM) (n : Nat) : Prop := M 0 4 = nI n ∧ ∀ h, h < n → M 4 (3 * h) = nI (kdH G h) ∧ M 4 (3 * h + 1) = zi (loH G h) ∧ M 4 (3 * h + 2) = zi (brH G h)
theorem sp_asLane {d : Nat} {k : mQ} {M : mM} {G : LG} {n : Nat} (hP : LnP G M n) (hn : n ≤ 8) (h : ∀ M', (∀ k j, ¬ (k = 6 ∨ (k = 0 ∧ j = 9)) → M' k j = M k j) → LnM G M' n → k none M') : wpD mB mNL (d + 1) zX8_asLane [mR 8 0 0] M k := by
  have E3 : (3 : Int32) * nI n = nI (3 * n) := by rw [show (3 : Int32) = nI 3 from rfl, pk_mul]
  have key : ∀ r i M1, i + r = 3 * n → (∀ k j, ¬ (k = 6 ∨ (k = 0 ∧ j = 9)) → M1 k j = M k j) → M1 0 9 = nI n → (∀ j, j < i → M1 6 j = M 4 j) → jJ kB_X8_asLane d k 1 [mR 8 0 0, mI (nI i)] [] M1 := by
    intro r
    induction r with
    | zero =>
      intro i M1 hi h0 h9 h6
      refine v_X8_asLane_1 _ ?_
      rw [h0 0 4 (by omega), hP.1, E3]
      refine ifle (by omega) (by omega) (fun _ => h M1 h0 ⟨h9, fun j hj => ?_⟩) (fun c => by omega)
      have := hP.2 j hj
      rw [h6 _ (by omega), h6 _ (by omega), h6 _ (by omega)]
      exact this
    | succ r ih =>
      intro i M1 hi h0 h9 h6
      refine v_X8_asLane_1 _ ?_
      rw [h0 0 4 (by omega), hP.1, E3]
      refine ifle (by omega) (by omega) (fun c => by omega) (fun _ => ⟨vp_in_nI (by omega) (by decide), vp_in_nI (by omega) (by decide), ?_⟩)
      rw [nI_clamp (by omega), nI_1]
      refine ih (i + 1) _ (by omega) (fun k j hk => ?_) ?_ (fun j hj => ?_)
      · rw [up_k (by omega)]; exact h0 k j hk
      · rw [up_k (by decide)]; exact h9
      · by_cases e : j = i
        · subst e
          rw [up_at, h0 4 j (by omega)]
        · rw [up_j e]; exact h6 j (by omega)
  refine v_X8_asLane_0 (key (3 * n) 0 _ (by omega) (fun k j hk => ?_) ?_ (fun j hj => absurd hj (Nat.not_lt_zero _)))
  · unfold up
    rw [if_neg (by omega)]
  · rw [up_at]; exact hP.1
/-- worths of the houses of a set -/
def wtS (G : LG) (S : Nat) : Nat → Int
  | 0 => 0
  | n + 1 => if S.testBit n then wtS G S n + gK G (18 + kdH G n) else wtS G S n
theorem wtS_bd {G : LG} {S n b : Nat} (hR : Rng (gS G) (gK G)) (hLR : LR G n b) : ∀ m, m ≤ n → 0 ≤ wtS G S m ∧ wtS G S m ≤ 99 * (m : Int)
  | 0, _ => by simp [wtS]
  | m + 1, hm => by
    have ih := wtS_bd (S := S) hR hLR m (by omega)
    have hc := (hR.2.2.2.2.2 (kdH G m) (hLR m (by omega)).1).2.2.2.1
    unfold wtS
    split
    · exact ⟨by omega, by omega⟩
    · exact ⟨by omega, by omega⟩
theorem sp_worthOf {d : Nat} {k : mQ} {M : mM} {G : LG} {n b S : Nat} (hH : Hyd (gS G) (gK G) M 1 2) (hLn : LnM G M n) (hn : n ≤ 9) (hLR : LR G n b) (hS : S < 2147483648) (h : k (mI (zi (wtS G S n))) M) : wpD mB mNL (d + 2) zX8_worthOf [mR 8 0 0, mI (nI S)] M k := by
  have key : ∀ r i, i + r = n → jJ kB_X8_worthOf (d + 1) k 1 [mR 8 0 0, mI (nI S), mI (zi (wtS G S i)), mI (nI i)] [] M := by
    intro r
    induction r with
    | zero =>
      intro i hi
      have hin : i = n := by omega
      subst hin
      refine v_X8_worthOf_1 _ _ _ ?_
      rw [hLn.1]
      exact ifle (by omega) (by omega) (fun _ => h) (fun c => by omega)
    | succ r ih =>
      intro i hi
      have hln := hLn.2 i (by omega)
      have hlr := hLR i (by omega)
      refine v_X8_worthOf_1 _ _ _ ?_
      rw [hLn.1]
      have E0 : (3 : Int32) * nI i = nI (3 * i) := by rw [show (3 : Int32) = nI 3 from rfl, pk_mul]
      have K18 : (18 : Int32) + nI (kdH G i) = nI (18 + kdH G i) := by rw [show (18 : Int32) = nI 18 from rfl, nI_add]
      have h9 := ih (i + 1) (by omega)
      refine ifle (by omega) (by omega) (fun c => by omega) (fun _ => sp_has hS (by omega) (ifb (fun e => ?_) (fun e => ⟨vpn _ E0 (by omega) (by decide), ?_⟩)))
      · rw [show (0 : Int32) = zi 0 from rfl, zi_add, Int.add_zero, nI_1]
        unfold wtS at h9
        rw [e] at h9
        exact h9
      · rw [cln _ E0 (by omega), hln.1, K18]
        refine ⟨vp_in_nI (by omega) (by decide), ?_⟩
        rw [nI_clamp (by omega), hH.2 _ (by omega), zi_add, nI_1]
        unfold wtS at h9
        rw [e] at h9
        exact h9
  exact v_X8_worthOf_0 _ (key n 0 (by omega))
theorem sp_areBits {d : Nat} {k : mQ} {M : mM} {n b : Nat} {v1 v2 v3 : Int32} (h4 : M 0 4 = nI n) (h6 : M 0 6 = nI b) (hn : n ≤ 9) (hb : b ≤ 9) (h : k (mI (bI (decide ((0 ≤ v1.toInt ∧ v1.toInt ≤ 5) ∧ (0 ≤ v2.toInt ∧ v2.toInt < 2 ^ b) ∧ (0 ≤ v3.toInt ∧ v3.toInt < 2 ^ n))))) M) : wpD mB mNL (d + 2) zX8_areBits [mR 8 0 0, mI v1, mI v2, mI v3] M k := by
  have e : ∀ m, m ≤ 9 → ((1 : Int32) <<< (nI m &&& 31) - 1).toInt = 2 ^ m - 1 := by decide
  refine v_X8_areBits_0 _ _ _ (sp_in (ifb (fun e1 => ?_) (fun e1 => sp_in ?_)))
  · rw [show decide ((0 ≤ v1.toInt ∧ v1.toInt ≤ 5) ∧ (0 ≤ v2.toInt ∧ v2.toInt < 2 ^ b) ∧ (0 ≤ v3.toInt ∧ v3.toInt < 2 ^ n)) = false by
      have e1 : ¬ (0 ≤ v1.toInt ∧ v1.toInt ≤ 5) := of_decide_eq_false e1
      simp only [decide_eq_false_iff_not]
      exact fun q => e1 q.1] at h
    exact h
  have e1 : (0 ≤ v1.toInt ∧ v1.toInt ≤ 5) := of_decide_eq_true e1
  rw [h6, e b hb]
  refine ifb (fun e2 => ?_) (fun e2 => sp_in ?_)
  · rw [show decide ((0 ≤ v1.toInt ∧ v1.toInt ≤ 5) ∧ (0 ≤ v2.toInt ∧ v2.toInt < 2 ^ b) ∧ (0 ≤ v3.toInt ∧ v3.toInt < 2 ^ n)) = false by
      have e2 : ¬ (0 ≤ v2.toInt ∧ v2.toInt ≤ 2 ^ b - 1) := of_decide_eq_false e2
      simp only [decide_eq_false_iff_not]
      exact fun q => e2 ⟨q.2.1.1, by have := q.2.1.2; omega⟩] at h
    exact h
  have e2 : (0 ≤ v2.toInt ∧ v2.toInt ≤ 2 ^ b - 1) := of_decide_eq_true e2
  rw [h4, e n hn]
  refine ifb (fun e3 => ?_) (fun e3 => ?_)
  · rw [show decide ((0 ≤ v1.toInt ∧ v1.toInt ≤ 5) ∧ (0 ≤ v2.toInt ∧ v2.toInt < 2 ^ b) ∧ (0 ≤ v3.toInt ∧ v3.toInt < 2 ^ n)) = false by
      have e3 : ¬ (0 ≤ v3.toInt ∧ v3.toInt ≤ 2 ^ n - 1) := of_decide_eq_false e3
      simp only [decide_eq_false_iff_not]
      exact fun q => e3 ⟨q.2.2.1, by have := q.2.2.2; omega⟩] at h
    exact h
  · rw [show decide ((0 ≤ v1.toInt ∧ v1.toInt ≤ 5) ∧ (0 ≤ v2.toInt ∧ v2.toInt < 2 ^ b) ∧ (0 ≤ v3.toInt ∧ v3.toInt < 2 ^ n)) = true by
      have e3 : (0 ≤ v3.toInt ∧ v3.toInt ≤ 2 ^ n - 1) := of_decide_eq_true e3
      simp only [decide_eq_true_eq]
      exact ⟨e1, ⟨e2.1, by omega⟩, ⟨e3.1, by omega⟩⟩] at h
    exact h
/-- nobody is harmed, all who draw are served -/
def okP (G : LG) (n hour : Nat) (w : Int) (L D : Nat) : Prop := hmN G L D hour w n = 0 ∧ svN G L D hour w n = D
/-- the best plan among those of P, by brooks and draws the least (W = -6: there is none) -/
def BSo (G : LG) (n hour : Nat) (w : Int) (P : Nat → Nat → Prop) (W : Int) (L0 D0 : Nat) : Prop :=
  (W = -6 ∧ L0 = 0 ∧ D0 = 0 ∧ ∀ L D, P L D → ¬ okP G n hour w L D) ∨ (okP G n hour w L0 D0 ∧ P L0 D0 ∧ W = wtS G D0 n ∧ ∀ L D, P L D → okP G n hour w L D → wtS G D n ≤ W ∧ (wtS G D n = W → L0 < L ∨ (L0 = L ∧ D0 ≤ D)))
def IsB (G : LG) (n b hour : Nat) (w : Int) (W : Int) (L0 D0 : Nat) : Prop := BSo G n hour w (fun L D => L < 2 ^ b ∧ D < 2 ^ n) W L0 D0
theorem IsB.one {G : LG} {n b m hour : Nat} {w : Int} {W W' : Int} {L D L' D' : Nat} (hR : Rng (gS G) (gK G)) (hLR : LR G n m) (h : IsB G n b hour w W L D) (h' : IsB G n b hour w W' L' D') : W = W' ∧ L = L' ∧ D = D' := by
  rcases h with ⟨h1, h2, h3, h4⟩ | ⟨h1, h2, h3, h4⟩ <;> rcases h' with ⟨g1, g2, g3, g4⟩ | ⟨g1, g2, g3, g4⟩
  · exact ⟨by omega, by omega, by omega⟩
  · exact absurd g1 (h4 _ _ g2)
  · exact absurd h1 (g4 _ _ h2)
  · have a := h4 _ _ g2 g1
    have c := g4 _ _ h2 h1
    have e : W = W' := by omega
    have a2 := a.2 (by omega)
    have c2 := c.2 (by omega)
    exact ⟨e, by omega, by omega⟩
theorem BSo.cong {G : LG} {n hour : Nat} {w W : Int} {L0 D0 : Nat} {P P' : Nat → Nat → Prop} (h : BSo G n hour w P W L0 D0) (e : ∀ L D, P L D ↔ P' L D) : BSo G n hour w P' W L0 D0 := by
  rcases h with ⟨h1, h2, h3, h4⟩ | ⟨h1, h2, h3, h4⟩
  · exact Or.inl ⟨h1, h2, h3, fun L D p => h4 L D ((e L D).mpr p)⟩
  · exact Or.inr ⟨h1, (e _ _).mp h2, h3, fun L D p => h4 L D ((e L D).mpr p)⟩
theorem BSo.no {G : LG} {n hour : Nat} {w W : Int} {L0 D0 L1 D1 : Nat} {P : Nat → Nat → Prop} (h : BSo G n hour w P W L0 D0) (e : ¬ okP G n hour w L1 D1) : BSo G n hour w (fun L D => P L D ∨ (L = L1 ∧ D = D1)) W L0 D0 := by
  rcases h with ⟨h1, h2, h3, h4⟩ | ⟨h1, h2, h3, h4⟩
  · refine Or.inl ⟨h1, h2, h3, fun L D p => ?_⟩
    rcases p with p | ⟨rfl, rfl⟩
    · exact h4 L D p
    · exact e
  · refine Or.inr ⟨h1, Or.inl h2, h3, fun L D p q => ?_⟩
    rcases p with p | ⟨rfl, rfl⟩
    · exact h4 L D p q
    · exact absurd q e
theorem BSo.low {G : LG} {n hour : Nat} {w W : Int} {L0 D0 L1 D1 : Nat} {P : Nat → Nat → Prop} (h : BSo G n hour w P W L0 D0) (h0 : 0 ≤ wtS G D1 n) (hle : wtS G D1 n ≤ W) (hl : ∀ L D, P L D → L < L1 ∨ (L = L1 ∧ D ≤ D1)) : BSo G n hour w (fun L D => P L D ∨ (L = L1 ∧ D = D1)) W L0 D0 := by
  rcases h with ⟨h1, h2, h3, h4⟩ | ⟨h1, h2, h3, h4⟩
  · omega
  · refine Or.inr ⟨h1, Or.inl h2, h3, fun L D p q => ?_⟩
    rcases p with p | ⟨rfl, rfl⟩
    · exact h4 L D p q
    · exact ⟨hle, fun _ => hl _ _ h2⟩
theorem BSo.new {G : LG} {n hour : Nat} {w W : Int} {L0 D0 L1 D1 : Nat} {P : Nat → Nat → Prop} (h : BSo G n hour w P W L0 D0) (e : okP G n hour w L1 D1) (hgt : W < wtS G D1 n) : BSo G n hour w (fun L D => P L D ∨ (L = L1 ∧ D = D1)) (wtS G D1 n) L1 D1 := by
  refine Or.inr ⟨e, Or.inr ⟨rfl, rfl⟩, rfl, fun L D p q => ?_⟩
  rcases p with p | ⟨rfl, rfl⟩
  · rcases h with ⟨h1, h2, h3, h4⟩ | ⟨h1, h2, h3, h4⟩
    · exact absurd q (h4 L D p)
    · have := (h4 L D p q).1
      exact ⟨by omega, fun c => by omega⟩
  · exact ⟨Int.le_refl _, fun _ => Or.inr ⟨rfl, Nat.le_refl _⟩⟩
/-- cells of the model that the search for the best plan writes -/
def lbC (k j : Nat) : Prop := goC k j ∨ (k = 0 ∧ j = 17)
theorem LnM.of {G : LG} {M M' : mM} {n : Nat} (h : LnM G M n) (h9 : M' 0 9 = M 0 9) (h6 : ∀ j, M' 6 j = M 6 j) : LnM G M' n :=
  ⟨by rw [h9]; exact h.1, fun i hi => by rw [h6, h6, h6]; exact h.2 i hi⟩
set_option maxHeartbeats 4000000 in
theorem sp_layBest {d : Nat} {k : mQ} {M : mM} {G : LG} {hour n b : Nat} (hR : Rng (gS G) (gK G)) (hH : Hyd (gS G) (gK G) M 1 2) (hLn : LnM G M n) (hn : n ≤ 9) (h6 : M 0 6 = nI b) (hLR : LR G n b) (hb : b ≤ 4) (hh : hour < 6)
    (h : ∀ W L0 D0 M', IsB G n b hour (gS G 1) W L0 D0 → (∀ k j, ¬ lbC k j → M' k j = M k j) → M' 0 17 = nI (512 * L0 + D0) → k (mI (zi W)) M') : wpD mB mNL (d + 3) zX8_layBest [mR 8 0 0, mI (nI hour)] M k := by
  have hw := hR.2.1
  have hpb : 2 ^ b ≤ 16 := Nat.pow_le_pow_right (by decide) hb
  have hpn : 2 ^ n ≤ 512 := Nat.pow_le_pow_right (by decide) hn
  -- the state between two tries
  let St : mM → Int → Nat → Nat → (Nat → Nat → Prop) → Prop := fun M1 W L0 D0 P => (∀ k j, ¬ lbC k j → M1 k j = M k j) ∧ M1 0 17 = nI (512 * L0 + D0) ∧ BSo G n hour (gS G 1) P W L0 D0 ∧ L0 < 2 ^ b ∧ D0 < 2 ^ n ∧ -6 ≤ W ∧ W ≤ 1000
  have nlb : ∀ k j, (k ≠ 0 ∨ (j ≠ 13 ∧ j ≠ 14 ∧ j ≠ 15 ∧ j ≠ 16 ∧ j ≠ 17)) → k ≠ 7 → k ≠ 8 → ¬ lbC k j := by
    rintro k j h1 h2 h3 ((q | q | ⟨q, q2⟩) | ⟨q, q2⟩) <;> omega
  have inner : ∀ r L D M1 W L0 D0, L < 2 ^ b → D + r = 2 ^ n → St M1 W L0 D0 (fun L' D' => D' < 2 ^ n ∧ (L' < L ∨ (L' = L ∧ D' < D))) →
      (∀ M1 W L0 D0 u, St M1 W L0 D0 (fun L' D' => D' < 2 ^ n ∧ L' < L + 1) → jJ kB_X8_layBest (d + 2) k 1 [mR 8 0 0, mI (nI hour), mI (zi W), mI (nI (L + 1)), u] [] M1) →
      jJ kB_X8_layBest (d + 2) k 2 [mR 8 0 0, mI (nI hour), mI (zi W), mI (nI L), mI (nI D)] [] M1 := by
    intro r
    induction r with
    | zero =>
      intro L D M1 W L0 D0 hL hD hS hout
      obtain ⟨s1, s2, s3, s4⟩ := id hS
      refine v_X8_layBest_2 _ _ _ _ ?_
      rw [s1 0 9 (nlb 0 9 (by omega) (by decide) (by decide)), hLn.1, sh_small (by omega)]
      refine ifle (by omega) (by omega) (fun _ => ?_) (fun c => by omega)
      rw [nI_1]
      exact hout M1 W L0 D0 _ ⟨s1, s2, s3.cong (fun L' D' => ⟨fun q => ⟨q.1, by omega⟩, fun q => ⟨q.1, by omega⟩⟩), s4⟩
    | succ r ih =>
      intro L D M1 W L0 D0 hL hD hS hout
      obtain ⟨s1, s2, s3, s4, s5, s6, s7⟩ := id hS
      refine v_X8_layBest_2 _ _ _ _ ?_
      rw [s1 0 9 (nlb 0 9 (by omega) (by decide) (by decide)), hLn.1, sh_small (by omega)]
      refine ifle (by omega) (by omega) (fun c => by omega) (fun _ => ⟨vpn 1 rfl (by decide) (by decide), ?_⟩)
      have hH1 : Hyd (gS G) (gK G) M1 1 2 := hH.of (fun j => s1 1 j (nlb 1 j (by omega) (by decide) (by decide))) (fun j => s1 2 j (nlb 2 j (by omega) (by decide) (by decide)))
      have hL1 : LnM G M1 n := hLn.of (s1 0 9 (nlb 0 9 (by omega) (by decide) (by decide))) (fun j => s1 6 j (nlb 6 j (by omega) (by decide) (by decide)))
      rw [cl1, hH1.1 1 (by decide)]
      refine sp_go hR hH1 hw hL1 hn hLR hb hh (by omega) (by omega) (fun M2 hE => ?_)
      obtain ⟨⟨g1, g2, g3, g4, g5, g6⟩, -, -⟩ := hE
      have hfr : ∀ k j, ¬ lbC k j → M2 k j = M k j := fun k j hk => by rw [g1 k j (fun q => hk (Or.inl q))]; exact s1 k j hk
      have h17 : M2 0 17 = nI (512 * L0 + D0) := by rw [g1 0 17 (ngo0 (by omega))]; exact s2
      have hH2 : Hyd (gS G) (gK G) M2 1 2 := hH.of (fun j => hfr 1 j (nlb 1 j (by omega) (by decide) (by decide))) (fun j => hfr 2 j (nlb 2 j (by omega) (by decide) (by decide)))
      have hL2 : LnM G M2 n := hLn.of (hfr 0 9 (nlb 0 9 (by omega) (by decide) (by decide))) (fun j => hfr 6 j (nlb 6 j (by omega) (by decide) (by decide)))
      have bsv := svN_lt G L D hour (gS G 1) n
      have bhm := hmN_lt G L D hour (gS G 1) n
      have hPP : ∀ L' D', ((D' < 2 ^ n ∧ (L' < L ∨ (L' = L ∧ D' < D))) ∨ (L' = L ∧ D' = D)) ↔ (D' < 2 ^ n ∧ (L' < L ∨ (L' = L ∧ D' < D + 1))) := by
        intro L' D'
        constructor
        · rintro (⟨q1, q2⟩ | ⟨rfl, rfl⟩)
          · exact ⟨q1, by omega⟩
          · exact ⟨by omega, by omega⟩
        · rintro ⟨q1, q2⟩
          by_cases e : L' = L ∧ D' = D
          · exact Or.inr e
          · exact Or.inl ⟨q1, by omega⟩
      have no : ¬ okP G n hour (gS G 1) L D → jJ kB_X8_layBest (d + 2) k 2 [mR 8 0 0, mI (nI hour), mI (zi W), mI (nI L), mI (nI D + 1)] [] M2 := by
        intro hno
        rw [nI_1]
        exact ih L (D + 1) M2 W L0 D0 hL (by omega) ⟨hfr, h17, (s3.no hno).cong hPP, s4, s5, s6, s7⟩ hout
      show (_ ∧ _)
      rw [g3, g2]
      refine ⟨fun c => no (fun q => c (by rw [q.1]; rfl)), fun c => ?_⟩
      have c1 : hmN G L D hour (gS G 1) n = 0 := nI_inj (by omega) (by decide) c
      refine ⟨fun c2 => no (fun q => c2 (by rw [q.2])), fun c2 => ?_⟩
      have c3 : svN G L D hour (gS G 1) n = D := nI_inj (by omega) (by omega) c2
      have hok : okP G n hour (gS G 1) L D := ⟨c1, c3⟩
      rw [c3]
      have bw := wtS_bd (S := D) hR hLR n (Nat.le_refl n)
      refine sp_worthOf hH2 hL2 hn hLR (by omega) ?_
      show (_ ∧ _)
      rw [zi_le (by omega) (by omega) (by omega) (by omega)]
      refine ⟨fun c4 => ?_, fun c4 => ?_⟩
      · rw [nI_1]
        refine ih L (D + 1) M2 W L0 D0 hL (by omega) ⟨hfr, h17, (s3.low bw.1 c4 ?_).cong hPP, s4, s5, s6, s7⟩ hout
        rintro L' D' ⟨-, q⟩
        omega
      · rw [g2, c3]
        refine sp_worthOf hH2 hL2 hn hLR (by omega) ?_
        have e9 : nI L <<< ((9 : Int32) &&& 31) = nI (L * 2 ^ 9) := pk_shlN _ 9 (by decide) (by omega)
        show jJ _ _ _ _ [_, _, mI (zi (wtS G D n)), _, mI (nI D + 1)] _ (up M2 0 17 (nI L <<< (9 &&& 31) + nI D))
        rw [nI_1, e9, nI_add]
        refine ih L (D + 1) _ (wtS G D n) L D hL (by omega) ⟨fun k j hk => ?_, ?_, (s3.new hok (by omega)).cong hPP, hL, by omega, by omega, by omega⟩ hout
        · have : ¬ (k = 0 ∧ j = 17) := fun q => hk (Or.inr q)
          unfold up
          rw [if_neg this]
          exact hfr k j hk
        · rw [up_at]
          congr 1
          omega
  have outer : ∀ r L M1 W L0 D0 u, L + r = 2 ^ b → St M1 W L0 D0 (fun L' D' => D' < 2 ^ n ∧ L' < L) → jJ kB_X8_layBest (d + 2) k 1 [mR 8 0 0, mI (nI hour), mI (zi W), mI (nI L), u] [] M1 := by
    intro r
    induction r with
    | zero =>
      intro L M1 W L0 D0 u hL hS
      obtain ⟨s1, s2, s3, s4⟩ := id hS
      refine v_X8_layBest_1 _ _ _ _ ?_
      rw [s1 0 6 (nlb 0 6 (by omega) (by decide) (by decide)), h6, sh_small (by omega)]
      refine ifle (by omega) (by omega) (fun _ => h W L0 D0 M1 (s3.cong (fun L' D' => ⟨fun q => ⟨by omega, q.1⟩, fun q => ⟨q.2, by omega⟩⟩)) s1 s2) (fun c => by omega)
    | succ r ih =>
      intro L M1 W L0 D0 u hL hS
      obtain ⟨s1, s2, s3, s4⟩ := id hS
      refine v_X8_layBest_1 _ _ _ _ ?_
      rw [s1 0 6 (nlb 0 6 (by omega) (by decide) (by decide)), h6, sh_small (by omega)]
      refine ifle (by omega) (by omega) (fun c => by omega) (fun _ => ?_)
      refine inner (2 ^ n) L 0 M1 W L0 D0 (by omega) (by omega) ⟨s1, s2, s3.cong (fun L' D' => ⟨fun q => ⟨q.1, by omega⟩, fun q => ⟨q.1, by omega⟩⟩), s4⟩ (fun M2 W' L0' D0' u' hS' => ih (L + 1) M2 W' L0' D0' u' (by omega) hS')
  have p1 : 0 < 2 ^ b := Nat.pow_pos (by decide)
  have p2 : 0 < 2 ^ n := Nat.pow_pos (by decide)
  refine v_X8_layBest_0 _ (outer (2 ^ b) 0 _ (-6) 0 0 _ (by omega) ⟨fun k j hk => ?_, up_at _ _ _ _, Or.inl ⟨rfl, rfl, rfl, fun L D q => absurd q.2 (Nat.not_lt_zero _)⟩, p1, p2, by decide, by decide⟩)
  have : ¬ (k = 0 ∧ j = 17) := fun q => hk (Or.inr q)
  unfold up
  rw [if_neg this]
end
section
/-! THE CLASS' SEARCH FOR THE BEST PLAN -/
def wthK (G : LG) (h : Nat) : Int := gK G (18 + kdH G h)
def wanB (G : LG) (hour h : Nat) : Bool := (gK G (24 + kdH G h)).toNat.testBit hour
/-- what m houses from h on could be worth -/
def wbF (G : LG) (hour : Nat) : Nat → Nat → Int
  | 0, _ => 0
  | m + 1, h => if wanB G hour h then wbF G hour m (h + 1) + wthK G h else wbF G hour m (h + 1)
/-- the plans of one set of brooks from house h on, in the order of the search: draws, worth -/
def lvs (G : LG) (L hour : Nat) : Nat → Nat → Int → Int → Nat → Int → List (Nat × Int)
  | 0, _, _, _, D, g => [(D, g)]
  | m + 1, h, F, Q, D, g => if haB G h (aF G L h F) (aQ G L h F Q) then [] else
      (if caB G hour h (aF G L h F) (aQ G L h F Q) then lvs G L hour m (h + 1) (aF G L h F) (aQ G L h F Q - wtK G h) (D + 2 ^ h) (g + wthK G h) else []) ++ lvs G L hour m (h + 1) (aF G L h F) (aQ G L h F Q) D g
/-- a plan is offered: worth, brooks, draws of the best so far -/
def ofr (L : Nat) (s : Int × Int × Nat) (q : Nat × Int) : Int × Int × Nat := if s.1 < q.2 ∨ (q.2 = s.1 ∧ (L : Int) = s.2.1 ∧ q.1 < s.2.2) then (q.2, (L : Int), q.1) else s
theorem lvs_hope {G : LG} {L hour : Nat} : ∀ m h F Q D g q, (∀ i, i < h + m → 0 ≤ wthK G i) → q ∈ lvs G L hour m h F Q D g → q.2 ≤ g + wbF G hour m h
  | 0, h, F, Q, D, g, q, _, hq => by
    simp only [lvs, List.mem_singleton] at hq
    subst hq
    simp [wbF]
  | m + 1, h, F, Q, D, g, q, hw, hq => by
    have hw' : ∀ i, i < h + 1 + m → 0 ≤ wthK G i := fun i hi => hw i (by omega)
    unfold lvs at hq
    split at hq
    · cases hq
    · rcases List.mem_append.mp hq with hq | hq
      · split at hq
        · next hc =>
          have ih := lvs_hope m (h + 1) _ _ _ _ q hw' hq
          have hwn : wanB G hour h = true := by
            unfold caB canB at hc
            simp only [Bool.and_eq_true] at hc
            exact hc.1.1
          unfold wbF
          rw [if_pos hwn]
          omega
        · cases hq
      · have ih := lvs_hope m (h + 1) _ _ _ _ q hw' hq
        have := hw h (by omega)
        unfold wbF
        split <;> omega
theorem ofr_none {L : Nat} {s : Int × Int × Nat} {hope : Int} (hm : ¬ (s.1 < hope ∨ (hope = s.1 ∧ (L : Int) = s.2.1))) : ∀ (ls : List (Nat × Int)), (∀ q ∈ ls, q.2 ≤ hope) → ls.foldl (ofr L) s = s
  | [], _ => rfl
  | q :: ls, h => by
    have h1 := h q List.mem_cons_self
    have e : ofr L s q = s := by
      unfold ofr
      rw [if_neg]
      rintro (c | ⟨c1, c2, c3⟩)
      · exact hm (Or.inl (by omega))
      · by_cases e : hope = s.1
        · exact hm (Or.inr ⟨e, c2⟩)
        · exact hm (Or.inl (by omega))
    rw [List.foldl_cons, e]
    exact ofr_none hm ls (fun q hq => h q (List.mem_cons_of_mem _ hq))
/-- what offering a list of plans comes to -/
theorem ofr_fold {L : Nat} : ∀ (ls : List (Nat × Int)) (s : Int × Int × Nat), (ls.foldl (ofr L) s = s ∧ ∀ q ∈ ls, q.2 ≤ s.1 ∧ (q.2 = s.1 → (L : Int) = s.2.1 → s.2.2 ≤ q.1)) ∨
    (∃ q ∈ ls, ls.foldl (ofr L) s = (q.2, (L : Int), q.1) ∧ (s.1 < q.2 ∨ (q.2 = s.1 ∧ (L : Int) = s.2.1 ∧ q.1 < s.2.2)) ∧ ∀ p ∈ ls, p.2 ≤ q.2 ∧ (p.2 = q.2 → q.1 ≤ p.1))
  | [], s => Or.inl ⟨rfl, fun _ h => absurd h List.not_mem_nil⟩
  | q :: ls, s => by
    rw [List.foldl_cons]
    by_cases hc : s.1 < q.2 ∨ (q.2 = s.1 ∧ (L : Int) = s.2.1 ∧ q.1 < s.2.2)
    · have e : ofr L s q = (q.2, (L : Int), q.1) := by unfold ofr; rw [if_pos hc]
      rw [e]
      right
      rcases ofr_fold ls (q.2, (L : Int), q.1) with ⟨h1, h2⟩ | ⟨p, hp, h1, h2, h3⟩
      · refine ⟨q, List.mem_cons_self, h1, hc, fun p hp => ?_⟩
        rcases List.mem_cons.mp hp with rfl | hp
        · exact ⟨Int.le_refl _, fun _ => Nat.le_refl _⟩
        · exact ⟨(h2 p hp).1, fun c => (h2 p hp).2 c rfl⟩
      · dsimp only at h2
        refine ⟨p, List.mem_cons_of_mem _ hp, h1, ?_, fun r hr => ?_⟩
        · rcases hc with c | ⟨c1, c2, c3⟩
          · exact Or.inl (by omega)
          · rcases h2 with g | ⟨g1, g2, g3⟩
            · exact Or.inl (by omega)
            · exact Or.inr ⟨by omega, c2, by omega⟩
        · rcases List.mem_cons.mp hr with rfl | hr
          · exact ⟨by omega, fun c => by omega⟩
          · exact h3 r hr
    · have e : ofr L s q = s := by unfold ofr; rw [if_neg hc]
      rw [e]
      rcases ofr_fold ls s with ⟨h1, h2⟩ | ⟨p, hp, h1, h2, h3⟩
      · refine Or.inl ⟨h1, fun r hr => ?_⟩
        rcases List.mem_cons.mp hr with rfl | hr
        · refine ⟨Int.not_lt.mp fun c => hc (Or.inl c), fun c1 c2 => Nat.not_lt.mp fun c3 => hc (Or.inr ⟨c1, c2, c3⟩)⟩
        · exact h2 r hr
      · refine Or.inr ⟨p, List.mem_cons_of_mem _ hp, h1, h2, fun r hr => ?_⟩
        rcases List.mem_cons.mp hr with rfl | hr
        · have a : r.2 ≤ s.1 := Int.not_lt.mp fun c => hc (Or.inl c)
          refine ⟨by omega, fun c => ?_⟩
          rcases h2 with g | ⟨g1, g2, g3⟩
          · omega
          · have : ¬ r.1 < s.2.2 := fun c3 => hc (Or.inr ⟨by omega, g2, c3⟩)
            omega
        · exact h3 r hr
/-- from house h on, D harms nobody, and serves just who draws -/
def okH (G : LG) (L D hour : Nat) (w : Int) (n h : Nat) : Prop := ∀ i, h ≤ i → i < n → isH G L D hour w i = false ∧ isS G L D hour w i = D.testBit i
theorem okH_P {G : LG} {L D hour n : Nat} {w : Int} (hD : D < 2 ^ n) : okH G L D hour w n 0 ↔ okP G n hour w L D := by
  constructor
  · intro h
    refine ⟨Nat.eq_of_testBit_eq fun i => ?_, Nat.eq_of_testBit_eq fun i => ?_⟩
    · rw [hmN_bit]
      by_cases hi : i < n
      · rw [(h i (Nat.zero_le _) hi).1]; simp
      · simp [hi]
    · rw [svN_bit]
      by_cases hi : i < n
      · rw [(h i (Nat.zero_le _) hi).2]; simp [hi]
      · have : D.testBit i = false := Nat.testBit_lt_two_pow (Nat.lt_of_lt_of_le hD (Nat.pow_le_pow_right (by decide) (Nat.not_lt.mp hi)))
        simp [hi, this]
  · rintro ⟨h1, h2⟩ i - hi
    have a := hmN_bit G L D hour w n i
    have c := svN_bit G L D hour w n i
    rw [h1] at a
    rw [h2] at c
    simp [hi] at a c
    exact ⟨a, c.symm⟩
/-- worth of the bits of D from h on, m houses -/
def gnF (G : LG) (D : Nat) : Nat → Nat → Int
  | 0, _ => 0
  | m + 1, h => if D.testBit h then wthK G h + gnF G D m (h + 1) else gnF G D m (h + 1)
theorem gnF_succ (G : LG) (D : Nat) : ∀ m h, gnF G D (m + 1) h = gnF G D m h + (if D.testBit (h + m) then wthK G (h + m) else 0)
  | 0, h => by simp [gnF]
  | m + 1, h => by
    have ih := gnF_succ G D m (h + 1)
    have e : h + 1 + m = h + (m + 1) := by omega
    rw [e] at ih
    rw [gnF, ih, gnF]
    split <;> omega
theorem gnF_wt (G : LG) (D : Nat) : ∀ n, gnF G D n 0 = wtS G D n
  | 0 => rfl
  | n + 1 => by
    rw [gnF_succ, gnF_wt G D n, Nat.zero_add, wtS]
    cases D.testBit n <;> simp [wthK]
/-- X goes from house h on, m houses: nobody is harmed, and who draws can be served -/
def okR (G : LG) (L hour X : Nat) : Nat → Nat → Int → Int → Prop
  | 0, _, _, _ => True
  | m + 1, h, F, Q => haB G h (aF G L h F) (aQ G L h F Q) = false ∧ (if X.testBit h then caB G hour h (aF G L h F) (aQ G L h F Q) = true ∧ okR G L hour X m (h + 1) (aF G L h F) (aQ G L h F Q - wtK G h) else okR G L hour X m (h + 1) (aF G L h F) (aQ G L h F Q))
theorem okR_H {G : LG} {L hour X n : Nat} {w : Int} : ∀ m h, n = h + m → (okR G L hour X m h (fl G L X hour w h).1 (fl G L X hour w h).2 ↔ okH G L X hour w n h)
  | 0, h, hn => ⟨fun _ i h1 h2 => by omega, fun _ => trivial⟩
  | m + 1, h, hn => by
    have ih := okR_H (G := G) (L := L) (hour := hour) (X := X) (w := w) m (h + 1) (show n = h + 1 + m by omega)
    rw [fl_succ] at ih
    have split : okH G L X hour w n h ↔ (isH G L X hour w h = false ∧ isS G L X hour w h = X.testBit h) ∧ okH G L X hour w n (h + 1) := by
      constructor
      · exact fun q => ⟨q h (Nat.le_refl _) (by omega), fun i h1 h2 => q i (by omega) h2⟩
      · rintro ⟨q1, q2⟩ i h1 h2
        by_cases e : i = h
        · subst e; exact q1
        · exact q2 i (by omega) h2
    rw [split, ← ih]
    show (haB G h (arF G L X hour w h) (arQ G L X hour w h) = false ∧ _) ↔ _
    have e1 : isH G L X hour w h = haB G h (arF G L X hour w h) (arQ G L X hour w h) := rfl
    have e2 : isS G L X hour w h = (X.testBit h && !haB G h (arF G L X hour w h) (arQ G L X hour w h) && caB G hour h (arF G L X hour w h) (arQ G L X hour w h)) := rfl
    rw [e1]
    cases hx : X.testBit h
    · have e3 : isS G L X hour w h = false := by rw [e2, hx]; rfl
      rw [e3]
      simp only [Bool.false_eq_true, if_false, and_true]
      exact Iff.rfl
    · cases ha : haB G h (arF G L X hour w h) (arQ G L X hour w h)
      · have e3 : isS G L X hour w h = caB G hour h (arF G L X hour w h) (arQ G L X hour w h) := by rw [e2, hx, ha]; rfl
        rw [e3]
        cases hc : caB G hour h (arF G L X hour w h) (arQ G L X hour w h)
        · have hc' : caB G hour h (aF G L h (fl G L X hour w h).1) (aQ G L h (fl G L X hour w h).1 (fl G L X hour w h).2) = false := hc
          simp [hc']
        · have hc' : caB G hour h (aF G L h (fl G L X hour w h).1) (aQ G L h (fl G L X hour w h).1 (fl G L X hour w h).2) = true := hc
          simp only [hc', if_true, true_and, and_true]
          exact Iff.rfl
      · simp
theorem mod_bit (X h : Nat) : X % 2 ^ (h + 1) = X % 2 ^ h + (if X.testBit h then 2 ^ h else 0) := by
  rw [Nat.mod_pow_succ, Nat.testBit_eq_decide_div_mod_eq]
  have : X / 2 ^ h % 2 < 2 := Nat.mod_lt _ (by decide)
  rcases (by omega : X / 2 ^ h % 2 = 0 ∨ X / 2 ^ h % 2 = 1) with e | e <;> simp [e]
theorem lvs_mem {G : LG} {L hour : Nat} : ∀ m h F Q D g X g', D < 2 ^ h → ((X, g') ∈ lvs G L hour m h F Q D g ↔ X < 2 ^ (h + m) ∧ X % 2 ^ h = D ∧ okR G L hour X m h F Q ∧ g' = g + gnF G X m h)
  | 0, h, F, Q, D, g, X, g', hD => by
    simp only [lvs, List.mem_singleton, Prod.mk.injEq, okR, gnF, Nat.add_zero, Int.add_zero, true_and]
    constructor
    · rintro ⟨rfl, rfl⟩
      exact ⟨hD, Nat.mod_eq_of_lt hD, rfl⟩
    · rintro ⟨h1, h2, h3⟩
      rw [Nat.mod_eq_of_lt h1] at h2
      exact ⟨h2, h3⟩
  | m + 1, h, F, Q, D, g, X, g', hD => by
    have i1 := lvs_mem (G := G) (L := L) (hour := hour) m (h + 1) (aF G L h F) (aQ G L h F Q - wtK G h) (D + 2 ^ h) (g + wthK G h) X g' (by omega)
    have i2 := lvs_mem (G := G) (L := L) (hour := hour) m (h + 1) (aF G L h F) (aQ G L h F Q) D g X g' (by omega)
    have e : h + 1 + m = h + (m + 1) := by omega
    have hm := mod_bit X h
    rw [e] at i1 i2
    unfold lvs okR gnF
    cases ha : haB G h (aF G L h F) (aQ G L h F Q)
    · simp only [Bool.false_eq_true, if_false, List.mem_append, true_and]
      cases hx : X.testBit h
      · rw [hx] at hm
        simp only [Bool.false_eq_true, if_false, Nat.add_zero] at hm
        simp only [Bool.false_eq_true, if_false]
        rw [i2, hm]
        constructor
        · rintro (q | q)
          · split at q
            · rw [i1, hm] at q
              have := Nat.mod_lt X (show 2 ^ h > 0 from Nat.pow_pos (by decide))
              omega
            · cases q
          · exact q
        · exact fun q => Or.inr q
      · rw [hx] at hm
        simp only [if_true] at hm
        simp only [if_true]
        constructor
        · rintro (q | q)
          · split at q
            · next hc =>
              rw [i1, hm] at q
              exact ⟨q.1, by omega, ⟨hc, q.2.2.1⟩, by omega⟩
            · cases q
          · rw [i2, hm] at q
            omega
        · rintro ⟨q1, q2, ⟨q3, q4⟩, q5⟩
          left
          rw [if_pos q3, i1, hm]
          exact ⟨q1, by omega, q4, by omega⟩
    · simp
/-- all plans of a set of brooks -/
theorem lvs_P {G : LG} {L hour n : Nat} {w : Int} {X : Nat} {g : Int} : (X, g) ∈ lvs G L hour n 0 (gS G 0) (gS G 0 * w) 0 0 ↔ X < 2 ^ n ∧ okP G n hour w L X ∧ g = wtS G X n := by
  rw [lvs_mem n 0 _ _ 0 0 X g (by decide), Nat.zero_add, gnF_wt, Int.zero_add]
  have e : okR G L hour X n 0 (gS G 0) (gS G 0 * w) ↔ okH G L X hour w n 0 := okR_H n 0 (by omega)
  rw [e]
  constructor
  · rintro ⟨h1, -, h3, h4⟩
    exact ⟨h1, (okH_P h1).mp h3, h4⟩
  · rintro ⟨h1, h3, h4⟩
    exact ⟨h1, Nat.mod_one _, (okH_P h1).mpr h3, h4⟩
end
section
/-! THE CLASS' SEARCH, AS IT RUNS -/
def PSt (M : mM) (s : Int × Int × Nat) : Prop := M 26 1 = zi s.1 ∧ M 26 2 = zi s.2.1 ∧ M 26 3 = nI s.2.2
def PBd (s : Int × Int × Nat) : Prop := -6 ≤ s.1 ∧ s.1 ≤ 2000 ∧ -6 ≤ s.2.1 ∧ s.2.1 ≤ 16 ∧ s.2.2 < 1024
def PFr (M M' : mM) : Prop := ∀ k j, ¬ (k = 26 ∧ 1 ≤ j ∧ j ≤ 3) → M' k j = M k j
theorem PFr.rfl' (M : mM) : PFr M M := fun _ _ _ => rfl
theorem PFr.trans {M M' M'' : mM} (h : PFr M M') (h' : PFr M' M'') : PFr M M'' := fun k j q => (h' k j q).trans (h k j q)
def DCtx (G : LG) (L hour n : Nat) (M : mM) : Prop := M 26 5 = nI hour ∧ M 26 6 = nI L ∧ LnC G M 27 n ∧ Hyd (gS G) (gK G) M 36 37 ∧ ∀ h, h ≤ n → M 31 h = zi (wbF G hour (n - h) h)
theorem DCtx.of {G : LG} {L hour n : Nat} {M M' : mM} (h : DCtx G L hour n M) (f : PFr M M') : DCtx G L hour n M' := by
  obtain ⟨h1, h2, h3, h4, h5⟩ := h
  refine ⟨by rw [f 26 5 (by omega)]; exact h1, by rw [f 26 6 (by omega)]; exact h2, h3.of (fun k j _ _ => f k j (by omega)), h4.of (fun j => f 36 j (by omega)) (fun j => f 37 j (by omega)), fun i hi => by rw [f 31 i (by omega)]; exact h5 i hi⟩
theorem nI_zi_eq {a : Nat} {b : Int} (ha : a < 2147483648) (h1 : -2147483648 ≤ b) (h2 : b < 2147483648) : nI a = zi b ↔ (a : Int) = b := by
  rw [nI_zi, zi_eq (by omega) (by omega) h1 h2]
theorem sp_offer {d : Nat} {k : mQ} {M : mM} {s : Int × Int × Nat} {L X : Nat} {g : Int} (hs : PSt M s) (hb : PBd s) (h6 : M 26 6 = nI L) (hL : L < 16) (hX : X < 2147483648) (hg : -6 ≤ g ∧ g ≤ 2000) (h : ∀ M', PFr M M' → PSt M' (ofr L s (X, g)) → k none M') : wpD mB mNL (d + 1) zX5_offer [mR 5 0 26, mI (nI X), mI (zi g)] M k := by
  obtain ⟨s1, s2, s3⟩ := id hs
  obtain ⟨b1, b2, b3, b4, b5⟩ := hb
  have yes : (s.1 < g ∨ (g = s.1 ∧ (L : Int) = s.2.1 ∧ X < s.2.2)) → jJ kB_X5_offer d k 1 [mR 5 0 26, mI (nI X), mI (zi g)] [] M := by
    intro c
    refine v_X5_offer_1 _ _ (h _ (fun k j q => ?_) ?_)
    · unfold up
      rw [if_neg (by omega), if_neg (by omega), if_neg (by omega)]
    · unfold ofr
      rw [if_pos c]
      refine ⟨?_, ?_, ?_⟩
      · rw [up_j (by decide), up_j (by decide), up_at]
      · rw [up_j (by decide), up_at, h6]
        exact nI_zi L
      · rw [up_at]
  have no : ¬ (s.1 < g ∨ (g = s.1 ∧ (L : Int) = s.2.1 ∧ X < s.2.2)) → k none M := by
    intro c
    refine h M (PFr.rfl' M) ?_
    unfold ofr
    rw [if_neg c]
    exact hs
  refine v_X5_offer_0 _ _ ?_
  rw [s1, s2, s3, h6, zi_lt (by omega) (by omega) (by omega) (by omega), zi_eq (by omega) (by omega) (by omega) (by omega), nI_zi_eq (by omega) (by omega) (by omega)]
  refine ⟨fun c => yes (Or.inl c), fun c => ⟨fun c2 => no ?_, fun c2 => ⟨fun c3 => no ?_, fun c3 => ifle (by omega) (by omega) (fun c4 => no ?_) (fun c4 => yes (Or.inr ⟨c2, c3, c4⟩))⟩⟩⟩
  · rintro (q | ⟨q, -⟩)
    · exact c q
    · exact c2 q
  · rintro (q | ⟨-, q, -⟩)
    · exact c q
    · exact c3 q
  · rintro (q | ⟨-, -, q⟩)
    · exact c q
    · omega
theorem sp_mayWin {d : Nat} {k : mQ} {M : mM} {s : Int × Int × Nat} {L : Nat} {g : Int} (hs : PSt M s) (hb : PBd s) (h6 : M 26 6 = nI L) (hL : L < 16) (hg : -6 ≤ g ∧ g ≤ 4000) (h : k (mI (bI (decide (s.1 < g ∨ (g = s.1 ∧ (L : Int) = s.2.1))))) M) : wpD mB mNL (d + 1) zX5_mayWin [mR 5 0 26, mI (zi g)] M k := by
  obtain ⟨s1, s2, s3⟩ := id hs
  obtain ⟨b1, b2, b3, b4, b5⟩ := hb
  have yes : (s.1 < g ∨ (g = s.1 ∧ (L : Int) = s.2.1)) → k (mI 1) M := by
    intro c
    rw [show decide (s.1 < g ∨ (g = s.1 ∧ (L : Int) = s.2.1)) = true from decide_eq_true c] at h
    exact h
  have no : ¬ (s.1 < g ∨ (g = s.1 ∧ (L : Int) = s.2.1)) → k (mI 0) M := by
    intro c
    rw [show decide (s.1 < g ∨ (g = s.1 ∧ (L : Int) = s.2.1)) = false from decide_eq_false c] at h
    exact h
  refine v_X5_mayWin_0 _ ?_
  rw [s1, s2, h6, zi_lt (by omega) (by omega) (by omega) (by omega), zi_eq (by omega) (by omega) (by omega) (by omega), nI_zi_eq (by omega) (by omega) (by omega)]
  refine ⟨fun c => yes (Or.inl c), fun c => ⟨fun c2 => no ?_, fun c2 => ⟨fun c3 => no ?_, fun c3 => yes (Or.inr ⟨c2, c3⟩)⟩⟩⟩
  · rintro (q | ⟨q, -⟩)
    · exact c q
    · exact c2 q
  · rintro (q | ⟨-, q⟩)
    · exact c q
    · exact c3 q
theorem wbF_bd {G : LG} {hour n b : Nat} (hR : Rng (gS G) (gK G)) (hLR : LR G n b) : ∀ m h, h + m ≤ n → 0 ≤ wbF G hour m h ∧ wbF G hour m h ≤ 99 * (m : Int)
  | 0, h, _ => by simp [wbF]
  | m + 1, h, hm => by
    have ih := wbF_bd (hour := hour) hR hLR m (h + 1) (by omega)
    have hc := (hR.2.2.2.2.2 (kdH G h) (hLR h (by omega)).1).2.2.2.1
    unfold wbF wthK
    split
    · exact ⟨by omega, by omega⟩
    · exact ⟨by omega, by omega⟩
theorem gnF_bd {G : LG} {X n b : Nat} (hR : Rng (gS G) (gK G)) (hLR : LR G n b) : ∀ m h, h + m ≤ n → 0 ≤ gnF G X m h ∧ gnF G X m h ≤ 99 * (m : Int)
  | 0, h, _ => by simp [gnF]
  | m + 1, h, hm => by
    have ih := gnF_bd (X := X) hR hLR m (h + 1) (by omega)
    have hc := (hR.2.2.2.2.2 (kdH G h) (hLR h (by omega)).1).2.2.2.1
    unfold gnF wthK
    split
    · exact ⟨by omega, by omega⟩
    · exact ⟨by omega, by omega⟩
theorem wthK_bd {G : LG} {n b : Nat} (hR : Rng (gS G) (gK G)) (hLR : LR G n b) {h : Nat} (hn : h < n) : 0 ≤ wthK G h ∧ wthK G h ≤ 99 := (hR.2.2.2.2.2 (kdH G h) (hLR h hn).1).2.2.2.1
theorem can_bd2 {G : LG} {hour h : Nat} {F Q : Int} (hR : Rng (gS G) (gK G)) (hF : 0 ≤ F) (hk : kdH G h < 6) (hs : caB G hour h F Q = true) : 0 ≤ Q - wtK G h ∧ 0 ≤ wtK G h ∧ wtK G h ≤ 9999 := by
  have hw := (hR.2.2.2.2.2 (kdH G h) hk).2.2.1
  unfold caB canB at hs
  simp only [Bool.and_eq_true, decide_eq_true_eq] at hs
  have b1 := Int.mul_nonneg hR.2.2.1.1 hF
  have := hs.2
  unfold wtK
  exact ⟨by omega, hw.1, hw.2⟩
theorem fold_bd {G : LG} {L hour n b m h : Nat} {F Q g : Int} {D : Nat} {s : Int × Int × Nat} (hR : Rng (gS G) (gK G)) (hLR : LR G n b) (hn : n = h + m) (hn9 : n ≤ 9) (hL : L < 16) (hD : D < 2 ^ h) (hg : 0 ≤ g ∧ g ≤ 99 * (h : Int)) (hb : PBd s) : PBd ((lvs G L hour m h F Q D g).foldl (ofr L) s) := by
  rcases ofr_fold (L := L) (lvs G L hour m h F Q D g) s with ⟨e, -⟩ | ⟨q, hq, e, -, -⟩
  · rw [e]; exact hb
  · rw [e]
    obtain ⟨X, g'⟩ := q
    obtain ⟨q1, q2, q3, q4⟩ := (lvs_mem m h F Q D g X g' hD).mp hq
    have bg := gnF_bd (X := X) hR hLR m h (by omega)
    have : 2 ^ (h + m) ≤ 2 ^ 9 := Nat.pow_le_pow_right (by decide) (by omega)
    exact ⟨by show -6 ≤ g'; omega, by show g' ≤ 2000; omega, by show -6 ≤ (L : Int); omega, by show (L : Int) ≤ 16; omega, by show X < 1024; omega⟩
set_option maxHeartbeats 4000000 in
theorem sp_descend {G : LG} {L hour n b : Nat} (hR : Rng (gS G) (gK G)) (hLR : LR G n b) (hn : n ≤ 8) (hb : b ≤ 4) (hh : hour < 6) (hL : L < 16) : ∀ m h, n = h + m → ∀ (d : Nat) (M : mM) (s : Int × Int × Nat) (F Q : Int) (D : Nat) (g : Int) (k : mQ), DCtx G L hour n M → PSt M s → PBd s → WBh h F Q → D < 2 ^ h → 0 ≤ g ∧ g ≤ 99 * (h : Int) →
    (∀ M', PFr M M' → PSt M' ((lvs G L hour m h F Q D g).foldl (ofr L) s) → k none M') → wpD mB mNL (d + m + 6) zX5_descend [mR 5 0 26, mI (nI h), mI (zi F), mI (zi Q), mI (nI D), mI (zi g)] M k := by
  intro m
  induction m with
  | zero =>
    intro h hnm d M s F Q D g k hC hs hbd hW hD hg hk
    obtain ⟨c1, c2, c3, c4, c5⟩ := id hC
    refine v_X5_descend_0 (d := d + 5) _ _ _ _ _ ?_
    have p2 : 2 ^ h ≤ 2 ^ 8 := Nat.pow_le_pow_right (by decide) (by omega)
    rw [c3.1]
    refine ifle (by omega) (by omega) (fun _ => v_X5_descend_1 _ _ _ _ _ _ _ _ _ (sp_offer hs hbd c2 hL (by omega) ⟨by omega, by omega⟩ (fun M' f p => hk M' f p))) (fun c => by omega)
  | succ m ih =>
    intro h hnm d M s F Q D g k hC hs hbd hW hD hg hk
    obtain ⟨c1, c2, c3, c4, c5⟩ := id hC
    have hln := c3.2 h (by omega)
    have hlr := hLR h (by omega)
    have hwk := wthK_bd hR hLR (h := h) (by omega)
    have p2 : 2 ^ h ≤ 2 ^ 8 := Nat.pow_le_pow_right (by decide) (by omega)
    have p3 : 2 ^ (h + 1) = 2 ^ h + 2 ^ h := by rw [Nat.pow_succ]; omega
    have bwb := wbF_bd (hour := hour) hR hLR (m + 1) h (by omega)
    have ab := ar_bd (L := L) hR hlr.2.1.1 hW
    refine v_X5_descend_0 (d := d + m + 6) _ _ _ _ _ ?_
    rw [c3.1]
    refine ifle (by omega) (by omega) (fun c => by omega) (fun _ => iflt (a := h) (b := 8) (by omega) (by omega) (fun _ => ?_) (fun c => by omega))
    refine sp_cell (by omega) (by decide) ?_
    have e31 : M 31 h = zi (wbF G hour (m + 1) h) := by rw [c5 h (by omega)]; congr 2; omega
    refine wpD_at (as' := [mR 5 0 26, mI (zi (g + wbF G hour (m + 1) h))]) (by rw [← zi_add, ← e31]) ?_
    refine sp_mayWin hs hbd c2 hL ⟨by omega, by omega⟩ (ifb' (fun cm => ?_) (fun cm => ?_))
    · -- behind the brook
      have four : ∀ u, jJ kB_X5_descend (d + m + 6) k 4 [mR 5 0 26, mI (nI h), mI (zi F), mI (zi Q), mI (nI D), mI (zi g), mR 6 0 35, mI (zi (aF G L h F)), mI (zi (aQ G L h F Q)), u] [] M := by
        intro u
        have hWB := ab.wb (by omega)
        refine v_X5_descend_4 _ _ _ _ _ _ _ _ (sp_kindOf (i := h) (by omega) ?_)
        refine wpD_at (as' := [mR 6 0 35, mI (nI (kdH G h)), mI (zi (aF G L h F)), mI (zi (aQ G L h F Q))]) (by rw [← hln.1]) ?_
        refine sp_isHarmed hR c4 hlr.1 hWB (ifb (fun eh => ?_) (fun eh => ?_))
        · refine wpD_at (as' := [mR 6 0 35, mI (nI (kdH G h)), mI (nI hour), mI (zi (aF G L h F)), mI (zi (aQ G L h F Q))]) (by rw [← hln.1, ← c1]) ?_
          have elv : ∀ (l2 : List (Nat × Int)), (if caB G hour h (aF G L h F) (aQ G L h F Q) then lvs G L hour m (h + 1) (aF G L h F) (aQ G L h F Q - wtK G h) (D + 2 ^ h) (g + wthK G h) else []) = l2 → lvs G L hour (m + 1) h F Q D g = l2 ++ lvs G L hour m (h + 1) (aF G L h F) (aQ G L h F Q) D g := by
            intro l2 e
            have eh' : haB G h (aF G L h F) (aQ G L h F Q) = false := eh
            rw [lvs, eh', ← e]
            rfl
          -- the second half: the house doesn't draw
          have six : ∀ M1 s1 l2 v9, PFr M M1 → PSt M1 s1 → PBd s1 → lvs G L hour (m + 1) h F Q D g = l2 ++ lvs G L hour m (h + 1) (aF G L h F) (aQ G L h F Q) D g → l2.foldl (ofr L) s = s1 → jJ kB_X5_descend (d + m + 6) k 6 [mR 5 0 26, mI (nI h), mI (zi F), mI (zi Q), mI (nI D), mI (zi g), mR 6 0 35, mI (zi (aF G L h F)), mI (zi (aQ G L h F Q)), mI v9] [] M1 := by
            intro M1 s1 l2 v9 f1 hs1 hb1 e1 e2
            refine v_X5_descend_6 _ _ _ _ _ _ _ _ ?_
            rw [nI_1]
            refine ih (h + 1) (by omega) d M1 s1 _ _ D g _ (hC.of f1) hs1 hb1 ab (by omega) ⟨hg.1, by omega⟩ (fun M2 f2 hs2 => hk M2 (f1.trans f2) ?_)
            rw [e1, List.foldl_append, e2]
            exact hs2
          refine sp_isServed hR c4 hlr.1 hh hWB (ifb (fun es => ?_) (fun es => ?_))
          · refine six M s [] _ (PFr.rfl' M) hs hbd (elv [] ?_) rfl
            have es' : caB G hour h (aF G L h F) (aQ G L h F Q) = false := es
            rw [es']
            rfl
          · have es' : caB G hour h (aF G L h F) (aQ G L h F Q) = true := es
            have cb := can_bd2 hR (by have := ab.1; omega) hlr.1 es'
            refine wpD_at (as' := [mR 6 0 35, mI (nI 2), mI (nI (kdH G h))]) (by rw [← hln.1]; rfl) ?_
            refine sp_kindZ (o := 35) c4 (by decide) hlr.1 ?_
            refine wpD_at (as' := [mR 6 0 35, mI (nI 3), mI (nI (kdH G h))]) (by rw [← hln.1]; rfl) ?_
            refine sp_kindZ (o := 35) c4 (by decide) hlr.1 ?_
            refine wpD_at (as' := [mR 5 0 26, mI (nI (h + 1)), mI (zi (aF G L h F)), mI (zi (aQ G L h F Q - wtK G h)), mI (nI (D + 2 ^ h)), mI (zi (g + wthK G h))]) (by rw [← nI_1, ← zi_sub, ← zi_add, ← nI_or_pow hD, sh_small (by omega)]; rfl) ?_
            obtain ⟨a1, a2, a3, a4⟩ := ab
            refine ih (h + 1) (by omega) d M s _ _ (D + 2 ^ h) _ _ hC hs hbd ⟨a1, a2, cb.1, by omega⟩ (by omega) ⟨by omega, by omega⟩ (fun M1 f1 hs1 => ?_)
            refine six M1 _ (lvs G L hour m (h + 1) (aF G L h F) (aQ G L h F Q - wtK G h) (D + 2 ^ h) (g + wthK G h)) _ f1 hs1 (fold_bd hR hLR (by omega) (by omega) hL (by omega) ⟨by omega, by omega⟩ hbd) (elv _ ?_) rfl
            rw [es']
            rfl
        · refine hk M (PFr.rfl' M) ?_
          have eh' : haB G h (aF G L h F) (aQ G L h F Q) = true := eh
          rw [lvs, eh']
          exact hs
      refine sp_lossAheadOf (i := h) (by omega) ?_
      refine wpD_at (as' := [mR 6 0 35, mI (zi (loH G h)), mI (zi F), mI (zi Q)]) (by rw [← hln.2.1]) ?_
      refine sp_heatBehindPipe hR c4 hlr.2.1 (hW.wb (by omega)) (sp_brookAheadOf (i := h) (by omega) ?_)
      refine wpD_at (as' := [mI (nI L), mI (zi (brH G h))]) (by rw [← hln.2.2, ← c2]) ?_
      have noB : brB L (brH G h) = false → jJ kB_X5_descend (d + m + 6) k 4 [mR 5 0 26, mI (nI h), mI (zi F), mI (zi Q), mI (nI D), mI (zi g), mR 6 0 35, mI (zi F), mI (zi (pipeQ (gS G 2) (loH G h) F Q)), none] [] M := by
        intro ebr
        have h9 := four none
        unfold aF aQ at h9
        rw [ebr] at h9
        exact h9
      rcases hlr.2.2 with hb6 | hb0
      · rw [hb6]
        exact sp_hasBit_neg (by decide) ⟨fun _ => noB (by rw [hb6]; rfl), fun c => absurd rfl c⟩
      · have e9 : zi (brH G h) = nI (brH G h).toNat := by rw [nI_zi]; congr 1; omega
        rw [e9]
        refine sp_hasBit (by omega) (by omega) (ifb (fun e => noB (by unfold brB; rw [e]; simp)) (fun e => ?_))
        have ebr : brB L (brH G h) = true := by unfold brB; rw [e]; simp; omega
        refine sp_springZ (o := 35) (i := 3) c4 (by decide) (sp_springZ (o := 35) (i := 3) c4 (by decide) (sp_springZ (o := 35) (i := 4) c4 (by decide) ?_))
        have h9 := four none
        unfold aF aQ at h9
        rw [ebr] at h9
        simp only [if_true] at h9
        rw [← zi_add, ← zi_add, ← zi_mul] at h9
        exact h9
    · refine hk M (PFr.rfl' M) ?_
      rw [ofr_none (hope := g + wbF G hour (m + 1) h) (of_decide_eq_false cm) _ (fun q hq => lvs_hope (m + 1) h _ _ _ _ q (fun i hi => (wthK_bd hR hLR (by omega)).1) hq)]
      exact hs
end
section
/-! THE CLASS: the best plan of a lane -/
def WFr (M M' : mM) : Prop := ∀ k j, k ≠ 31 → M' k j = M k j
theorem sp_sumWorthBehind {d : Nat} {k : mQ} {M : mM} {G : LG} {hour n b : Nat} (hR : Rng (gS G) (gK G)) (hH : Hyd (gS G) (gK G) M 36 37) (hLn : LnC G M 27 n) (hn : n ≤ 8) (hLR : LR G n b) (hh : hour < 6) (h5 : M 26 5 = nI hour)
    (h : ∀ M', WFr M M' → (∀ h, h ≤ n → M' 31 h = zi (wbF G hour (n - h) h)) → k none M') : wpD mB mNL (d + 4) zX5_sumWorthBehind [mR 5 0 26] M k := by
  have key : ∀ j M1 u, j ≤ n → WFr M M1 → (∀ h, j ≤ h → h ≤ n → M1 31 h = zi (wbF G hour (n - h) h)) → jJ kB_X5_sumWorthBehind (d + 3) k 1 [mR 5 0 26, mI (zi (wbF G hour (n - j) j)), mI (zi ((j : Int) - 1)), u] [] M1 := by
    intro j
    induction j with
    | zero =>
      intro M1 u _ f h1
      refine v_X5_sumWorthBehind_1 _ _ _ ⟨fun _ => h M1 f (fun i hi => h1 i (Nat.zero_le _) hi), fun c => absurd (by decide) c⟩
    | succ j ih =>
      intro M1 u hj f h1
      have hln := hLn.2 j (by omega)
      have hlr := hLR j (by omega)
      have e1 : zi (((j + 1 : Nat) : Int) - 1) = nI j := by rw [nI_zi]; congr 1; omega
      have hH1 : Hyd (gS G) (gK G) M1 36 37 := hH.of (fun j => f 36 j (by decide)) (fun j => f 37 j (by decide))
      have hk : M1 (27 + 1) j = nI (kdH G j) := by rw [f _ _ (by decide)]; exact hln.1
      have h26 : M1 26 5 = nI hour := by rw [f _ _ (by decide)]; exact h5
      have two : ∀ v3, jJ kB_X5_sumWorthBehind (d + 3) k 2 [mR 5 0 26, mI (zi (wbF G hour (n - j) j)), mI (nI j), mI v3] [] M1 := by
        intro v3
        refine v_X5_sumWorthBehind_2 _ _ _ (sp_setCell (by omega) (by decide) ?_)
        have e2 : nI j + (-1) = zi ((j : Int) - 1) := by rw [nI_zi, show (-1 : Int32) = zi (-1) from rfl, zi_add]; rfl
        rw [e2]
        refine ih _ _ (by omega) (fun k j' hk => by rw [up_k hk]; exact f k j' hk) (fun h hj1 hj2 => ?_)
        by_cases q : h = j
        · subst q
          rw [up_at]
        · rw [up_j q]
          exact h1 h (by omega) hj2
      rw [e1]
      have em : n - j = (n - (j + 1)) + 1 := by omega
      refine v_X5_sumWorthBehind_1 _ _ _ ⟨fun c => absurd c (nI_pos (by omega)), fun _ => sp_kindOf (i := j) (by omega) ?_⟩
      refine wpD_at (as' := [mR 6 0 35, mI (nI (kdH G j)), mI (nI hour)]) (by rw [← hk, ← h26]) ?_
      refine sp_isWanting hR hH1 hlr.1 hh (ifb (fun e => ?_) (fun e => ?_))
      · have h9 := two (M1 (27 + 1) j)
        rw [em, wbF, show wanB G hour j = false from e] at h9
        exact h9
      · refine wpD_at (as' := [mR 6 0 35, mI (nI 3), mI (nI (kdH G j))]) (by rw [← hk]; rfl) ?_
        refine sp_kindZ (o := 35) hH1 (by decide) hlr.1 ?_
        have h9 := two (M1 (27 + 1) j)
        rw [em, wbF, show wanB G hour j = true from e] at h9
        simp only [if_true] at h9
        rw [← zi_add] at h9
        exact h9
  refine v_X5_sumWorthBehind_0 ?_
  rw [hLn.1]
  refine sp_setCell (i := n) (by omega) (by decide) ?_
  have e0 : (up M 31 n 0) 27 0 = nI n := by rw [up_k (by decide)]; exact hLn.1
  show jJ _ _ _ _ [_, _, mI ((up M 31 n 0) 27 0 - 1), _] _ _
  have e2 : (up M 31 n 0) 27 0 - 1 = zi ((n : Int) - 1) := by rw [e0, nI_zi, show (1 : Int32) = zi 1 from rfl, zi_sub]
  rw [e2]
  have h9 := key n (up M 31 n 0) none (Nat.le_refl n) (fun k j hk => up_k hk) (fun h h1 h2 => by
    rw [show h = n by omega, up_at, Nat.sub_self]
    rfl)
  rw [Nat.sub_self] at h9
  exact h9
/-- cells that the search of the class writes -/
def IFr (M M' : mM) : Prop := ∀ k j, ¬ ((k = 26 ∧ 1 ≤ j ∧ j ≤ 6 ∧ j ≠ 4) ∨ k = 31) → M' k j = M k j
set_option maxHeartbeats 4000000 in
theorem sp_improve {d : Nat} {k : mQ} {M : mM} {G : LG} {hour n b : Nat} {W0 B0 : Int} {D0 : Nat} (hR : Rng (gS G) (gK G)) (hH : Hyd (gS G) (gK G) M 36 37) (hLn : LnC G M 27 n) (h27 : M 27 1 = nI b) (hn : n ≤ 8) (hLR : LR G n b) (hb : b ≤ 4) (hh : hour < 6) (hs : PSt M (W0, B0, D0)) (hbd : PBd (W0, B0, D0))
    (h1 : ∀ M' D, IFr M M' → PSt M' (W0, -6, D) → D < 1024 → (∀ L X, L < 2 ^ b → X < 2 ^ n → okP G n hour (gS G 1) L X → wtS G X n ≤ W0) → k (mI 0) M')
    (h2 : ∀ M' W (L D : Nat), IFr M M' → PSt M' (W, L, D) → W0 < W → W ≤ 1000 → IsB G n b hour (gS G 1) W L D → L < 2 ^ b → D < 2 ^ n → k (mI 1) M') : wpD mB mNL (d + n + 8) zX5_improve [mR 5 0 26, mI (nI hour)] M k := by
  have hpb : 2 ^ b ≤ 16 := Nat.pow_le_pow_right (by decide) hb
  have hpn : 2 ^ n ≤ 256 := Nat.pow_le_pow_right (by decide) hn
  obtain ⟨s1, s2, s3⟩ := id hs
  -- the state ahead of set L
  let St : mM → Int × Int × Nat → Nat → Prop := fun M1 s L => IFr M M1 ∧ M1 26 5 = nI hour ∧ (∀ h, h ≤ n → M1 31 h = zi (wbF G hour (n - h) h)) ∧ PSt M1 s ∧ PBd s ∧
    ((s.1 = W0 ∧ s.2.1 = -6 ∧ ∀ L' X, L' < L → X < 2 ^ n → okP G n hour (gS G 1) L' X → wtS G X n ≤ W0) ∨
     (W0 < s.1 ∧ ∃ L1, L1 < L ∧ s.2.1 = (L1 : Int) ∧ s.2.2 < 2 ^ n ∧ okP G n hour (gS G 1) L1 s.2.2 ∧ s.1 = wtS G s.2.2 n ∧ ∀ L' X, L' < L → X < 2 ^ n → okP G n hour (gS G 1) L' X → wtS G X n ≤ s.1 ∧ (wtS G X n = s.1 → L1 < L' ∨ (L1 = L' ∧ s.2.2 ≤ X))))
  have key : ∀ r L M1 s, L + r = 2 ^ b → St M1 s L → jJ kB_X5_improve (d + n + 7) k 1 [mR 5 0 26, mI (nI hour), mI (zi W0), mI (zi (gS G 0)), mI (nI L)] [] M1 := by
    intro r
    induction r with
    | zero =>
      intro L M1 s hL hS
      obtain ⟨f, t1, t2, t3, t4, t5⟩ := id hS
      refine v_X5_improve_1 _ _ _ _ (sp_brookSets (n := b) (by rw [f 27 1 (by omega)]; exact h27) (by omega) ?_)
      refine ifle (by omega) (by omega) (fun _ => ?_) (fun c => by omega)
      rw [t3.1]
      obtain ⟨b1, b2, b3, b4, b5⟩ := t4
      obtain ⟨c1, c2, -⟩ := hbd
      have hLb : L = 2 ^ b := by omega
      subst hLb
      rw [zi_le (by omega) (by omega) (show -2147483648 ≤ W0 by show _ ≤ (W0, B0, D0).1; omega) (show W0 < 2147483648 by show (W0, B0, D0).1 < _; omega)]
      rcases t5 with ⟨q1, q2, q3⟩ | ⟨q1, L1, q2, q3, q4, q5, q6, q7⟩
      · refine ⟨fun _ => h1 M1 s.2.2 f ⟨by rw [← q1]; exact t3.1, by rw [← q2]; exact t3.2.1, t3.2.2⟩ b5 (fun L X hL hX hk => q3 L X hL hX hk), fun c => by omega⟩
      · refine ⟨fun c => by omega, fun _ => h2 M1 s.1 L1 s.2.2 f ⟨t3.1, by rw [← q3]; exact t3.2.1, t3.2.2⟩ q1 (by rw [q6]; have := wtS_bd (S := s.2.2) hR hLR n (Nat.le_refl n); omega) (Or.inr ⟨q5, ⟨q2, q4⟩, q6, fun L X hP hk => q7 L X hP.1 hP.2 hk⟩) q2 q4⟩
    | succ r ih =>
      intro L M1 s hL hS
      obtain ⟨f, t1, t2, t3, t4, t5⟩ := id hS
      refine v_X5_improve_1 _ _ _ _ (sp_brookSets (n := b) (by rw [f 27 1 (by omega)]; exact h27) (by omega) ?_)
      refine ifle (by omega) (by omega) (fun c => by omega) (fun _ => ?_)
      have hH1 : Hyd (gS G) (gK G) (up M1 26 6 (nI L)) 36 37 := (hH.of (fun j => f 36 j (by omega)) (fun j => f 37 j (by omega))).up (by decide) (by decide)
      refine sp_springZ (o := 35) (i := 1) hH1 (by decide) ?_
      have hC : DCtx G L hour n (up M1 26 6 (nI L)) := ⟨by rw [up_j (by decide)]; exact t1, up_at _ _ _ _, hLn.of (fun k j q1 q2 => by rw [up_k (by omega)]; exact f k j (by omega)), hH1, fun i hi => by rw [up_k (by decide)]; exact t2 i hi⟩
      have hs1 : PSt (up M1 26 6 (nI L)) s := ⟨by rw [up_j (by decide)]; exact t3.1, by rw [up_j (by decide)]; exact t3.2.1, by rw [up_j (by decide)]; exact t3.2.2⟩
      have bd := fl_bd (D := 0) (L := L) (hour := hour) hR hR.2.1 hLR 0 (by omega)
      refine wpD_at (as' := [mR 5 0 26, mI (nI 0), mI (zi (gS G 0)), mI (zi (gS G 0 * gS G 1)), mI (nI 0), mI (zi 0)]) (by rw [zi_mul]; rfl) ?_
      refine wpD_succ mB mNL (d + n + 6) _ _ _ _ (sp_descend hR hLR hn hb hh (by omega) n 0 (by omega) d _ s _ _ 0 0 _ hC hs1 t4 bd (by decide) ⟨by decide, by decide⟩ (fun M2 f2 hs2 => ?_))
      rw [nI_1]
      have hb2 := fold_bd (L := L) (hour := hour) (m := n) (h := 0) (F := gS G 0) (Q := gS G 0 * gS G 1) (g := 0) (D := 0) hR hLR (by omega) (by omega) (by omega) (by decide) ⟨by decide, by decide⟩ t4
      refine ih (L + 1) M2 _ (by omega) ⟨fun k j q => ?_, ?_, fun i hi => ?_, hs2, hb2, ?_⟩
      · rw [f2 k j (by omega)]
        unfold up
        rw [if_neg (by omega)]
        exact f k j q
      · rw [f2 26 5 (by omega), up_j (by decide)]; exact t1
      · rw [f2 31 i (by omega), up_k (by decide)]; exact t2 i hi
      · have hBL : (L : Int) ≠ s.2.1 := by
          rcases t5 with ⟨q1, q2, q3⟩ | ⟨q1, L1, q2, q3, -⟩ <;> omega
        rcases ofr_fold (L := L) (lvs G L hour n 0 (gS G 0) (gS G 0 * gS G 1) 0 0) s with ⟨e, e2⟩ | ⟨⟨X, g⟩, hq, e, e2, e3⟩
        · have new : ∀ X, X < 2 ^ n → okP G n hour (gS G 1) L X → wtS G X n ≤ s.1 := fun X hX hk => (e2 (X, wtS G X n) (lvs_P.mpr ⟨hX, hk, rfl⟩)).1
          rw [e]
          rcases t5 with ⟨q1, q2, q3⟩ | ⟨q1, L1, q2, q3, q4, q5, q6, q7⟩
          · refine Or.inl ⟨q1, q2, fun L' X hL' hX hk => ?_⟩
            by_cases eL : L' = L
            · subst eL
              have := new X hX hk
              omega
            · exact q3 L' X (by omega) hX hk
          · refine Or.inr ⟨q1, L1, by omega, q3, q4, q5, q6, fun L' X hL' hX hk => ?_⟩
            by_cases eL : L' = L
            · subst eL
              exact ⟨new X hX hk, fun _ => Or.inl q2⟩
            · exact q7 L' X (by omega) hX hk
        · have hlt : s.1 < g := by
            rcases e2 with q | ⟨-, q, -⟩
            · exact q
            · exact absurd q hBL
          obtain ⟨x1, x2, x3⟩ := lvs_P.mp hq
          rw [e]
          refine Or.inr ⟨?_, L, by omega, rfl, x1, x2, x3, fun L' X' hL' hX hk => ?_⟩
          · show W0 < g
            rcases t5 with ⟨q1, -⟩ | ⟨q1, -⟩ <;> omega
          · show wtS G X' n ≤ g ∧ (wtS G X' n = g → L < L' ∨ (L = L' ∧ X ≤ X'))
            by_cases eL : L' = L
            · subst eL
              have := e3 (X', wtS G X' n) (lvs_P.mpr ⟨hX, hk, rfl⟩)
              exact ⟨this.1, fun c => Or.inr ⟨rfl, this.2 c⟩⟩
            · have : wtS G X' n ≤ s.1 := by
                rcases t5 with ⟨q1, q2, q3⟩ | ⟨q1, L1, q2, q3, q4, q5, q6, q7⟩
                · rw [q1]; exact q3 L' X' (by omega) hX hk
                · exact (q7 L' X' (by omega) hX hk).1
              exact ⟨by omega, fun c => by omega⟩
  have hH0 : Hyd (gS G) (gK G) (up (up M 26 5 (nI hour)) 26 2 (-6)) 36 37 := (hH.up (by decide) (by decide)).up (by decide) (by decide)
  refine v_X5_improve_0 _ (sp_springZ (o := 35) (i := 0) hH (by decide) ?_)
  refine sp_sumWorthBehind (d := d + n + 3) hR hH0 (hLn.of (fun k j q1 q2 => by rw [up_k (by omega), up_k (by omega)])) hn hLR hh (by rw [up_j (by decide), up_at]) (fun M1 f1 w1 => ?_)
  show jJ _ _ _ _ [_, _, mI (M 26 1), mI (zi (gS G 0)), mI (nI 0)] _ _
  rw [s1]
  obtain ⟨b1, b2, b3, b4, b5⟩ := hbd
  refine key (2 ^ b) 0 M1 (W0, -6, D0) (by omega) ⟨fun k j q => ?_, ?_, w1, ⟨?_, ?_, ?_⟩, ⟨b1, b2, Int.le_refl _, by show (-6 : Int) ≤ 16; decide, b5⟩, Or.inl ⟨rfl, rfl, fun L' X q => absurd q (Nat.not_lt_zero _)⟩⟩
  · rw [f1 k j (by omega)]
    unfold up
    rw [if_neg (by omega), if_neg (by omega)]
  · rw [f1 26 5 (by decide), up_j (by decide), up_at]
  · rw [f1 26 1 (by decide), up_j (by decide), up_j (by decide)]; exact s1
  · rw [f1 26 2 (by decide), up_at]; rfl
  · rw [f1 26 3 (by decide), up_j (by decide), up_j (by decide)]; exact s3
theorem sp_forgetPlans {d : Nat} {k : mQ} {M : mM} (h : k none (up (up (up M 26 1 (-6)) 26 2 (-6)) 26 3 0)) : wpD mB mNL (d + 1) zX5_forgetPlans [mR 5 0 26] M k := v_X5_forgetPlans_0 h
theorem cpy_out {M : mM} {r0 r1 L k j : Nat} (h : k ≠ r1) : cpy M r0 r1 L k j = M k j := by simp [cpy, h]
theorem cpy_in {M : mM} {r0 r1 L j : Nat} (h : j < L) : cpy M r0 r1 L r1 j = M r0 j := by simp [cpy, h]
/-- a lane's copy: outside, and what it holds -/
theorem cpyL_out {M : mM} {a o k j : Nat} (h : k < o ∨ o + 3 < k) : cpyL M a o k j = M k j := by
  unfold cpyL
  rw [cpy_out (by omega), cpy_out (by omega), cpy_out (by omega), up_k (by omega), up_k (by omega)]
theorem cpyL_0 {M : mM} {a o : Nat} : cpyL M a o o 0 = M a 0 ∧ cpyL M a o o 1 = M a 1 := by
  unfold cpyL
  refine ⟨?_, ?_⟩
  · rw [cpy_out (by omega), cpy_out (by omega), cpy_out (by omega), up_j (by decide), up_at]
  · rw [cpy_out (by omega), cpy_out (by omega), cpy_out (by omega), up_at]
theorem cpyL_r {M : mM} {a o i j : Nat} (hd : a + 3 < o ∨ o + 3 < a) (hi : 1 ≤ i ∧ i ≤ 3) (hj : j < 8) : cpyL M a o (o + i) j = M (a + i) j := by
  unfold cpyL
  rcases (by omega : i = 1 ∨ i = 2 ∨ i = 3) with rfl | rfl | rfl
  · rw [cpy_out (by omega), cpy_out (by omega), cpy_in hj, up_k (by omega), up_k (by omega)]
  · rw [cpy_out (by omega), cpy_in hj, cpy_out (by omega), up_k (by omega), up_k (by omega)]
  · rw [cpy_in hj, cpy_out (by omega), cpy_out (by omega), up_k (by omega), up_k (by omega)]
theorem LnC.cpy {G : LG} {M : mM} {a o n : Nat} (h : LnC G M a n) (hn : n ≤ 8) (hd : a + 3 < o ∨ o + 3 < a) : LnC G (cpyL M a o) o n :=
  ⟨by rw [cpyL_0.1]; exact h.1, fun i hi => ⟨by rw [cpyL_r hd (by omega) (by omega)]; exact (h.2 i hi).1, by rw [cpyL_r hd (by omega) (by omega)]; exact (h.2 i hi).2.1, by rw [cpyL_r hd (by omega) (by omega)]; exact (h.2 i hi).2.2⟩⟩
/-- cells of the searches -/
def SFr (M M' : mM) : Prop := ∀ k j, k < 26 ∨ 31 < k → M' k j = M k j
set_option maxHeartbeats 4000000 in
theorem sp_planAsItIs {d : Nat} {k : mQ} {M : mM} {G : LG} {hour n b : Nat} (hR : Rng (gS G) (gK G)) (hH : Hyd (gS G) (gK G) M 36 37) (hLn : LnC G M 38 n) (h38 : M 38 1 = nI b) (hn : n ≤ 8) (hLR : LR G n b) (hb : b ≤ 4) (hh : hour < 6)
    (h : ∀ M' W (L D : Nat), SFr M M' → IsB G n b hour (gS G 1) W L D → M' 26 1 = zi W → -6 ≤ W → W ≤ 1000 → (W ≠ -6 → M' 26 2 = nI L ∧ M' 26 3 = nI D ∧ L < 2 ^ b ∧ D < 2 ^ n) → k none M') : wpD mB mNL (d + n + 9) zX7_planAsItIs [mR 7 0 14, mI (nI hour)] M k := by
  refine v_X7_planAsItIs_0 (d := d + n + 8) _ (sp_forgetPlans (d := d + n + 7) (sp_copyLane (d := d + n + 6) (by decide) ?_))
  have f0 : ∀ k j, k < 26 ∨ 31 < k → (cpyL (up (up (up M 26 1 (-6)) 26 2 (-6)) 26 3 0) 38 27) k j = M k j := fun k j q => by rw [cpyL_out (by omega), up_k (by omega), up_k (by omega), up_k (by omega)]
  have hL0 : LnC G (up (up (up M 26 1 (-6)) 26 2 (-6)) 26 3 0) 38 n := hLn.of (fun k j q1 q2 => by rw [up_k (by omega), up_k (by omega), up_k (by omega)])
  refine sp_improve (W0 := -6) (B0 := -6) (D0 := 0) hR (hH.of (fun j => f0 36 j (by decide)) (fun j => f0 37 j (by decide))) (hL0.cpy hn (by decide)) ?_ hn hLR hb hh ⟨?_, ?_, ?_⟩ ⟨by decide, by decide, by decide, by decide, by decide⟩ (fun M1 D f1 p1 hD e1 => ?_) (fun M1 W L D f1 p1 hW hW2 hI hL hD => ?_)
  · rw [cpyL_0.2, up_k (by decide), up_k (by decide), up_k (by decide)]; exact h38
  · rw [cpyL_out (by decide), up_j (by decide), up_j (by decide), up_at]; rfl
  · rw [cpyL_out (by decide), up_j (by decide), up_at]; rfl
  · rw [cpyL_out (by decide), up_at]; rfl
  · refine h M1 (-6) 0 0 (fun k j q => by rw [f1 k j (by omega)]; exact f0 k j q) (Or.inl ⟨rfl, rfl, rfl, fun L X hP hk => ?_⟩) p1.1 (by decide) (by decide) (fun c => absurd rfl c)
    have a := e1 L X hP.1 hP.2 hk
    have c := wtS_bd (S := X) hR hLR n (Nat.le_refl n)
    omega
  · exact h M1 W L D (fun k j q => by rw [f1 k j (by omega)]; exact f0 k j q) hI p1.1 (by omega) hW2 (fun _ => ⟨by rw [p1.2.1]; exact (nI_zi L).symm, p1.2.2, hL, hD⟩)
end
section
/-! THE STATE OF BOTH -/
/-- a valley: springs, kinds, lane; houses; brooks; how many were felt; at which house, from, to -/
abbrev AV : Type := LG × Nat × Nat × Nat × (Nat → Nat) × (Nat → Int) × (Nat → Int)
def vG (V : AV) : LG := V.1
def vn (V : AV) : Nat := V.2.1
def vb (V : AV) : Nat := V.2.2.1
def vf (V : AV) : Nat := V.2.2.2.1
def fH (V : AV) : Nat → Nat := V.2.2.2.2.1
def fA (V : AV) : Nat → Int := V.2.2.2.2.2.1
def fB (V : AV) : Nat → Int := V.2.2.2.2.2.2
def VOK (V : AV) : Prop := Rng (gS (vG V)) (gK (vG V)) ∧ (1 ≤ vn V ∧ vn V ≤ 8) ∧ vb V ≤ 4 ∧ LR (vG V) (vn V) (vb V) ∧ vf V ≤ 6 ∧ ∀ i, i < vf V → fH V i < vn V ∧ 0 ≤ fA V i ∧ fA V i ≤ fB V i ∧ fB V i ≤ 1000
/-- the class' valley at v -/
def VC (V : AV) (M : mM) (v : Nat) : Prop := Hyd (gS (vG V)) (gK (vG V)) M (v + 1) (v + 2) ∧ LnC (vG V) M (v + 3) (vn V) ∧ M (v + 3) 1 = nI (vb V) ∧ M (v + 7) 0 = nI (vf V) ∧
  ∀ i, i < vf V → M (v + 8) i = nI (fH V i) ∧ M (v + 9) i = zi (fA V i) ∧ M (v + 10) i = zi (fB V i)
/-- the model's rows -/
def VM (V : AV) (ms mk mh mf : Nat → Int32) (mn mb mq : Int32) : Prop := (∀ j, j < 5 → ms j = zi (gS (vG V) j)) ∧ (∀ j, j < 30 → mk j = zi (gK (vG V) j)) ∧ mn = nI (vn V) ∧
  (∀ h, h < vn V → mh (3 * h) = nI (kdH (vG V) h) ∧ mh (3 * h + 1) = zi (loH (vG V) h) ∧ mh (3 * h + 2) = zi (brH (vG V) h)) ∧ mb = nI (vb V) ∧ mq = nI (vf V) ∧
  ∀ i, i < vf V → mf (3 * i) = nI (fH V i) ∧ mf (3 * i + 1) = zi (fA V i) ∧ mf (3 * i + 2) = zi (fB V i)
/-- the tables that nobody writes -/
def ROK (M : mM) : Prop := (∀ j, j < 5 → M 1001 j = ([1, 0, 0, 1, 0] : List Int32).getD j 0) ∧ (∀ j, j < 5 → M 1002 j = ([50, 1000, 300, 30, 300] : List Int32).getD j 0) ∧
  (∀ j, j < 5 → M 1004 j = ([1000, 1000, 9999, 99, 63] : List Int32).getD j 0) ∧ ∀ j, j < 6 → M 1005 j = ([98, 100, 114, 99, 104, 108] : List Int32).getD j 0
def ImR (M : mM) (K t : Nat) : Prop := M 13 t = bI (K.testBit t) ∧ (K.testBit t = true → ∃ V, VOK V ∧ VC V M (46 + 11 * t) ∧ VM V (fun j => M 12 (80 * t + j)) (fun j => M 12 (80 * t + 5 + j)) (fun j => M 12 (80 * t + 35 + j)) (fun j => M 12 (80 * t + 59 + j)) (M 12 (80 * t + 77)) (M 12 (80 * t + 78)) (M 12 (80 * t + 79)))
/-- V: the valley as it is; c signs on the pad, p; K: the images that were kept -/
def InvP (V : AV) (c : Nat) (p : Nat → Nat) (K : Nat) (M : mM) : Prop := VOK V ∧ VC V M 35 ∧ VM V (M 1) (M 2) (M 4) (M 5) (M 0 4) (M 0 6) (M 0 7) ∧ (c ≤ 48 ∧ M 15 0 = nI c ∧ M 0 2 = nI c ∧ ∀ j, j < c → (33 ≤ p j ∧ p j ≤ 126) ∧ M 20 j = nI (p j) ∧ M 3 j = nI (p j)) ∧
  (K < 4 ∧ M 14 4 = nI K ∧ ImR M K 0 ∧ ImR M K 1) ∧ ROK M
/-- cells that calls may leave as they like -/
def scr (k j : Nat) : Prop := (k = 0 ∧ j ≠ 2 ∧ j ≠ 4 ∧ j ≠ 6 ∧ j ≠ 7) ∨ (6 ≤ k ∧ k ≤ 11) ∨ (k = 14 ∧ j ≠ 4) ∨ (k = 15 ∧ j ≠ 0) ∨ (16 ≤ k ∧ k ≤ 19) ∨ (21 ≤ k ∧ k ≤ 34) ∨ k = 68 ∨ k = 69
def Keep (M M' : mM) : Prop := ∀ k j, ¬ scr k j → M' k j = M k j
theorem Keep.rfl' (M : mM) : Keep M M := fun _ _ _ => rfl
theorem Keep.trans {M M' M'' : mM} (h : Keep M M') (h' : Keep M' M'') : Keep M M'' := fun k j q => (h' k j q).trans (h k j q)
theorem nscr {k j : Nat} (h : (1 ≤ k ∧ k ≤ 5) ∨ k = 12 ∨ k = 13 ∨ k = 20 ∨ (35 ≤ k ∧ k ≤ 67) ∨ 70 ≤ k) : ¬ scr k j := by
  unfold scr
  omega
theorem VC.of {V : AV} {M M' : mM} {v : Nat} (h : VC V M v) (f : ∀ k j, v ≤ k → k ≤ v + 10 → M' k j = M k j) : VC V M' v := by
  obtain ⟨h1, h2, h3, h4, h5⟩ := h
  exact ⟨h1.of (fun j => f _ _ (by omega) (by omega)) (fun j => f _ _ (by omega) (by omega)), h2.of (fun k j a c => f k j (by omega) (by omega)), by rw [f _ _ (by omega) (by omega)]; exact h3, by rw [f _ _ (by omega) (by omega)]; exact h4, fun i hi => by
    rw [f _ _ (by omega) (by omega), f _ _ (by omega) (by omega), f _ _ (by omega) (by omega)]; exact h5 i hi⟩
theorem ROK.of {M M' : mM} (h : ROK M) (f : ∀ k j, 1000 ≤ k → M' k j = M k j) : ROK M' :=
  ⟨fun j hj => by rw [f _ _ (by omega)]; exact h.1 j hj, fun j hj => by rw [f _ _ (by omega)]; exact h.2.1 j hj, fun j hj => by rw [f _ _ (by omega)]; exact h.2.2.1 j hj, fun j hj => by rw [f _ _ (by omega)]; exact h.2.2.2 j hj⟩
theorem ImR.of {M M' : mM} {K t : Nat} (h : ImR M K t) (ht : t < 2) (f12 : ∀ j, M' 12 j = M 12 j) (f13 : M' 13 t = M 13 t) (f : ∀ k j, 46 + 11 * t ≤ k → k ≤ 56 + 11 * t → M' k j = M k j) : ImR M' K t := by
  refine ⟨by rw [f13]; exact h.1, fun e => ?_⟩
  obtain ⟨V, h1, h2, h3⟩ := h.2 e
  refine ⟨V, h1, h2.of (fun k j a c => f k j (by omega) (by omega)), ?_⟩
  simp only [f12]
  exact h3
theorem InvP.keep {V : AV} {c K : Nat} {p : Nat → Nat} {M M' : mM} (h : InvP V c p K M) (f : Keep M M') : InvP V c p K M' := by
  obtain ⟨h1, h2, h3, ⟨h4, h5, h6, h7⟩, ⟨h8, h9, h10, h11⟩, h12⟩ := h
  have r : ∀ k, (1 ≤ k ∧ k ≤ 5) ∨ k = 12 ∨ k = 13 ∨ k = 20 ∨ (35 ≤ k ∧ k ≤ 67) ∨ 70 ≤ k → ∀ j, M' k j = M k j := fun k hk j => f k j (nscr hk)
  have r0 : ∀ j, j = 2 ∨ j = 4 ∨ j = 6 ∨ j = 7 → M' 0 j = M 0 j := fun j hj => f 0 j (by unfold scr; omega)
  refine ⟨h1, h2.of (fun k j a b => r k (by omega) j), ?_, ⟨h4, ?_, ?_, fun j hj => ?_⟩, ⟨h8, ?_, ?_, ?_⟩, h12.of (fun k j a => r k (by omega) j)⟩
  · have e1 : M' 1 = M 1 := funext (r 1 (by omega))
    have e2 : M' 2 = M 2 := funext (r 2 (by omega))
    have e4 : M' 4 = M 4 := funext (r 4 (by omega))
    have e5 : M' 5 = M 5 := funext (r 5 (by omega))
    rw [e1, e2, e4, e5, r0 4 (by omega), r0 6 (by omega), r0 7 (by omega)]
    exact h3
  · rw [f 15 0 (by unfold scr; omega)]; exact h5
  · rw [r0 2 (by omega)]; exact h6
  · rw [r 20 (by omega), r 3 (by omega)]; exact h7 j hj
  · rw [f 14 4 (by unfold scr; omega)]; exact h9
  · exact h10.of (by decide) (r 12 (by omega)) (r 13 (by omega) 0) (fun k j a b => r k (by omega) j)
  · exact h11.of (by decide) (r 12 (by omega)) (r 13 (by omega) 1) (fun k j a b => r k (by omega) j)
theorem InvP.ok {V : AV} {c K : Nat} {p : Nat → Nat} {M : mM} (h : InvP V c p K M) : VOK V := h.1
theorem InvP.hydC {V : AV} {c K : Nat} {p : Nat → Nat} {M : mM} (h : InvP V c p K M) : Hyd (gS (vG V)) (gK (vG V)) M 36 37 := h.2.1.1
theorem InvP.lnC {V : AV} {c K : Nat} {p : Nat → Nat} {M : mM} (h : InvP V c p K M) : LnC (vG V) M 38 (vn V) := h.2.1.2.1
theorem InvP.bC {V : AV} {c K : Nat} {p : Nat → Nat} {M : mM} (h : InvP V c p K M) : M 38 1 = nI (vb V) := h.2.1.2.2.1
theorem InvP.hydM {V : AV} {c K : Nat} {p : Nat → Nat} {M : mM} (h : InvP V c p K M) : Hyd (gS (vG V)) (gK (vG V)) M 1 2 := ⟨h.2.2.1.1, h.2.2.1.2.1⟩
theorem InvP.lnP {V : AV} {c K : Nat} {p : Nat → Nat} {M : mM} (h : InvP V c p K M) : LnP (vG V) M (vn V) := ⟨h.2.2.1.2.2.1, h.2.2.1.2.2.2.1⟩
theorem InvP.bM {V : AV} {c K : Nat} {p : Nat → Nat} {M : mM} (h : InvP V c p K M) : M 0 6 = nI (vb V) := h.2.2.1.2.2.2.2.1
/-! ints of calls -/
def tn (v : Int32) : Nat := v.toInt.toNat
theorem tn_eq {v : Int32} (h : 0 ≤ v.toInt) : v = nI (tn v) := by
  have := toInt_rng v
  rw [eq_zi, nI_ti (by unfold tn; omega)]
  unfold tn
  omega
theorem tn_lt {v : Int32} {m : Nat} (h0 : 0 ≤ v.toInt) (h : v.toInt < m) : tn v < m := by
  unfold tn
  omega
theorem tn_nI {n : Nat} (h : n < 2147483648) : tn (nI n) = n := by
  unfold tn
  rw [nI_ti h]
  rfl
theorem li0 : (0 : Int32).toInt = 0 := by decide
theorem li1 : (1 : Int32).toInt = 1 := by decide
theorem sp_isNoHour {d : Nat} {k : mQ} {M : mM} {v : Int32} (h1 : ¬ (0 ≤ v.toInt ∧ v.toInt ≤ 5) → k (mI 1) M) (h2 : 0 ≤ v.toInt ∧ v.toInt ≤ 5 → k (mI 0) M) : wpD mB mNL (d + 1) zX7_isNoHour [mI v] M k := by
  have e6 : (6 : Int32).toInt = 6 := by decide
  refine v_X7_isNoHour_0 _ ⟨fun c => h1 ?_, fun c => ⟨fun c2 => h2 ?_, fun c2 => h1 ?_⟩⟩ <;> simp only [lt_zi, li0, e6] at * <;> omega
theorem sp_isNoKind {d : Nat} {k : mQ} {M : mM} {v : Int32} (h1 : ¬ (0 ≤ v.toInt ∧ v.toInt ≤ 5) → k (mI 1) M) (h2 : 0 ≤ v.toInt ∧ v.toInt ≤ 5 → k (mI 0) M) : wpD mB mNL (d + 1) zX7_isNoKind [mI v] M k := by
  have e6 : (6 : Int32).toInt = 6 := by decide
  refine v_X7_isNoKind_0 _ ⟨fun c => h1 ?_, fun c => ⟨fun c2 => h2 ?_, fun c2 => h1 ?_⟩⟩ <;> simp only [lt_zi, li0, e6] at * <;> omega
theorem sp_isNoHouse {d : Nat} {k : mQ} {M : mM} {v : Int32} {n : Nat} (hn : M 38 0 = nI n) (h9 : n < 2147483648) (h1 : ¬ (0 ≤ v.toInt ∧ v.toInt < n) → k (mI 1) M) (h2 : 0 ≤ v.toInt ∧ v.toInt < n → k (mI 0) M) : wpD mB mNL (d + 1) zX7_isNoHouse [mR 7 0 14, mI v] M k := by
  refine v_X7_isNoHouse_0 _ ?_
  rw [hn]
  refine ⟨fun c => h1 ?_, fun c => ⟨fun c2 => h2 ?_, fun c2 => h1 ?_⟩⟩ <;> simp only [lt_zi, li0, nI_ti h9] at * <;> omega
theorem sp_areNoBrooks {d : Nat} {k : mQ} {M : mM} {v : Int32} {b : Nat} (hb : M 38 1 = nI b) (h9 : b ≤ 9) (h1 : ¬ (0 ≤ v.toInt ∧ v.toInt < 2 ^ b) → k (mI 1) M) (h2 : 0 ≤ v.toInt ∧ v.toInt < 2 ^ b → k (mI 0) M) : wpD mB mNL (d + 2) zX7_areNoBrooks [mR 7 0 14, mI v] M k := by
  have hp : 2 ^ b ≤ 512 := Nat.pow_le_pow_right (by decide) h9
  have e : ((2 ^ b : Nat) : Int) = 2 ^ b := by simp
  refine v_X7_areNoBrooks_0 _ ⟨fun c => h1 ?_, fun c => sp_brookSets hb (by omega) ⟨fun c2 => h2 ?_, fun c2 => h1 ?_⟩⟩ <;> simp only [lt_zi, li0, nI_ti (show 2 ^ b < 2147483648 by omega)] at * <;> omega
theorem sp_areNoDraws {d : Nat} {k : mQ} {M : mM} {v : Int32} {b : Nat} (hb : M 38 0 = nI b) (h9 : b ≤ 9) (h1 : ¬ (0 ≤ v.toInt ∧ v.toInt < 2 ^ b) → k (mI 1) M) (h2 : 0 ≤ v.toInt ∧ v.toInt < 2 ^ b → k (mI 0) M) : wpD mB mNL (d + 2) zX7_areNoDraws [mR 7 0 14, mI v] M k := by
  have hp : 2 ^ b ≤ 512 := Nat.pow_le_pow_right (by decide) h9
  have e : ((2 ^ b : Nat) : Int) = 2 ^ b := by simp
  refine v_X7_areNoDraws_0 _ ⟨fun c => h1 ?_, fun c => sp_houseSets hb (by omega) ⟨fun c2 => h2 ?_, fun c2 => h1 ?_⟩⟩ <;> simp only [lt_zi, li0, nI_ti (show 2 ^ b < 2147483648 by omega)] at * <;> omega
/-- the model's check of a range -/
theorem sp_inC {d : Nat} {k : mQ} {M : mM} {a b c : Int32} (h0 : ¬ (b.toInt ≤ a.toInt ∧ a.toInt ≤ c.toInt) → k (mI 0) M) (h1 : b.toInt ≤ a.toInt ∧ a.toInt ≤ c.toInt → k (mI 1) M) : wpD mB mNL (d + 1) zX8_in [mI a, mI b, mI c] M k := by
  refine sp_in ?_
  by_cases e : b.toInt ≤ a.toInt ∧ a.toInt ≤ c.toInt
  · rw [decide_eq_true e]; exact h1 e
  · rw [decide_eq_false e]; exact h0 e
/-- all of an hour's numbers are as told -/
abbrev okBits (V : AV) (v1 v2 v3 : Int32) : Prop := (0 ≤ v1.toInt ∧ v1.toInt ≤ 5) ∧ (0 ≤ v2.toInt ∧ v2.toInt < 2 ^ vb V) ∧ (0 ≤ v3.toInt ∧ v3.toInt < 2 ^ vn V)
theorem sp_areBitsC {d : Nat} {k : mQ} {M : mM} {V : AV} {v1 v2 v3 : Int32} (h4 : M 0 4 = nI (vn V)) (h6 : M 0 6 = nI (vb V)) (hn : vn V ≤ 9) (hb : vb V ≤ 9) (h0 : ¬ okBits V v1 v2 v3 → k (mI 0) M) (h1 : okBits V v1 v2 v3 → k (mI 1) M) : wpD mB mNL (d + 2) zX8_areBits [mR 8 0 0, mI v1, mI v2, mI v3] M k := by
  refine sp_areBits h4 h6 hn hb ?_
  by_cases e : okBits V v1 v2 v3
  · rw [show decide _ = true from decide_eq_true e]; exact h1 e
  · rw [show decide _ = false from decide_eq_false e]; exact h0 e
theorem bits_lt {v : Int32} {n : Nat} (hn : n ≤ 9) (h : 0 ≤ v.toInt ∧ v.toInt < 2 ^ n) : v = nI (tn v) ∧ tn v < 2 ^ n ∧ tn v < 512 := by
  have hp : 2 ^ n ≤ 512 := Nat.pow_le_pow_right (by decide) hn
  have e : ((2 ^ n : Nat) : Int) = 2 ^ n := by simp
  have := tn_lt (m := 2 ^ n) h.1 (by omega)
  exact ⟨tn_eq h.1, this, by omega⟩
end
section
/-! CALLS: at, run, cools, house, told -/
theorem sp_litresAt {d : Nat} {k : mQ} {M : mM} {i : Nat} (hi : i < 9) (h : k (mI (M 24 i)) M) : wpD mB mNL (d + 2) zX0_litresAt [mR 0 0 23, mI (nI i)] M k := v_X0_litresAt_0 _ (sp_cell hi (by decide) h)
theorem sp_heatAt {d : Nat} {k : mQ} {M : mM} {i : Nat} (hi : i < 9) (h : k (mI (M 25 i)) M) : wpD mB mNL (d + 2) zX0_heatAt [mR 0 0 23, mI (nI i)] M k := v_X0_heatAt_0 _ (sp_cell hi (by decide) h)
theorem FEnd.keep {G : LG} {L D hour n : Nat} {w : Int} {M M' : mM} (h : FEnd G L D hour w n M M') : Keep M M' := fun k j q => h.1.1 k j (by
  unfold scr at q
  omega)
theorem goC_scr {k j : Nat} (h : goC k j) : scr k j := by
  unfold goC at h
  unfold scr
  omega
theorem lbC_scr {k j : Nat} (h : lbC k j) : scr k j := by
  rcases h with h | h
  · exact goC_scr h
  · unfold scr; omega
theorem GEnd.keep {G : LG} {L D hour n : Nat} {w : Int} {M M' : mM} (h : GEnd G L D hour w n M M') : Keep M M' := fun k j q => h.1.1 k j (fun c => q (goC_scr c))
theorem asLane_keep {M M' : mM} (f : ∀ k j, ¬ (k = 6 ∨ (k = 0 ∧ j = 9)) → M' k j = M k j) : Keep M M' := fun k j q => f k j (by
  unfold scr at q
  omega)
/-- the hour's course from the state as it is (class, model) -/
theorem c_follow {d : Nat} {k : mQ} {M : mM} {V : AV} {c K : Nat} {p : Nat → Nat} {hour L D : Nat} {w : Int} (hI : InvP V c p K M) (hw : 0 ≤ w ∧ w ≤ 1000) (hh : hour < 6) (hL : L < 2 ^ vb V) (hD : D < 512)
    (h : ∀ M', Keep M M' → FEnd (vG V) L D hour w (vn V) M M' → k none M') : wpD mB mNL (d + 5) zX0_follow [mR 0 0 23, mI (zi w), mI (nI hour), mI (nI L), mI (nI D)] M k := by
  obtain ⟨o1, o2, o3, o4, -⟩ := hI.ok
  have : 2 ^ vb V ≤ 2 ^ 4 := Nat.pow_le_pow_right (by decide) o3
  exact sp_follow o1 hI.hydC hw hI.lnC o2.2 o4 o3 hh (by omega) (by omega) (fun M' e => h M' e.keep e)
theorem m_go {d : Nat} {k : mQ} {M : mM} {V : AV} {c K : Nat} {p : Nat → Nat} {hour L D : Nat} {w : Int} (hI : InvP V c p K M) (hLn : LnM (vG V) M (vn V)) (hw : 0 ≤ w ∧ w ≤ 1000) (hh : hour < 6) (hL : L < 2 ^ vb V) (hD : D < 512)
    (h : ∀ M', Keep M M' → GEnd (vG V) L D hour w (vn V) M M' → k none M') : wpD mB mNL (d + 2) zX8_go [mR 8 0 0, mI (nI hour), mI (nI L), mI (nI D), mI (zi w)] M k := by
  obtain ⟨o1, o2, o3, o4, -⟩ := hI.ok
  have : 2 ^ vb V ≤ 2 ^ 4 := Nat.pow_le_pow_right (by decide) o3
  exact sp_go o1 hI.hydM hw hLn (by omega) o4 o3 hh (by omega) (by omega) (fun M' e => h M' e.keep e)
theorem m_asLane {d : Nat} {k : mQ} {M : mM} {V : AV} {c K : Nat} {p : Nat → Nat} (hI : InvP V c p K M) (h : ∀ M', Keep M M' → LnM (vG V) M' (vn V) → k none M') : wpD mB mNL (d + 1) zX8_asLane [mR 8 0 0] M k :=
  sp_asLane hI.lnP hI.ok.2.1.2 (fun M' f l => h M' (asLane_keep f) l)
theorem okBits.nat {V : AV} {v1 v2 v3 : Int32} (hV : VOK V) (h : okBits V v1 v2 v3) : (v1 = nI (tn v1) ∧ tn v1 < 6) ∧ (v2 = nI (tn v2) ∧ tn v2 < 2 ^ vb V) ∧ (v3 = nI (tn v3) ∧ tn v3 < 2 ^ vn V ∧ tn v3 < 512) := by
  obtain ⟨h1, h2, h3⟩ := h
  obtain ⟨-, o2, o3, -⟩ := hV
  have a := bits_lt (by omega) h2
  have b := bits_lt (by omega) h3
  exact ⟨⟨tn_eq h1.1, tn_lt h1.1 (by omega)⟩, ⟨a.1, a.2.1⟩, ⟨b.1, b.2.1, b.2.2⟩⟩
def atN (V : AV) (hour L D h : Nat) (q : Bool) : Int := if h < vn V then (if q then arQ (vG V) L D hour (gS (vG V) 1) h else arF (vG V) L D hour (gS (vG V) 1) h) else (if q then (fl (vG V) L D hour (gS (vG V) 1) h).2 else (fl (vG V) L D hour (gS (vG V) 1) h).1)
def atV (V : AV) (v1 v2 v3 v4 v5 : Int32) : Int32 := if ¬ (0 ≤ v4.toInt ∧ v4.toInt ≤ vn V) then -1 else if ¬ (okBits V v1 v2 v3 ∧ (0 ≤ v5.toInt ∧ v5.toInt ≤ 1)) then -2 else zi (atN V (tn v1) (tn v2) (tn v3) (tn v4) (decide (¬ v5 = 0)))
theorem FEnd.at {V : AV} {L D hour : Nat} {M M' : mM} (h : FEnd (vG V) L D hour (gS (vG V) 1) (vn V) M M') {i : Nat} (hi : i ≤ vn V) : M' 24 i = zi (atN V hour L D i false) ∧ M' 25 i = zi (atN V hour L D i true) := by
  unfold atN
  by_cases e : i < vn V
  · simp only [e, if_true]
    exact h.1.2.2.2.2.2 i e
  · have : i = vn V := by omega
    subst this
    simp only [Nat.lt_irrefl, if_false]
    exact ⟨h.2.1, h.2.2.1⟩
theorem GEnd.at {V : AV} {L D hour : Nat} {M M' : mM} (h : GEnd (vG V) L D hour (gS (vG V) 1) (vn V) M M') {i : Nat} (hi : i ≤ vn V) : M' 7 i = zi (atN V hour L D i false) ∧ M' 8 i = zi (atN V hour L D i true) := by
  unfold atN
  by_cases e : i < vn V
  · simp only [e, if_true]
    exact h.1.2.2.2.2.2 i e
  · have : i = vn V := by omega
    subst this
    simp only [Nat.lt_irrefl, if_false]
    exact ⟨h.2.1, h.2.2⟩
theorem cx_at {d : Nat} {k : mQ} {M : mM} {V : AV} {c K : Nat} {p : Nat → Nat} {v1 v2 v3 v4 v5 : Int32} (hI : InvP V c p K M) (h : ∀ M', Keep M M' → k (mI (atV V v1 v2 v3 v4 v5)) M') : wpD mB mNL (d + 6) zX7_at [mR 7 0 14, mI v1, mI v2, mI v3, mI v4, mI v5] M k := by
  have hV := hI.ok
  obtain ⟨o1, o2, o3, o4, -⟩ := hV
  have h0 := h M (Keep.rfl' M)
  refine v_X7_at_0 _ _ _ _ _ ?_
  rw [hI.lnC.1]
  simp only [lt_zi, le_zi, li0, li1, nI_ti (show vn V < 2147483648 by omega)]
  refine ⟨fun c1 => ?_, fun c1 => ⟨fun c2 => ?_, fun c2 => ?_⟩⟩
  · unfold atV at h0
    rw [if_pos (by omega)] at h0
    exact h0
  · have hq : ¬ ¬ (0 ≤ v4.toInt ∧ v4.toInt ≤ vn V) := by omega
    have bad : ¬ (okBits V v1 v2 v3 ∧ (0 ≤ v5.toInt ∧ v5.toInt ≤ 1)) → k (mI (-2)) M := fun e => by
      unfold atV at h0
      rw [if_neg hq, if_pos e] at h0
      exact h0
    refine sp_isNoHour (fun e => ⟨fun _ => bad (fun q => e q.1.1), fun c => absurd c (by decide)⟩) (fun e1 => ⟨fun c => absurd rfl c, fun _ => ?_⟩)
    refine sp_areNoBrooks hI.bC (by omega) (fun e => ⟨fun _ => bad (fun q => e q.1.2.1), fun c => absurd c (by decide)⟩) (fun e2 => ⟨fun c => absurd rfl c, fun _ => ?_⟩)
    refine sp_areNoDraws hI.lnC.1 (by omega) (fun e => ⟨fun _ => bad (fun q => e q.1.2.2), fun c => absurd c (by decide)⟩) (fun e3 => ⟨fun c => absurd rfl c, fun _ => ⟨fun c3 => bad (by omega), fun c3 => ⟨fun c4 => ?_, fun c4 => bad (by omega)⟩⟩⟩)
    have hok : okBits V v1 v2 v3 := ⟨e1, e2, e3⟩
    obtain ⟨⟨a1, b1⟩, ⟨a2, b2⟩, a3, b3, b4⟩ := hok.nat hI.ok
    have a4 : v4 = nI (tn v4) := tn_eq (by omega)
    have b5 : tn v4 ≤ vn V := by unfold tn; omega
    refine sp_springZ (o := 35) (i := 1) hI.hydC (by decide) ?_
    refine wpD_at (as' := [mR 0 0 23, mI (zi (gS (vG V) 1)), mI (nI (tn v1)), mI (nI (tn v2)), mI (nI (tn v3))]) (by rw [← a1, ← a2, ← a3]) ?_
    refine c_follow hI o1.2.1 b1 b2 b4 (fun M1 f e => ?_)
    have h9 := h M1 f
    unfold atV at h9
    rw [if_neg hq, if_neg (fun q => q ⟨hok, by omega⟩)] at h9
    refine ⟨fun c5 => ?_, fun c5 => ?_⟩
    · refine wpD_at (as' := [mR 0 0 23, mI (nI (tn v4))]) (by rw [← a4]) (sp_heatAt (by omega) ?_)
      rw [(e.at b5).2]
      rw [decide_eq_true c5] at h9
      exact h9
    · refine wpD_at (as' := [mR 0 0 23, mI (nI (tn v4))]) (by rw [← a4]) (sp_litresAt (by omega) ?_)
      rw [(e.at b5).1]
      rw [show decide (¬ v5 = 0) = false by simp [c5]] at h9
      exact h9
  · unfold atV at h0
    rw [if_pos (by omega)] at h0
    exact h0
theorem cm_at {d : Nat} {k : mQ} {M : mM} {V : AV} {c K : Nat} {p : Nat → Nat} {v1 v2 v3 v4 v5 : Int32} (hI : InvP V c p K M) (h : ∀ M', Keep M M' → k (mI (atV V v1 v2 v3 v4 v5)) M') : wpD mB mNL (d + 4) zX8_at [mR 8 0 0, mI v1, mI v2, mI v3, mI v4, mI v5] M k := by
  have hV := hI.ok
  obtain ⟨o1, o2, o3, o4, -⟩ := hV
  have h0 := h M (Keep.rfl' M)
  refine v_X8_at_0 _ _ _ _ _ ?_
  rw [hI.lnP.1]
  refine sp_inC (fun e => ⟨fun c => absurd rfl c, fun _ => ?_⟩) (fun e => ⟨fun _ => ?_, fun c => absurd c (by decide)⟩) <;> rw [li0, nI_ti (show vn V < 2147483648 by omega)] at e
  · unfold atV at h0
    rw [if_pos e] at h0
    exact h0
  · have hq : ¬ ¬ (0 ≤ v4.toInt ∧ v4.toInt ≤ vn V) := fun q => q e
    have bad : ¬ (okBits V v1 v2 v3 ∧ (0 ≤ v5.toInt ∧ v5.toInt ≤ 1)) → k (mI (-2)) M := fun e => by
      unfold atV at h0
      rw [if_neg hq, if_pos e] at h0
      exact h0
    refine sp_areBitsC hI.lnP.1 hI.bM (by omega) (by omega) (fun e2 => ⟨fun _ => bad (fun q => e2 q.1), fun c => absurd rfl c⟩) (fun hok => ⟨fun c => absurd c (by decide), fun _ => ?_⟩)
    refine sp_inC (fun e3 => ⟨fun c => absurd rfl c, fun _ => bad (fun q => e3 (by rw [li0, li1]; exact q.2))⟩) (fun e3 => ⟨fun _ => ?_, fun c => absurd c (by decide)⟩)
    rw [li0, li1] at e3
    obtain ⟨⟨a1, b1⟩, ⟨a2, b2⟩, a3, b3, b4⟩ := hok.nat hI.ok
    have a4 : v4 = nI (tn v4) := tn_eq (by omega)
    have b5 : tn v4 ≤ vn V := by unfold tn; omega
    refine m_asLane hI (fun M1 f1 l1 => ⟨vpn 1 rfl (by decide) (by decide), ?_⟩)
    have hI1 := hI.keep f1
    rw [cl1, hI1.hydM.1 1 (by decide)]
    refine wpD_at (as' := [mR 8 0 0, mI (nI (tn v1)), mI (nI (tn v2)), mI (nI (tn v3)), mI (zi (gS (vG V) 1))]) (by rw [← a1, ← a2, ← a3]) ?_
    refine m_go hI1 l1 o1.2.1 b1 b2 b4 (fun M2 f2 e4 => ?_)
    have h9 := h M2 (f1.trans f2)
    unfold atV at h9
    rw [if_neg hq, if_neg (fun q => q ⟨hok, by omega⟩)] at h9
    refine ⟨fun c5 => ⟨vpn _ a4 (by omega) (by decide), ?_⟩, fun c5 => ⟨vpn _ a4 (by omega) (by decide), ?_⟩⟩ <;> rw [cln _ a4 (by omega)]
    · rw [(e4.at b5).2]
      rw [decide_eq_true c5] at h9
      exact h9
    · rw [(e4.at b5).1]
      rw [show decide (¬ v5 = 0) = false by simp [c5]] at h9
      exact h9
def runV (V : AV) (v1 v2 v3 v4 : Int32) : Int32 := if ¬ (okBits V v1 v2 v3 ∧ (0 ≤ v4.toInt ∧ v4.toInt ≤ 3)) then -2 else
  if v4.toInt = 0 then nI (svN (vG V) (tn v2) (tn v3) (tn v1) (gS (vG V) 1) (vn V)) else if v4.toInt = 1 then nI (hmN (vG V) (tn v2) (tn v3) (tn v1) (gS (vG V) 1) (vn V)) else
  if v4.toInt = 2 then zi (lsN (vG V) (tn v2) (tn v3) (tn v1) (gS (vG V) 1) (vn V)) else zi (tkN (vG V) (tn v2) (tn v3) (tn v1) (gS (vG V) 1) (vn V))
theorem cx_run {d : Nat} {k : mQ} {M : mM} {V : AV} {c K : Nat} {p : Nat → Nat} {v1 v2 v3 v4 : Int32} (hI : InvP V c p K M) (h : ∀ M', Keep M M' → k (mI (runV V v1 v2 v3 v4)) M') : wpD mB mNL (d + 6) zX7_run [mR 7 0 14, mI v1, mI v2, mI v3, mI v4] M k := by
  obtain ⟨o1, o2, o3, o4, -⟩ := hI.ok
  have bad : ∀ M', Keep M M' → ¬ (okBits V v1 v2 v3 ∧ (0 ≤ v4.toInt ∧ v4.toInt ≤ 3)) → k (mI (-2)) M' := fun M' f e => by
    have h0 := h M' f
    unfold runV at h0
    rw [if_pos e] at h0
    exact h0
  have bad0 := bad M (Keep.rfl' M)
  refine v_X7_run_0 _ _ _ _ (sp_isNoHour (fun e => ⟨fun _ => bad0 (fun q => e q.1.1), fun c => absurd c (by decide)⟩) (fun e1 => ⟨fun c => absurd rfl c, fun _ => ?_⟩))
  refine sp_areNoBrooks hI.bC (by omega) (fun e => ⟨fun _ => bad0 (fun q => e q.1.2.1), fun c => absurd c (by decide)⟩) (fun e2 => ⟨fun c => absurd rfl c, fun _ => ?_⟩)
  refine sp_areNoDraws hI.lnC.1 (by omega) (fun e => ⟨fun c => absurd c (by decide), fun _ => bad0 (fun q => e q.1.2.2)⟩) (fun e3 => ⟨fun _ => ?_, fun c => absurd rfl c⟩)
  have hok : okBits V v1 v2 v3 := ⟨e1, e2, e3⟩
  obtain ⟨⟨a1, b1⟩, ⟨a2, b2⟩, a3, b3, b4⟩ := hok.nat hI.ok
  refine sp_springZ (o := 35) (i := 1) hI.hydC (by decide) ?_
  refine wpD_at (as' := [mR 0 0 23, mI (zi (gS (vG V) 1)), mI (nI (tn v1)), mI (nI (tn v2)), mI (nI (tn v3))]) (by rw [← a1, ← a2, ← a3]) ?_
  refine c_follow hI o1.2.1 b1 b2 b4 (fun M1 f e => ?_)
  obtain ⟨⟨-, g2, g3, g4, g5, -⟩, -⟩ := e
  have h9 := h M1 f
  unfold runV at h9
  refine ⟨fun c1 => bad M1 f (fun q => by omega), fun c1 => ?_, fun c1 => ?_, fun c1 => ?_, fun c1 => ?_, trivial⟩ <;> rw [if_neg (fun q => q ⟨hok, by omega⟩)] at h9
  · rw [if_pos c1] at h9
    rw [g2]; exact h9
  · rw [if_neg (by omega), if_pos c1] at h9
    rw [g3]; exact h9
  · rw [if_neg (by omega), if_neg (by omega), if_pos c1] at h9
    rw [g4]; exact h9
  · rw [if_neg (by omega), if_neg (by omega), if_neg (by omega)] at h9
    rw [g5]; exact h9
theorem lit {n : Nat} (h : n < 2147483648) {v : Int32} : v = nI n ↔ v.toInt = n := by rw [eq_zi, nI_ti h]
theorem cm_run {d : Nat} {k : mQ} {M : mM} {V : AV} {c K : Nat} {p : Nat → Nat} {v1 v2 v3 v4 : Int32} (hI : InvP V c p K M) (h : ∀ M', Keep M M' → k (mI (runV V v1 v2 v3 v4)) M') : wpD mB mNL (d + 4) zX8_run [mR 8 0 0, mI v1, mI v2, mI v3, mI v4] M k := by
  obtain ⟨o1, o2, o3, o4, -⟩ := hI.ok
  have bad0 : ¬ (okBits V v1 v2 v3 ∧ (0 ≤ v4.toInt ∧ v4.toInt ≤ 3)) → k (mI (-2)) M := fun e => by
    have h0 := h M (Keep.rfl' M)
    unfold runV at h0
    rw [if_pos e] at h0
    exact h0
  have l3 : (3 : Int32).toInt = 3 := by decide
  refine v_X8_run_0 _ _ _ _ (sp_areBitsC hI.lnP.1 hI.bM (by omega) (by omega) (fun e2 => ⟨fun _ => bad0 (fun q => e2 q.1), fun c => absurd rfl c⟩) (fun hok => ⟨fun c => absurd c (by decide), fun _ => ?_⟩))
  refine sp_inC (fun e3 => ⟨fun c => absurd rfl c, fun _ => bad0 (fun q => e3 (by rw [li0, l3]; exact q.2))⟩) (fun e3 => ⟨fun _ => ?_, fun c => absurd c (by decide)⟩)
  rw [li0, l3] at e3
  obtain ⟨⟨a1, b1⟩, ⟨a2, b2⟩, a3, b3, b4⟩ := hok.nat hI.ok
  refine m_asLane hI (fun M1 f1 l1 => ⟨vpn 1 rfl (by decide) (by decide), ?_⟩)
  have hI1 := hI.keep f1
  rw [cl1, hI1.hydM.1 1 (by decide)]
  refine wpD_at (as' := [mR 8 0 0, mI (nI (tn v1)), mI (nI (tn v2)), mI (nI (tn v3)), mI (zi (gS (vG V) 1))]) (by rw [← a1, ← a2, ← a3]) ?_
  refine m_go hI1 l1 o1.2.1 b1 b2 b4 (fun M2 f2 e4 => ?_)
  obtain ⟨⟨-, g2, g3, g4, g5, -⟩, -⟩ := e4
  have h9 := h M2 (f1.trans f2)
  unfold runV at h9
  rw [if_neg (fun q => q ⟨hok, by omega⟩)] at h9
  have q0 : v4 = 0 ↔ v4.toInt = 0 := lit (n := 0) (by decide)
  have q1 : v4 = 1 ↔ v4.toInt = 1 := lit (n := 1) (by decide)
  have q2 : v4 = 2 ↔ v4.toInt = 2 := lit (n := 2) (by decide)
  show (_ ∧ _)
  rw [q0, q1, q2, g2, g3, g4, g5]
  refine ⟨fun c1 => ⟨fun c2 => ⟨fun c3 => ?_, fun c3 => ?_⟩, fun c2 => ?_⟩, fun c1 => ?_⟩
  · rw [if_neg c1, if_neg c2, if_neg c3] at h9; exact h9
  · rw [if_neg c1, if_neg c2, if_pos c3] at h9; exact h9
  · rw [if_neg c1, if_pos c2] at h9; exact h9
  · rw [if_pos c1] at h9; exact h9
/-- nobody is wronged -/
theorem wrN_0 {G : LG} {L D hour n : Nat} {w : Int} (hD : D < 2 ^ n) : wrN G L D hour w n = 0 ↔ okP G n hour w L D := by
  rw [← okH_P hD]
  constructor
  · intro h i _ hi
    have e := wrN_bit (G := G) (L := L) (D := D) (hour := hour) (w := w) (n := n) (i := i)
    rw [h] at e
    simp [hi] at e
    refine ⟨e.1, ?_⟩
    cases hx : D.testBit i
    · unfold isS svB
      rw [hx]
      simp
    · exact e.2 hx
  · intro h
    refine Nat.eq_of_testBit_eq fun i => ?_
    rw [wrN_bit]
    by_cases hi : i < n
    · have := h i (Nat.zero_le _) hi
      rw [this.1, this.2]
      cases D.testBit i <;> simp [hi]
    · have : D.testBit i = false := Nat.testBit_lt_two_pow (Nat.lt_of_lt_of_le hD (Nat.pow_le_pow_right (by decide) (Nat.not_lt.mp hi)))
      simp [hi, this]
/-- the least warmth from w on by which all is well (-6: none) -/
def coF (V : AV) (hour L D : Nat) : Nat → Nat → Int
  | 0, _ => -6
  | m + 1, w => if decide (wrN (vG V) L D hour w (vn V) = 0) then w else coF V hour L D m (w + 1)
def coolsV (V : AV) (v1 v2 v3 : Int32) : Int32 := if ¬ okBits V v1 v2 v3 then -2 else zi (coF V (tn v1) (tn v2) (tn v3) 1001 0)
theorem wrN_lt {G : LG} {L D hour n : Nat} {w : Int} (hD : D < 2 ^ n) : wrN G L D hour w n < 2 ^ n := by
  unfold wrN
  refine Nat.or_lt_two_pow (hmN_lt _ _ _ _ _ _) (Nat.xor_lt_two_pow hD ?_)
  exact Nat.and_lt_two_pow _ (svN_lt _ _ _ _ _ _)
theorem cx_cools {d : Nat} {k : mQ} {M : mM} {V : AV} {c K : Nat} {p : Nat → Nat} {v1 v2 v3 : Int32} (hI : InvP V c p K M) (h : ∀ M', Keep M M' → k (mI (coolsV V v1 v2 v3)) M') : wpD mB mNL (d + 6) zX7_cools [mR 7 0 14, mI v1, mI v2, mI v3] M k := by
  obtain ⟨o1, o2, o3, o4, -⟩ := hI.ok
  have bad0 : ¬ okBits V v1 v2 v3 → k (mI (-2)) M := fun e => by
    have h0 := h M (Keep.rfl' M)
    unfold coolsV at h0
    rw [if_pos e] at h0
    exact h0
  refine v_X7_cools_0 _ _ _ (sp_isNoHour (fun e => ⟨fun _ => bad0 (fun q => e q.1), fun c => absurd c (by decide)⟩) (fun e1 => ⟨fun c => absurd rfl c, fun _ => ?_⟩))
  refine sp_areNoBrooks hI.bC (by omega) (fun e => ⟨fun _ => bad0 (fun q => e q.2.1), fun c => absurd c (by decide)⟩) (fun e2 => ⟨fun c => absurd rfl c, fun _ => ?_⟩)
  refine sp_areNoDraws hI.lnC.1 (by omega) (fun e => ⟨fun c => absurd c (by decide), fun _ => bad0 (fun q => e q.2.2)⟩) (fun e3 => ⟨fun _ => ?_, fun c => absurd rfl c⟩)
  have hok : okBits V v1 v2 v3 := ⟨e1, e2, e3⟩
  obtain ⟨⟨a1, b1⟩, ⟨a2, b2⟩, a3, b3, b4⟩ := hok.nat hI.ok
  have h' : ∀ M', Keep M M' → k (mI (zi (coF V (tn v1) (tn v2) (tn v3) 1001 0))) M' := fun M' f => by
    have h0 := h M' f
    unfold coolsV at h0
    rw [if_neg (fun q => q hok)] at h0
    exact h0
  have key : ∀ m w M1, w + m = 1001 → Keep M M1 → coF V (tn v1) (tn v2) (tn v3) m w = coF V (tn v1) (tn v2) (tn v3) 1001 0 → jJ kB_X7_cools (d + 5) k 3 [mR 7 0 14, mI v1, mI v2, mI v3, mI (nI w)] [] M1 := by
    intro m
    induction m with
    | zero =>
      intro w M1 hw f e
      refine v_X7_cools_3 _ _ _ _ (iflt (a := 1000) (b := w) (by omega) (by omega) (fun _ => ?_) (fun c => by omega))
      have h9 := h' M1 f
      rw [← e] at h9
      exact h9
    | succ m ih =>
      intro w M1 hw f e
      have hI1 := hI.keep f
      refine v_X7_cools_3 _ _ _ _ (iflt (a := 1000) (b := w) (by omega) (by omega) (fun c => by omega) (fun _ => ?_))
      refine wpD_at (as' := [mR 0 0 23, mI (zi (w : Int)), mI (nI (tn v1)), mI (nI (tn v2)), mI (nI (tn v3))]) (by rw [← a1, ← a2, ← a3, nI_zi]) ?_
      refine c_follow hI1 ⟨by omega, by omega⟩ b1 b2 b4 (fun M2 f2 e4 => ?_)
      have hlt := wrN_lt (G := vG V) (L := tn v2) (D := tn v3) (hour := tn v1) (w := (w : Int)) b3
      have h512 : 2 ^ vn V ≤ 512 := Nat.pow_le_pow_right (by decide) (show vn V ≤ 9 by omega)
      show (_ ∧ _)
      rw [e4.2.2.2]
      rw [coF] at e
      refine ⟨fun c5 => ?_, fun c5 => ?_⟩
      · have : wrN (vG V) (tn v2) (tn v3) (tn v1) w (vn V) ≠ 0 := fun q => c5 (by rw [q]; rfl)
        rw [decide_eq_false this] at e
        rw [nI_1]
        exact ih (w + 1) M2 (by omega) (f.trans f2) (by simpa using e)
      · have : wrN (vG V) (tn v2) (tn v3) (tn v1) w (vn V) = 0 := nI_inj (by omega) (by decide) c5
        rw [decide_eq_true this] at e
        have h9 := h' M2 (f.trans f2)
        rw [← e] at h9
        simp only [if_true] at h9
        rw [zi_nI] at h9
        exact h9
  exact key 1001 0 M (by omega) (Keep.rfl' M) rfl
theorem cm_cools {d : Nat} {k : mQ} {M : mM} {V : AV} {c K : Nat} {p : Nat → Nat} {v1 v2 v3 : Int32} (hI : InvP V c p K M) (h : ∀ M', Keep M M' → k (mI (coolsV V v1 v2 v3)) M') : wpD mB mNL (d + 4) zX8_cools [mR 8 0 0, mI v1, mI v2, mI v3] M k := by
  obtain ⟨o1, o2, o3, o4, -⟩ := hI.ok
  have bad0 : ¬ okBits V v1 v2 v3 → k (mI (-2)) M := fun e => by
    have h0 := h M (Keep.rfl' M)
    unfold coolsV at h0
    rw [if_pos e] at h0
    exact h0
  refine v_X8_cools_0 _ _ _ (sp_areBitsC hI.lnP.1 hI.bM (by omega) (by omega) (fun e2 => ⟨fun c => absurd rfl c, fun _ => bad0 e2⟩) (fun hok => ⟨fun _ => ?_, fun c => absurd c (by decide)⟩))
  obtain ⟨⟨a1, b1⟩, ⟨a2, b2⟩, a3, b3, b4⟩ := hok.nat hI.ok
  have h' : ∀ M', Keep M M' → k (mI (zi (coF V (tn v1) (tn v2) (tn v3) 1001 0))) M' := fun M' f => by
    have h0 := h M' f
    unfold coolsV at h0
    rw [if_neg (fun q => q hok)] at h0
    exact h0
  have key : ∀ m w M1, w + m = 1001 → Keep M M1 → LnM (vG V) M1 (vn V) → coF V (tn v1) (tn v2) (tn v3) m w = coF V (tn v1) (tn v2) (tn v3) 1001 0 → jJ kB_X8_cools (d + 3) k 2 [mR 8 0 0, mI v1, mI v2, mI v3, mI (nI w)] [] M1 := by
    intro m
    induction m with
    | zero =>
      intro w M1 hw f l e
      refine v_X8_cools_2 _ _ _ _ (iflt (a := 1000) (b := w) (by omega) (by omega) (fun _ => ?_) (fun c => by omega))
      have h9 := h' M1 f
      rw [← e] at h9
      exact h9
    | succ m ih =>
      intro w M1 hw f l e
      have hI1 := hI.keep f
      refine v_X8_cools_2 _ _ _ _ (iflt (a := 1000) (b := w) (by omega) (by omega) (fun c => by omega) (fun _ => ?_))
      refine wpD_at (as' := [mR 8 0 0, mI (nI (tn v1)), mI (nI (tn v2)), mI (nI (tn v3)), mI (zi (w : Int))]) (by rw [← a1, ← a2, ← a3, nI_zi]) ?_
      refine m_go hI1 l ⟨by omega, by omega⟩ b1 b2 b4 (fun M2 f2 e4 => ?_)
      have l2 : LnM (vG V) M2 (vn V) := l.of (e4.1.1 0 9 (ngo0 (by omega))) (fun j => e4.1.1 6 j (ngo (by decide) (by decide) (by decide)))
      obtain ⟨⟨-, g2, g3, -⟩, -⟩ := e4
      have bsv := svN_lt (vG V) (tn v2) (tn v3) (tn v1) (w : Int) (vn V)
      have bhm := hmN_lt (vG V) (tn v2) (tn v3) (tn v1) (w : Int) (vn V)
      have h512 : 2 ^ vn V ≤ 512 := Nat.pow_le_pow_right (by decide) (show vn V ≤ 9 by omega)
      rw [coF] at e
      have no : ¬ okP (vG V) (vn V) (tn v1) w (tn v2) (tn v3) → jJ kB_X8_cools (d + 3) k 2 [mR 8 0 0, mI v1, mI v2, mI v3, mI (nI w + 1)] [] M2 := fun q => by
        have : wrN (vG V) (tn v2) (tn v3) (tn v1) w (vn V) ≠ 0 := fun q2 => q ((wrN_0 b3).mp q2)
        rw [decide_eq_false this] at e
        rw [nI_1]
        exact ih (w + 1) M2 (by omega) (f.trans f2) l2 (by simpa using e)
      show (_ ∧ _)
      rw [g2, g3]
      refine ⟨fun c5 => no (fun q => c5 (by rw [q.1]; rfl)), fun c5 => ⟨fun c6 => no (fun q => c6 (by rw [q.2, ← a3])), fun c6 => ?_⟩⟩
      have x1 : hmN (vG V) (tn v2) (tn v3) (tn v1) w (vn V) = 0 := nI_inj (by omega) (by decide) c5
      have x2 : svN (vG V) (tn v2) (tn v3) (tn v1) w (vn V) = tn v3 := nI_inj (by omega) (by omega) (by rw [c6, ← a3])
      rw [decide_eq_true ((wrN_0 b3).mpr ⟨x1, x2⟩)] at e
      have h9 := h' M2 (f.trans f2)
      rw [← e] at h9
      simp only [if_true] at h9
      rw [zi_nI] at h9
      exact h9
  refine m_asLane hI (fun M1 f1 l1 => key 1001 0 M1 (by omega) f1 l1 rfl)
end
section
/-! CALLS: best, house, told -/
theorem SFr.keep {M M' : mM} (f : SFr M M') : Keep M M' := fun k j q => f k j (by
  unfold scr at q
  omega)
theorem lb_keep {M M' : mM} (f : ∀ k j, ¬ lbC k j → M' k j = M k j) : Keep M M' := fun k j q => f k j (fun c => q (lbC_scr c))
/-- the best plan of the lane as it is -/
def PlanR (V : AV) (hour : Nat) (W : Int) (L D : Nat) : Prop := IsB (vG V) (vn V) (vb V) hour (gS (vG V) 1) W L D
theorem PlanR.one {V : AV} {hour : Nat} {W W' : Int} {L D L' D' : Nat} (hV : VOK V) (h : PlanR V hour W L D) (h' : PlanR V hour W' L' D') : W = W' ∧ L = L' ∧ D = D' := IsB.one hV.1 hV.2.2.2.1 h h'
theorem IsB.bd {G : LG} {n b m hour : Nat} {w W : Int} {L D : Nat} (hR : Rng (gS G) (gK G)) (hLR : LR G n m) (hn : n ≤ 9) (h : IsB G n b hour w W L D) : -6 ≤ W ∧ W ≤ 1000 ∧ (W < 0 ↔ W = -6) ∧ L < 2 ^ b ∧ D < 2 ^ n := by
  have p1 : 0 < 2 ^ b := Nat.pow_pos (by decide)
  have p2 : 0 < 2 ^ n := Nat.pow_pos (by decide)
  rcases h with ⟨h1, h2, h3, -⟩ | ⟨-, h2, h3, -⟩
  · exact ⟨by omega, by omega, by omega, by omega, by omega⟩
  · have := wtS_bd (S := D) hR hLR n (Nat.le_refl n)
    exact ⟨by omega, by omega, by omega, h2.1, h2.2⟩
theorem m_layBest {d : Nat} {k : mQ} {M : mM} {V : AV} {c K : Nat} {p : Nat → Nat} {hour : Nat} (hI : InvP V c p K M) (hLn : LnM (vG V) M (vn V)) (hh : hour < 6)
    (h : ∀ W L D M', Keep M M' → LnM (vG V) M' (vn V) → PlanR V hour W L D → M' 0 17 = nI (512 * L + D) → k (mI (zi W)) M') : wpD mB mNL (d + 3) zX8_layBest [mR 8 0 0, mI (nI hour)] M k := by
  obtain ⟨o1, o2, o3, o4, -⟩ := hI.ok
  refine sp_layBest o1 hI.hydM hLn (by omega) hI.bM o4 o3 hh (fun W L D M' hB f e => h W L D M' (lb_keep f) (hLn.of (f 0 9 ?_) (fun j => f 6 j ?_)) hB e)
  · unfold lbC goC; omega
  · unfold lbC goC; omega
def BestR (V : AV) (v1 v2 x : Int32) : Prop := (¬ ((0 ≤ v1.toInt ∧ v1.toInt ≤ 5) ∧ (0 ≤ v2.toInt ∧ v2.toInt ≤ 2)) ∧ x = -2) ∨
  (((0 ≤ v1.toInt ∧ v1.toInt ≤ 5) ∧ (0 ≤ v2.toInt ∧ v2.toInt ≤ 2)) ∧ ∃ W L D, PlanR V (tn v1) W L D ∧ x = if W = -6 then zi W else if v2.toInt = 0 then zi W else if v2.toInt = 1 then nI L else nI D)
theorem BestR.one {V : AV} {v1 v2 x y : Int32} (hV : VOK V) (h : BestR V v1 v2 x) (h' : BestR V v1 v2 y) : x = y := by
  rcases h with ⟨h1, h2⟩ | ⟨h1, W, L, D, h2, h3⟩ <;> rcases h' with ⟨g1, g2⟩ | ⟨g1, W', L', D', g2, g3⟩
  · rw [h2, g2]
  · exact absurd g1 h1
  · exact absurd h1 g1
  · obtain ⟨rfl, rfl, rfl⟩ := PlanR.one hV h2 g2
    rw [h3, g3]
theorem li2 : (2 : Int32).toInt = 2 := by decide
theorem lim1 : (-1 : Int32).toInt = -1 := by decide
theorem li5 : (5 : Int32).toInt = 5 := by decide
theorem cx_best {d : Nat} {k : mQ} {M : mM} {V : AV} {c K : Nat} {p : Nat → Nat} {v1 v2 : Int32} (hI : InvP V c p K M) (h : ∀ M' x, Keep M M' → BestR V v1 v2 x → k (mI x) M') : wpD mB mNL (d + vn V + 10) zX7_best [mR 7 0 14, mI v1, mI v2] M k := by
  obtain ⟨o1, o2, o3, o4, -⟩ := hI.ok
  have bad : ¬ ((0 ≤ v1.toInt ∧ v1.toInt ≤ 5) ∧ (0 ≤ v2.toInt ∧ v2.toInt ≤ 2)) → k (mI (-2)) M := fun e => h M (-2) (Keep.rfl' M) (Or.inl ⟨e, rfl⟩)
  refine v_X7_best_0 _ _ (sp_isNoHour (d := d + vn V + 8) (fun e => ⟨fun _ => bad (fun q => e q.1), fun c => absurd c (by decide)⟩) (fun e1 => ⟨fun c => absurd rfl c, fun _ => ?_⟩))
  simp only [lt_zi, le_zi, li0, li2]
  refine ⟨fun c => bad (by omega), fun c1 => ⟨fun c2 => ?_, fun c => bad (by omega)⟩⟩
  have hok : (0 ≤ v1.toInt ∧ v1.toInt ≤ 5) ∧ (0 ≤ v2.toInt ∧ v2.toInt ≤ 2) := ⟨e1, by omega, c2⟩
  have a1 : v1 = nI (tn v1) := tn_eq e1.1
  have b1 : tn v1 < 6 := tn_lt e1.1 (by omega)
  refine wpD_at (as' := [mR 7 0 14, mI (nI (tn v1))]) (by rw [← a1]) ?_
  refine sp_planAsItIs o1 hI.hydC hI.lnC hI.bC o2.2 o4 o3 b1 (fun M1 W L D f hB g1 g2 g3 g4 => ?_)
  show (_ ∧ _)
  rw [g1, show (-6 : Int32) = zi (-6) from rfl, zi_eq (by omega) (by omega) (by decide) (by decide)]
  refine ⟨fun c => h M1 _ f.keep (Or.inr ⟨hok, W, L, D, hB, by rw [if_pos c]⟩), fun c => ?_⟩
  obtain ⟨g5, g6, -⟩ := g4 c
  have q0 : v2 = 0 ↔ v2.toInt = 0 := lit (n := 0) (by decide)
  have q1 : v2 = 1 ↔ v2.toInt = 1 := lit (n := 1) (by decide)
  rw [q0, q1, g5, g6]
  refine ⟨fun c3 => ⟨fun c4 => ?_, fun c4 => ?_⟩, fun c3 => ?_⟩ <;> refine h M1 _ f.keep (Or.inr ⟨hok, W, L, D, hB, ?_⟩)
  · rw [if_neg c, if_neg c3, if_neg c4]
  · rw [if_neg c, if_neg c3, if_pos c4]
  · rw [if_neg c, if_pos c3]
theorem m_code {L D : Nat} (hL : L < 16) (hD : D < 512) : nI (512 * L + D) >>> ((9 : Int32) &&& 31) = nI L ∧ nI (512 * L + D) &&& 511 = nI D := by
  constructor
  · have := nI_shr (a := 512 * L + D) (n := 9) (by omega) (by decide)
    rw [show (9 : Int32) = nI 9 from rfl, this]
    congr 1
    omega
  · rw [show (511 : Int32) = nI 511 from rfl, nI_and]
    congr 1
    rw [show (511 : Nat) = 2 ^ 9 - 1 from rfl, Nat.and_two_pow_sub_one_eq_mod]
    omega
theorem cm_best {d : Nat} {k : mQ} {M : mM} {V : AV} {c K : Nat} {p : Nat → Nat} {v1 v2 : Int32} (hI : InvP V c p K M) (h : ∀ M' x, Keep M M' → BestR V v1 v2 x → k (mI x) M') : wpD mB mNL (d + 5) zX8_best [mR 8 0 0, mI v1, mI v2] M k := by
  obtain ⟨o1, o2, o3, o4, -⟩ := hI.ok
  have bad : ¬ ((0 ≤ v1.toInt ∧ v1.toInt ≤ 5) ∧ (0 ≤ v2.toInt ∧ v2.toInt ≤ 2)) → k (mI (-2)) M := fun e => h M (-2) (Keep.rfl' M) (Or.inl ⟨e, rfl⟩)
  refine v_X8_best_0 _ _ (sp_inC (fun e => ⟨fun _ => bad (fun q => e (by rw [li0, li5]; exact q.1)), fun c => absurd rfl c⟩) (fun e1 => ⟨fun c => absurd c (by decide), fun _ => ?_⟩))
  refine sp_inC (fun e => ⟨fun c => absurd rfl c, fun _ => bad (fun q => e (by rw [li0, li2]; exact q.2))⟩) (fun e2 => ⟨fun _ => ?_, fun c => absurd c (by decide)⟩)
  rw [li0, li5] at e1
  rw [li0, li2] at e2
  have hok : (0 ≤ v1.toInt ∧ v1.toInt ≤ 5) ∧ (0 ≤ v2.toInt ∧ v2.toInt ≤ 2) := ⟨e1, e2⟩
  have a1 : v1 = nI (tn v1) := tn_eq e1.1
  have b1 : tn v1 < 6 := tn_lt e1.1 (by omega)
  refine m_asLane hI (fun M1 f1 l1 => ?_)
  refine wpD_at (as' := [mR 8 0 0, mI (nI (tn v1))]) (by rw [← a1]) ?_
  refine m_layBest (hI.keep f1) l1 b1 (fun W L D M2 f2 l2 hB e17 => ?_)
  have f := f1.trans f2
  obtain ⟨w1, w2, w3, w4, w5⟩ := IsB.bd o1 o4 (by omega) hB
  have p1 : 2 ^ vb V ≤ 2 ^ 4 := Nat.pow_le_pow_right (by decide) o3
  have p2 : 2 ^ vn V ≤ 2 ^ 8 := Nat.pow_le_pow_right (by decide) o2.2
  obtain ⟨m1, m2⟩ := m_code (L := L) (D := D) (by omega) (by omega)
  have q0 : v2 = 0 ↔ v2.toInt = 0 := lit (n := 0) (by decide)
  have q1 : v2 = 1 ↔ v2.toInt = 1 := lit (n := 1) (by decide)
  show (_ ∧ _)
  rw [show (0 : Int32) = zi 0 from rfl, zi_lt (by omega) (by omega) (by decide) (by decide), w3, show zi 0 = (0 : Int32) from rfl, q0, q1, e17, m1, m2]
  refine ⟨fun c => h M2 _ f (Or.inr ⟨hok, W, L, D, hB, by rw [if_pos c]⟩), fun c => ?_⟩
  refine ⟨fun c3 => ⟨fun c4 => ?_, fun c4 => ?_⟩, fun c3 => ?_⟩ <;> refine h M2 _ f (Or.inr ⟨hok, W, L, D, hB, ?_⟩)
  · rw [if_neg c, if_neg c3, if_neg c4]
  · rw [if_neg c, if_neg c3, if_pos c4]
  · rw [if_neg c, if_pos c3]
def houseV (V : AV) (v1 v2 : Int32) : Int32 := if ¬ (0 ≤ v1.toInt ∧ v1.toInt < vn V) then -1 else if v2.toInt = 0 then nI (kdH (vG V) (tn v1)) else if v2.toInt = 1 then zi (loH (vG V) (tn v1)) else if v2.toInt = 2 then zi (brH (vG V) (tn v1)) else -2
theorem cx_house {d : Nat} {k : mQ} {M : mM} {V : AV} {c K : Nat} {p : Nat → Nat} {v1 v2 : Int32} (hI : InvP V c p K M) (h : k (mI (houseV V v1 v2)) M) : wpD mB mNL (d + 4) zX7_house [mR 7 0 14, mI v1, mI v2] M k := by
  obtain ⟨o1, o2, o3, o4, -⟩ := hI.ok
  unfold houseV at h
  refine v_X7_house_0 _ _ (sp_isNoHouse hI.lnC.1 (by omega) (fun e => ⟨fun c => absurd c (by decide), fun _ => ?_⟩) (fun e => ⟨fun _ => ?_, fun c => absurd rfl c⟩))
  · rw [if_pos e] at h; exact h
  · rw [if_neg (fun q => q e)] at h
    have a1 : v1 = nI (tn v1) := tn_eq e.1
    have b1 : tn v1 < vn V := tn_lt e.1 e.2
    obtain ⟨l1, l2, l3⟩ := hI.lnC.2 (tn v1) b1
    refine ⟨fun c => ?_, fun c => ?_, fun c => ?_, fun c => ?_, trivial⟩
    · rw [if_neg (by omega), if_neg (by omega), if_neg (by omega)] at h; exact h
    · rw [if_pos c, ← l1] at h
      exact wpD_at (as' := [mR 2 0 38, mI (nI (tn v1))]) (by rw [← a1]) (sp_kindOf (by omega) h)
    · rw [if_neg (by omega), if_pos c, ← l2] at h
      exact wpD_at (as' := [mR 2 0 38, mI (nI (tn v1))]) (by rw [← a1]) (sp_lossAheadOf (by omega) h)
    · rw [if_neg (by omega), if_neg (by omega), if_pos c, ← l3] at h
      exact wpD_at (as' := [mR 2 0 38, mI (nI (tn v1))]) (by rw [← a1]) (sp_brookAheadOf (by omega) h)
theorem nI_pre1 {n : Nat} (h : 1 ≤ n) (h2 : n < 2147483648) : (nI n - 1).toInt = (n : Int) - 1 := by
  rw [nI_zi, show (1 : Int32) = zi 1 from rfl, zi_sub, zi_toInt (by omega) (by omega)]
theorem cm_house {d : Nat} {k : mQ} {M : mM} {V : AV} {c K : Nat} {p : Nat → Nat} {v1 v2 : Int32} (hI : InvP V c p K M) (h : k (mI (houseV V v1 v2)) M) : wpD mB mNL (d + 2) zX8_house [mR 8 0 0, mI v1, mI v2] M k := by
  obtain ⟨o1, o2, o3, o4, -⟩ := hI.ok
  unfold houseV at h
  refine v_X8_house_0 _ _ ?_
  rw [hI.lnP.1]
  refine sp_inC (fun e => ⟨fun c => absurd rfl c, fun _ => ?_⟩) (fun e => ⟨fun _ => ?_, fun c => absurd c (by decide)⟩) <;> rw [li0, nI_pre1 o2.1 (by omega)] at e
  · rw [if_pos (by omega)] at h; exact h
  · rw [if_neg (by omega)] at h
    have a1 : v1 = nI (tn v1) := tn_eq e.1
    have b1 : tn v1 < vn V := tn_lt e.1 (by omega)
    obtain ⟨l1, l2, l3⟩ := hI.lnP.2 (tn v1) b1
    refine sp_inC (fun e2 => ⟨fun _ => ?_, fun c => absurd rfl c⟩) (fun e2 => ⟨fun c => absurd c (by decide), fun _ => ?_⟩) <;> rw [li0, li2] at e2
    · rw [if_neg (by omega), if_neg (by omega), if_neg (by omega)] at h; exact h
    · have a2 : v2 = nI (tn v2) := tn_eq e2.1
      have b2 : tn v2 < 3 := tn_lt e2.1 (by omega)
      have e3 : (3 : Int32) * v1 + v2 = nI (3 * tn v1 + tn v2) := by
        rw [show (3 : Int32) = nI 3 from rfl]
        conv => lhs; rw [a1, a2]
        rw [pk_mul, nI_add]
      refine ⟨vpn _ e3 (by omega) (by decide), ?_⟩
      rw [cln _ e3 (by omega)]
      have t2 : (tn v2 : Int) = v2.toInt := by unfold tn; omega
      rcases (by omega : tn v2 = 0 ∨ tn v2 = 1 ∨ tn v2 = 2) with e4 | e4 | e4 <;> rw [e4]
      · rw [if_pos (by omega), ← l1] at h; exact h
      · rw [if_neg (by omega), if_pos (by omega), ← l2] at h; exact h
      · rw [if_neg (by omega), if_neg (by omega), if_pos (by omega), ← l3] at h; exact h
def toldV (V : AV) (c : Nat) (v : Int32) : Int32 := if 10 ≤ v.toInt ∧ v.toInt ≤ 14 then zi (gS (vG V) (tn v - 10)) else
  if 20 ≤ v.toInt ∧ v.toInt ≤ 69 ∧ tn v % 10 < 6 then zi (gK (vG V) (6 * (tn v / 10 - 2) + tn v % 10)) else
  if v.toInt = 0 then nI c else if v.toInt = 1 then nI (vn V) else if v.toInt = 2 then nI (vb V) else if v.toInt = 3 then nI (vf V) else -2
theorem dg {m : Nat} (h : m < 70) : nI m - nI m / 10 * 10 = nI (m % 10) ∧ nI m / 10 = nI (m / 10) := by
  have : ∀ m, m < 70 → nI m - nI m / 10 * 10 = nI (m % 10) ∧ nI m / 10 = nI (m / 10) := by decide
  exact this m h
theorem dg2 {m : Nat} (h : m < 8) (h2 : 2 ≤ m) : nI m - 2 = nI (m - 2) := by
  have : ∀ m, m < 8 → 2 ≤ m → nI m - 2 = nI (m - 2) := by decide
  exact this m h h2
theorem cx_told {d : Nat} {k : mQ} {M : mM} {V : AV} {c K : Nat} {p : Nat → Nat} {v1 : Int32} (hI : InvP V c p K M) (h : k (mI (toldV V c v1)) M) : wpD mB mNL (d + 4) zX7_told [mR 7 0 14, mI v1] M k := by
  obtain ⟨o1, o2, o3, o4, -⟩ := hI.ok
  obtain ⟨h1, ⟨-, -, -, h42, -⟩, h3, ⟨h4, h5, h6, h7⟩, -⟩ := id hI
  have l10 : (10 : Int32).toInt = 10 := by decide
  have l14 : (14 : Int32).toInt = 14 := by decide
  have l20 : (20 : Int32).toInt = 20 := by decide
  have l69 : (69 : Int32).toInt = 69 := by decide
  unfold toldV at h
  have four : ¬ (10 ≤ v1.toInt ∧ v1.toInt ≤ 14) → ¬ (20 ≤ v1.toInt ∧ v1.toInt ≤ 69 ∧ tn v1 % 10 < 6) → ∀ u, jJ kB_X7_told (d + 3) k 4 [mR 7 0 14, mI v1, u] [] M := fun c1 c2 u => by
    rw [if_neg c1, if_neg c2] at h
    refine v_X7_told_4 _ _ ⟨fun c => ?_, fun c => ?_, fun c => ?_, fun c => ?_, fun c => ?_, trivial⟩
    · rw [if_neg (by omega), if_neg (by omega), if_neg (by omega), if_neg (by omega)] at h; exact h
    · rw [if_pos c] at h; rw [h5]; exact h
    · rw [if_neg (by omega), if_pos c] at h; rw [hI.lnC.1]; exact h
    · rw [if_neg (by omega), if_neg (by omega), if_pos c] at h; rw [hI.bC]; exact h
    · rw [if_neg (by omega), if_neg (by omega), if_neg (by omega), if_pos c] at h
      rw [show M 42 0 = nI (vf V) from h42]; exact h
  have one : ¬ (10 ≤ v1.toInt ∧ v1.toInt ≤ 14) → ∀ u, jJ kB_X7_told (d + 3) k 1 [mR 7 0 14, mI v1, u] [] M := fun c1 u => by
    refine v_X7_told_1 _ _ ?_
    simp only [lt_zi, l20, l69]
    refine ⟨fun c => four c1 (by omega) _, fun c2 => ⟨fun c => four c1 (by omega) _, fun c3 => ⟨by decide, ?_⟩⟩⟩
    have a1 : v1 = nI (tn v1) := tn_eq (by omega)
    have b1 : tn v1 < 70 := tn_lt (by omega) (by omega)
    have b2 : 20 ≤ tn v1 := by unfold tn; omega
    obtain ⟨g1, g2⟩ := dg b1
    rw [← a1] at g1 g2
    have g3 : tn v1 % 10 < 10 := Nat.mod_lt _ (by decide)
    have g4 : (v1 - v1 / 10 * 10).toInt = (tn v1 % 10 : Nat) := by rw [g1, nI_ti (by omega)]
    rw [if_neg c1] at h
    refine sp_isNoKind (fun e => ⟨fun c => absurd c (by decide), fun _ => ?_⟩) (fun e => ⟨fun _ => ⟨by decide, ?_⟩, fun c => absurd rfl c⟩) <;> rw [g4] at e
    · rw [if_neg (by omega), if_neg (by omega), if_neg (by omega), if_neg (by omega), if_neg (by omega)] at h; exact h
    · rw [if_pos ⟨by omega, by omega, by omega⟩] at h
      refine wpD_at (as' := [mR 6 0 35, mI (nI (tn v1 / 10 - 2)), mI (nI (tn v1 % 10))]) (by rw [g1, g2, dg2 (by omega) (by omega)]) ?_
      exact sp_kindZ (o := 35) hI.hydC (by omega) (by omega) h
  refine v_X7_told_0 _ ?_
  simp only [lt_zi, l10, l14]
  refine ⟨fun c => one (by omega) _, fun c1 => ⟨fun c => one (by omega) _, fun c2 => ?_⟩⟩
  have a1 : v1 = nI (tn v1) := tn_eq (by omega)
  have b1 : tn v1 < 15 := tn_lt (by omega) (by omega)
  have b2 : 10 ≤ tn v1 := by unfold tn; omega
  rw [if_pos (by omega)] at h
  have : ∀ m, m < 15 → 10 ≤ m → nI m - 10 = nI (m - 10) := by decide
  refine wpD_at (as' := [mR 6 0 35, mI (nI (tn v1 - 10))]) (by rw [← this _ b1 b2, ← a1]) ?_
  exact sp_springZ (o := 35) hI.hydC (by omega) h
theorem cm_told {d : Nat} {k : mQ} {M : mM} {V : AV} {c K : Nat} {p : Nat → Nat} {v1 : Int32} (hI : InvP V c p K M) (h : k (mI (toldV V c v1)) M) : wpD mB mNL (d + 2) zX8_told [mR 8 0 0, mI v1] M k := by
  obtain ⟨o1, o2, o3, o4, -⟩ := hI.ok
  obtain ⟨h1, -, ⟨-, -, -, -, -, h07, -⟩, ⟨h4, h5, h6, h7⟩, -⟩ := id hI
  have l10 : (10 : Int32).toInt = 10 := by decide
  have l14 : (14 : Int32).toInt = 14 := by decide
  have l20 : (20 : Int32).toInt = 20 := by decide
  have l69 : (69 : Int32).toInt = 69 := by decide
  unfold toldV at h
  have two : ¬ (10 ≤ v1.toInt ∧ v1.toInt ≤ 14) → ¬ (20 ≤ v1.toInt ∧ v1.toInt ≤ 69 ∧ tn v1 % 10 < 6) → ∀ u, jJ kB_X8_told (d + 1) k 2 [mR 8 0 0, mI v1, mI u] [] M := fun c1 c2 u => by
    rw [if_neg c1, if_neg c2] at h
    have q0 : v1 = 0 ↔ v1.toInt = 0 := lit (n := 0) (by decide)
    have q1 : v1 = 1 ↔ v1.toInt = 1 := lit (n := 1) (by decide)
    have q2 : v1 = 2 ↔ v1.toInt = 2 := lit (n := 2) (by decide)
    have q3 : v1 = 3 ↔ v1.toInt = 3 := lit (n := 3) (by decide)
    refine v_X8_told_2 _ _ ?_
    rw [q0, q1, q2, q3, h6, hI.lnP.1, hI.bM, h07]
    refine ⟨fun e0 => ⟨fun e1 => ⟨fun e2 => ⟨fun e3 => ?_, fun e3 => ?_⟩, fun e2 => ?_⟩, fun e1 => ?_⟩, fun e0 => ?_⟩
    · rw [if_neg e0, if_neg e1, if_neg e2, if_neg e3] at h; exact h
    · rw [if_neg e0, if_neg e1, if_neg e2, if_pos e3] at h; exact h
    · rw [if_neg e0, if_neg e1, if_pos e2] at h; exact h
    · rw [if_neg e0, if_pos e1] at h; exact h
    · rw [if_pos e0] at h; exact h
  refine v_X8_told_0 _ ⟨by decide, sp_inC (fun e1 => ⟨fun _ => ?_, fun c => absurd rfl c⟩) (fun e1 => ⟨fun c => absurd c (by decide), fun _ => ?_⟩)⟩ <;> rw [l10, l14] at e1
  · refine sp_inC (fun e2 => ⟨fun _ => ?_, fun c => absurd rfl c⟩) (fun e2 => ⟨fun c => absurd c (by decide), fun _ => ?_⟩) <;> rw [l20, l69] at e2
    · exact two e1 (by omega) _
    · have a1 : v1 = nI (tn v1) := tn_eq (by omega)
      have b1 : tn v1 < 70 := tn_lt (by omega) (by omega)
      have b2 : 20 ≤ tn v1 := by unfold tn; omega
      obtain ⟨g1, g2⟩ := dg b1
      rw [← a1] at g1 g2
      have g3 : tn v1 % 10 < 10 := Nat.mod_lt _ (by decide)
      have g4 : (v1 - v1 / 10 * 10).toInt = (tn v1 % 10 : Nat) := by rw [g1, nI_ti (by omega)]
      refine sp_inC (fun e3 => ⟨fun _ => ?_, fun c => absurd rfl c⟩) (fun e3 => ⟨fun c => absurd c (by decide), fun _ => ⟨by decide, ?_⟩⟩) <;> rw [g4, li0, li5] at e3
      · exact two e1 (by omega) _
      · have e6 : (6 : Int32) * (v1 / 10 - 2) + (v1 - v1 / 10 * 10) = nI (6 * (tn v1 / 10 - 2) + tn v1 % 10) := by
          rw [g1, g2, dg2 (by omega) (by omega), show (6 : Int32) = nI 6 from rfl, pk_mul, nI_add]
        refine ⟨vpn _ e6 (by omega) (by decide), ?_⟩
        rw [cln _ e6 (by omega), hI.hydM.2 _ (by omega)]
        rw [if_neg e1, if_pos ⟨by omega, by omega, by omega⟩] at h
        exact h
  · have a1 : v1 = nI (tn v1) := tn_eq (by omega)
    have b1 : tn v1 < 15 := tn_lt (by omega) (by omega)
    have b2 : 10 ≤ tn v1 := by unfold tn; omega
    obtain ⟨g1, g2⟩ := dg (m := tn v1) (by omega)
    rw [← a1] at g1
    refine ⟨vpn _ g1 (by omega) (by decide), ?_⟩
    rw [cln _ g1 (by omega), hI.hydM.1 _ (by omega)]
    rw [if_pos e1, show tn v1 - 10 = tn v1 % 10 by omega] at h
    exact h
end
section
/-! CALLS: put, where -/
/-- a lane's plans are worth w -/
def TG (G : LG) (n b hour : Nat) (w : Int) : Prop := ∃ L X, L < 2 ^ b ∧ X < 2 ^ n ∧ okP G n hour (gS G 1) L X ∧ wtS G X n = w
theorem TG.ge {G : LG} {n b m hour : Nat} {w : Int} (hR : Rng (gS G) (gK G)) (hLR : LR G n m) (h : TG G n b hour w) : 0 ≤ w ∧ w ≤ 99 * (n : Int) := by
  obtain ⟨L, X, -, -, -, rfl⟩ := h
  exact wtS_bd hR hLR n (Nat.le_refl n)
/-- W is the worth of the best (-6: there is none) -/
def TMax (T : Int → Prop) (W : Int) : Prop := (W = -6 ∧ ∀ w, ¬ T w) ∨ (T W ∧ ∀ w, T w → w ≤ W)
theorem TMax.one {T : Int → Prop} {W W' : Int} (h : TMax T W) (h' : TMax T W') : W = W' := by
  rcases h with ⟨h1, h2⟩ | ⟨h1, h2⟩ <;> rcases h' with ⟨g1, g2⟩ | ⟨g1, g2⟩
  · omega
  · exact absurd g1 (h2 _)
  · exact absurd h1 (g2 _)
  · have a := h2 _ g1
    have c := g2 _ h1
    omega
theorem IsB.tmax {G : LG} {n b hour : Nat} {W : Int} {L D : Nat} (h : IsB G n b hour (gS G 1) W L D) : TMax (TG G n b hour) W := by
  rcases h with ⟨h1, -, -, h4⟩ | ⟨h1, h2, h3, h4⟩
  · refine Or.inl ⟨h1, fun w q => ?_⟩
    obtain ⟨L, X, q1, q2, q3, -⟩ := q
    exact h4 L X ⟨q1, q2⟩ q3
  · refine Or.inr ⟨⟨L, D, h2.1, h2.2, h1, h3.symm⟩, fun w q => ?_⟩
    obtain ⟨L', X, q1, q2, q3, q4⟩ := q
    rw [← q4]
    exact (h4 L' X ⟨q1, q2⟩ q3).1
theorem sp_imp {d : Nat} {k : mQ} {M : mM} {G : LG} {hour n b : Nat} {W0 B0 : Int} {D0 : Nat} (hR : Rng (gS G) (gK G)) (hH : Hyd (gS G) (gK G) M 36 37) (hLn : LnC G M 27 n) (h27 : M 27 1 = nI b) (hn : n ≤ 8) (hLR : LR G n b) (hb : b ≤ 4) (hh : hour < 6) (hs : PSt M (W0, B0, D0)) (hbd : PBd (W0, B0, D0))
    (h : ∀ M' r W B D, IFr M M' → PSt M' (W, B, D) → PBd (W, B, D) → ((r = false ∧ W = W0 ∧ ∀ w, TG G n b hour w → w ≤ W0) ∨ (r = true ∧ W0 < W ∧ TG G n b hour W ∧ ∀ w, TG G n b hour w → w ≤ W)) → k (mI (bI r)) M') : wpD mB mNL (d + n + 8) zX5_improve [mR 5 0 26, mI (nI hour)] M k := by
  obtain ⟨b1, b2, b3, b4, b5⟩ := id hbd
  have p1 : 2 ^ b ≤ 2 ^ 4 := Nat.pow_le_pow_right (by decide) hb
  have p2 : 2 ^ n ≤ 2 ^ 8 := Nat.pow_le_pow_right (by decide) hn
  refine sp_improve hR hH hLn h27 hn hLR hb hh hs hbd (fun M' D f hp hD e => h M' false W0 (-6) D f hp ⟨b1, b2, Int.le_refl _, by show (-6 : Int) ≤ 16; decide, hD⟩ (Or.inl ⟨rfl, rfl, fun w q => ?_⟩)) (fun M' W L D f hp e e2 hB hL hD => h M' true W L D f hp ⟨by show -6 ≤ W; have : -6 ≤ W0 := b1; omega, by show W ≤ 2000; omega, by show (-6 : Int) ≤ (L : Int); omega, by show (L : Int) ≤ 16; omega, by show D < 1024; omega⟩ (Or.inr ⟨rfl, e, ?_⟩))
  · obtain ⟨L, X, q1, q2, q3, q4⟩ := q
    rw [← q4]
    exact e L X q1 q2 q3
  · rcases hB.tmax with ⟨q, -⟩ | q
    · have : -6 ≤ W0 := b1
      omega
    · exact q
/-! one house more -/
def insG (G : LG) (c p : Nat) : LG := (gS G, gK G, fun h => if h < p then kdH G h else if h = p then c else kdH G (h - 1), fun h => if h < p then loH G h else if h = p then 0 else loH G (h - 1), fun h => if h < p then brH G h else if h = p then -6 else brH G (h - 1))
theorem insG_LR {G : LG} {c p n b : Nat} (h : LR G n b) (hc : c < 6) (hp : p ≤ n) : LR (insG G c p) (n + 1) b := fun i hi => by
  by_cases e2 : i < p
  · have := h i (by omega)
    simp only [insG, kdH, loH, brH, e2, if_true]
    exact this
  · by_cases e3 : i = p
    · subst e3
      simp only [insG, kdH, loH, brH, Nat.lt_irrefl, if_false, if_true]
      exact ⟨hc, ⟨by decide, by decide⟩, Or.inl trivial⟩
    · have := h (i - 1) (by omega)
      simp only [insG, kdH, loH, brH, e2, e3, if_false]
      exact this
theorem insG_lo {G : LG} {c p i : Nat} (h : i < p) : kdH (insG G c p) i = kdH G i ∧ loH (insG G c p) i = loH G i ∧ brH (insG G c p) i = brH G i := by
  simp only [insG, kdH, loH, brH, h, if_true]
  exact ⟨trivial, trivial, trivial⟩
theorem insG_at {G : LG} {c p : Nat} : kdH (insG G c p) p = c ∧ loH (insG G c p) p = 0 ∧ brH (insG G c p) p = -6 := by
  simp only [insG, kdH, loH, brH, Nat.lt_irrefl, if_false, if_true]
  exact ⟨trivial, trivial, trivial⟩
theorem insG_hi {G : LG} {c p i : Nat} (h : p < i) : kdH (insG G c p) i = kdH G (i - 1) ∧ loH (insG G c p) i = loH G (i - 1) ∧ brH (insG G c p) i = brH G (i - 1) := by
  have e2 : ¬ i < p := by omega
  have e3 : i ≠ p := by omega
  simp only [insG, kdH, loH, brH, e2, e3, if_false]
  exact ⟨trivial, trivial, trivial⟩
theorem nI_dec {j : Nat} : nI (j + 1) - 1 = nI j ∧ nI (j + 1) + (-1) = nI j := by
  have e : ((j + 1 : Nat) : Int) - 1 = j := by omega
  have e' : ((j + 1 : Nat) : Int) + (-1) = j := by omega
  constructor
  · rw [nI_zi, show (1 : Int32) = zi 1 from rfl, zi_sub, e, zi_nI]
  · rw [nI_zi, show (-1 : Int32) = zi (-1) from rfl, zi_add, e', zi_nI]
set_option maxHeartbeats 4000000 in
theorem sp_insertHouse {d : Nat} {k : mQ} {M : mM} {G : LG} {o n c p : Nat} (hLn : LnC G M o n) (hn : n < 8) (hp : p ≤ n)
    (h : ∀ M', (∀ k j, ¬ ((k = o ∧ j = 0) ∨ (o + 1 ≤ k ∧ k ≤ o + 3)) → M' k j = M k j) → LnC (insG G c p) M' o (n + 1) → k none M') : wpD mB mNL (d + 2) zX2_insertHouse [mR 2 0 o, mI (nI c), mI (nI p)] M k := by
  have key : ∀ m j M1, j = p + m → j ≤ n → (∀ k i, ¬ (o + 1 ≤ k ∧ k ≤ o + 3) → M1 k i = M k i) → (∀ r, 1 ≤ r → r ≤ 3 → ∀ i, (i < j → M1 (o + r) i = M (o + r) i) ∧ (j < i → i ≤ n → M1 (o + r) i = M (o + r) (i - 1))) → jJ kB_X2_insertHouse (d + 1) k 2 [mR 2 0 o, mI (nI c), mI (nI p), mI (nI j)] [] M1 := by
    intro m
    induction m with
    | zero =>
      intro j M1 hj hjn hf hr
      have hjp : j = p := by omega
      subst hjp
      refine v_X2_insertHouse_2 _ _ _ _ (ifle (by omega) (by omega) (fun _ => sp_setCell (by omega) (by decide) (sp_setCell (by omega) (by decide) (sp_setCell (by omega) (by decide) ?_))) (fun c => by omega))
      refine h _ (fun k i hk => ?_) ⟨?_, fun i hi => ?_⟩
      · have e1 : ¬ (o + 1 ≤ k ∧ k ≤ o + 3) := fun q => hk (Or.inr q)
        have e2 : ¬ (k = o ∧ i = 0) := fun q => hk (Or.inl q)
        rw [show up _ o 0 _ k i = _ from if_neg e2, up_k (by omega), up_k (by omega), up_k (by omega)]
        exact hf k i e1
      · rw [up_at, up_k (by omega), up_k (by omega), up_k (by omega), hf o 0 (by omega), hLn.1, nI_1]
      · rw [up_k (k' := o + 1) (by omega), up_k (k' := o + 2) (by omega), up_k (k' := o + 3) (by omega)]
        rw [up_k (k := o + 3) (k' := o + 1) (by omega), up_k (k := o + 2) (k' := o + 1) (by omega), up_k (k := o + 3) (k' := o + 2) (by omega)]
        rcases (by omega : i < j ∨ i = j ∨ j < i) with e | e | e
        · rw [up_j (by omega), up_j (by omega), up_k (by omega), up_j (by omega), up_k (by omega), up_k (by omega)]
          rw [((hr 1 (by decide) (by decide) i).1 e), ((hr 2 (by decide) (by decide) i).1 e), ((hr 3 (by decide) (by decide) i).1 e), (insG_lo e).1, (insG_lo e).2.1, (insG_lo e).2.2]
          exact hLn.2 i (by omega)
        · subst e
          rw [up_at, up_at, up_at, insG_at.1, insG_at.2.1, insG_at.2.2]
          exact ⟨rfl, rfl, rfl⟩
        · rw [up_j (by omega), up_j (by omega), up_k (by omega), up_j (by omega), up_k (by omega), up_k (by omega)]
          rw [((hr 1 (by decide) (by decide) i).2 e (by omega)), ((hr 2 (by decide) (by decide) i).2 e (by omega)), ((hr 3 (by decide) (by decide) i).2 e (by omega)), (insG_hi e).1, (insG_hi e).2.1, (insG_hi e).2.2]
          exact hLn.2 (i - 1) (by omega)
    | succ m ih =>
      intro j M1 hj hjn hf hr
      obtain ⟨i, rfl⟩ : ∃ i, j = i + 1 := ⟨p + m, by omega⟩
      refine v_X2_insertHouse_2 _ _ _ _ (ifle (by omega) (by omega) (fun c => by omega) (fun _ => ?_))
      rw [nI_dec.1, nI_dec.2]
      refine sp_cell (by omega) (by decide) (sp_setCell (by omega) (by decide) (sp_cell (by omega) (by decide) (sp_setCell (by omega) (by decide) (sp_cell (by omega) (by decide) (sp_setCell (by omega) (by decide) ?_)))))
      refine ih i _ (by omega) (by omega) (fun k q hk => ?_) (fun r r1 r2 q => ?_)
      · rw [up_k (by omega), up_k (by omega), up_k (by omega)]
        exact hf k q hk
      · have g1 : ∀ r, 1 ≤ r → r ≤ 3 → ∀ q, (up (up (up M1 (o + 1) (i + 1) (M1 (o + 1) i)) (o + 2) (i + 1) (M1 (o + 2) i)) (o + 3) (i + 1) (M1 (o + 3) i)) (o + r) q = if q = i + 1 then M1 (o + r) i else M1 (o + r) q := by
          intro r r1 r2 q
          rcases (by omega : r = 1 ∨ r = 2 ∨ r = 3) with rfl | rfl | rfl <;> simp [up]
        have e2 : (up M1 (o + 1) (i + 1) (M1 (o + 1) i)) (o + 2) i = M1 (o + 2) i := up_k (by omega)
        have e3 : (up (up M1 (o + 1) (i + 1) (M1 (o + 1) i)) (o + 2) (i + 1) (M1 (o + 2) i)) (o + 3) i = M1 (o + 3) i := by rw [up_k (by omega), up_k (by omega)]
        rw [e2, e3, g1 r r1 r2 q]
        refine ⟨fun hq => ?_, fun hq hq2 => ?_⟩
        · rw [if_neg (by omega)]
          exact (hr r r1 r2 q).1 (by omega)
        · by_cases e : q = i + 1
          · rw [if_pos e, e]
            exact (hr r r1 r2 i).1 (by omega)
          · rw [if_neg e]
            exact (hr r r1 r2 q).2 (by omega) hq2
  refine v_X2_insertHouse_0 _ _ _ (sp_isFull hLn.1 (by omega) (ifb (fun _ => ?_) (fun e => absurd (of_decide_eq_true e) (by omega))))
  rw [hLn.1]
  exact key (n - p) n M (by omega) (Nat.le_refl n) (fun _ _ _ => rfl) (fun r r1 r2 i => ⟨fun _ => rfl, fun q1 q2 => by omega⟩)
set_option maxHeartbeats 4000000 in
theorem sp_putAt {d : Nat} {k : mQ} {M : mM} {G : LG} {n c p : Nat} (hP : LnP G M n) (hn : n ≤ 8) (hp : p ≤ n)
    (h : ∀ M', (∀ k j, ¬ (k = 6 ∨ (k = 0 ∧ j = 9)) → M' k j = M k j) → LnM (insG G c p) M' (n + 1) → k none M') : wpD mB mNL (d + 2) zX8_putAt [mR 8 0 0, mI (nI c), mI (nI p)] M k := by
  refine v_X8_putAt_0 _ _ (sp_asLane hP hn (fun M0 f0 l0 => ?_))
  have e4 : M0 0 4 = nI n := by rw [f0 0 4 (by omega)]; exact hP.1
  have E3 : ∀ m, (3 : Int32) * nI m = nI (3 * m) := fun m => by rw [show (3 : Int32) = nI 3 from rfl, pk_mul]
  have key : ∀ m j M1, j = 3 * p + m → j ≤ 3 * n → (∀ k i, k ≠ 6 → M1 k i = M0 k i) → (∀ i, (i < j → M1 6 i = M0 6 i) ∧ (j ≤ i → i < 3 * n → M1 6 (i + 3) = M0 6 i)) → jJ kB_X8_putAt (d + 1) k 1 [mR 8 0 0, mI (nI c), mI (nI p), mI (zi ((j : Int) - 1))] [] M1 := by
    intro m
    induction m with
    | zero =>
      intro j M1 hj hjn hf hr
      have hjp : j = 3 * p := by omega
      subst hjp
      refine v_X8_putAt_1 _ _ _ ?_
      rw [E3, hf 0 4 (by decide), e4]
      have a1 : nI (3 * p) + 1 = nI (3 * p + 1) := nI_1 _
      have a2 : nI (3 * p) + 2 = nI (3 * p + 2) := by rw [show (2 : Int32) = nI 2 from rfl, nI_add]
      rw [a1, a2, nI_clamp (by omega), nI_clamp (by omega), nI_clamp (by omega), nI_1]
      refine ⟨fun _ => ⟨vp_in_nI (by omega) (by decide), vp_in_nI (by omega) (by decide), vp_in_nI (by omega) (by decide), h _ (fun k i hk => ?_) ⟨up_at _ _ _ _, fun i hi => ?_⟩⟩, fun c => absurd ?_ c⟩
      · have e1 : k ≠ 6 := fun q => hk (Or.inl q)
        have e2 : ¬ (k = 0 ∧ i = 9) := fun q => hk (Or.inr q)
        rw [show up _ 0 9 _ k i = _ from if_neg e2, up_k e1, up_k e1, up_k e1, hf k i e1]
        exact f0 k i hk
      · rw [up_k (k := 0) (by decide), up_k (k := 0) (by decide), up_k (k := 0) (by decide)]
        rcases (by omega : i < p ∨ i = p ∨ p < i) with e | e | e
        · rw [up_j (by omega), up_j (by omega), up_j (by omega), up_j (by omega), up_j (by omega), up_j (by omega), up_j (by omega), up_j (by omega), up_j (by omega)]
          rw [(hr _).1 (by omega), (hr _).1 (by omega), (hr _).1 (by omega), (insG_lo e).1, (insG_lo e).2.1, (insG_lo e).2.2]
          exact l0.2 i (by omega)
        · subst e
          rw [up_j (by omega), up_j (by omega), up_at, up_j (by omega), up_at, up_at, insG_at.1, insG_at.2.1, insG_at.2.2]
          exact ⟨rfl, rfl, rfl⟩
        · rw [up_j (by omega), up_j (by omega), up_j (by omega), up_j (by omega), up_j (by omega), up_j (by omega), up_j (by omega), up_j (by omega), up_j (by omega)]
          have x0 : 3 * i = 3 * (i - 1) + 3 := by omega
          have x1 : 3 * i + 1 = 3 * (i - 1) + 1 + 3 := by omega
          have x2 : 3 * i + 2 = 3 * (i - 1) + 2 + 3 := by omega
          rw [x2, x1, x0]
          rw [(hr _).2 (by omega) (by omega), (hr _).2 (by omega) (by omega), (hr _).2 (by omega) (by omega), (insG_hi e).1, (insG_hi e).2.1, (insG_hi e).2.2]
          exact l0.2 (i - 1) (by omega)
      · rw [nI_zi, zi_lt (by omega) (by omega) (by omega) (by omega)]
        omega
    | succ m ih =>
      intro j M1 hj hjn hf hr
      obtain ⟨i, rfl⟩ : ∃ i, j = i + 1 := ⟨3 * p + m, by omega⟩
      have e1 : zi (((i + 1 : Nat) : Int) - 1) = nI i := by rw [nI_zi]; congr 1; omega
      refine v_X8_putAt_1 _ _ _ ?_
      rw [e1, E3]
      refine iflt (by omega) (by omega) (fun c => by omega) (fun _ => ?_)
      have a3 : nI i + 3 = nI (i + 3) := by rw [show (3 : Int32) = nI 3 from rfl, nI_add]
      have a4 : nI i + (-1) = zi ((i : Int) - 1) := by rw [nI_zi, show (-1 : Int32) = zi (-1) from rfl, zi_add]; rfl
      rw [a3, a4, nI_clamp (by omega), nI_clamp (by omega)]
      refine ⟨vp_in_nI (by omega) (by decide), vp_in_nI (by omega) (by decide), ih i _ (by omega) (by omega) (fun k q hk => by rw [up_k hk]; exact hf k q hk) (fun q => ⟨fun hq => ?_, fun hq hq2 => ?_⟩)⟩
      · rw [up_j (by omega)]
        exact (hr q).1 (by omega)
      · by_cases e : q = i
        · rw [e, up_at]
          exact (hr i).1 (by omega)
        · rw [up_j (by omega)]
          exact (hr q).2 (by omega) hq2
  have s : (3 : Int32) * M0 0 4 - 1 = zi (((3 * n : Nat) : Int) - 1) := by rw [e4, E3, nI_zi, show (1 : Int32) = zi 1 from rfl, zi_sub]
  rw [s]
  exact key (3 * n - 3 * p) (3 * n) M0 (by omega) (Nat.le_refl _) (fun _ _ _ => rfl) (fun i => ⟨fun _ => rfl, fun q1 q2 => by omega⟩)

/-! the first of a family whose best is best -/
/-- f: of those of P the one with the least key whose best worth is W, the most of all (W = f = -6: none has any) -/
def Fnd (T : Nat → Int → Prop) (key : Nat → Nat) (P : Nat → Prop) (f W : Int) : Prop := (∀ i, P i → ∀ w, T i w → w ≤ W) ∧ ((W = -6 ∧ f = -6) ∨ (0 ≤ W ∧ ∃ j, P j ∧ f = (j : Int) ∧ T j W ∧ ∀ i, P i → T i W → key j ≤ key i))
theorem Fnd.one {T : Nat → Int → Prop} {key : Nat → Nat} {P : Nat → Prop} {f W f' W' : Int} (hk : ∀ i j, P i → P j → key i = key j → i = j) (h : Fnd T key P f W) (h' : Fnd T key P f' W') : f = f' ∧ W = W' := by
  obtain ⟨h1, h2⟩ := h
  obtain ⟨g1, g2⟩ := h'
  rcases h2 with ⟨a1, a2⟩ | ⟨a1, j, a2, a3, a4, a5⟩ <;> rcases g2 with ⟨c1, c2⟩ | ⟨c1, j', c2, c3, c4, c5⟩
  · omega
  · have := h1 j' c2 _ c4
    omega
  · have := g1 j a2 _ a4
    omega
  · have x1 := h1 j' c2 _ c4
    have x2 := g1 j a2 _ a4
    have e : W = W' := by omega
    subst e
    have y1 := a5 j' c2 c4
    have y2 := c5 j a2 a4
    have := hk j j' a2 c2 (by omega)
    subst this
    exact ⟨by omega, rfl⟩
theorem Fnd.cong {T : Nat → Int → Prop} {key : Nat → Nat} {P P' : Nat → Prop} {f W : Int} (h : Fnd T key P f W) (e : ∀ i, P i ↔ P' i) : Fnd T key P' f W := by
  have : P = P' := funext fun i => propext (e i)
  rw [← this]; exact h
theorem Fnd.none {T : Nat → Int → Prop} {key : Nat → Nat} {P : Nat → Prop} (h : ∀ i, ¬ P i) : Fnd T key P (-6) (-6) := ⟨fun i q => absurd q (h i), Or.inl ⟨rfl, rfl⟩⟩
/-- one that is not better, and no better by its key -/
theorem Fnd.no {T : Nat → Int → Prop} {key : Nat → Nat} {P : Nat → Prop} {f W : Int} {i : Nat} (h : Fnd T key P f W) (hw : ∀ w, T i w → w ≤ W) (hk : ∀ j, P j → f = (j : Int) → T i W → key j ≤ key i) : Fnd T key (fun q => P q ∨ q = i) f W := by
  obtain ⟨h1, h2⟩ := h
  refine ⟨fun q hq w hw' => ?_, ?_⟩
  · rcases hq with hq | rfl
    · exact h1 q hq w hw'
    · exact hw w hw'
  · rcases h2 with a | ⟨a1, j, a2, a3, a4, a5⟩
    · exact Or.inl a
    · refine Or.inr ⟨a1, j, Or.inl a2, a3, a4, fun q hq hT => ?_⟩
      rcases hq with hq | rfl
      · exact a5 q hq hT
      · exact hk j a2 a3 hT
theorem Fnd.yes {T : Nat → Int → Prop} {key : Nat → Nat} {P : Nat → Prop} {f W W' : Int} {i : Nat} (h : Fnd T key P f W) (h0 : 0 ≤ W') (hT : T i W') (hw : ∀ w, T i w → w ≤ W') (hlt : W < W') : Fnd T key (fun q => P q ∨ q = i) (i : Int) W' := by
  obtain ⟨h1, h2⟩ := h
  refine ⟨fun q hq w hw' => ?_, Or.inr ⟨h0, i, Or.inr rfl, rfl, hT, fun q hq hT' => ?_⟩⟩
  · rcases hq with hq | rfl
    · have := h1 q hq w hw'
      omega
    · exact hw w hw'
  · rcases hq with hq | rfl
    · have := h1 q hq _ hT'
      omega
    · exact Nat.le_refl _
theorem Fnd.eq {T : Nat → Int → Prop} {key : Nat → Nat} {P : Nat → Prop} {W : Int} {i j : Nat} (h : Fnd T key P (j : Int) W) (hT : T i W) (hw : ∀ w, T i w → w ≤ W) (hlt : key i < key j) : Fnd T key (fun q => P q ∨ q = i) (i : Int) W := by
  obtain ⟨h1, h2⟩ := h
  rcases h2 with ⟨a1, a2⟩ | ⟨a1, j', a2, a3, a4, a5⟩
  · omega
  · have : j = j' := by omega
    subst this
    refine ⟨fun q hq w hw' => ?_, Or.inr ⟨a1, i, Or.inr rfl, rfl, hT, fun q hq hT' => ?_⟩⟩
    · rcases hq with hq | rfl
      · exact h1 q hq w hw'
      · exact hw w hw'
    · rcases hq with hq | rfl
      · have := a5 q hq hT'
        omega
      · exact Nat.le_refl _
theorem Fnd.bd {T : Nat → Int → Prop} {key : Nat → Nat} {P : Nat → Prop} {f W : Int} (h : Fnd T key P f W) {N : Nat} {m : Int} (hP : ∀ i, P i → i < N) (hT : ∀ i w, P i → T i w → w ≤ m) (hm : 0 ≤ m) : -6 ≤ W ∧ W ≤ m ∧ -6 ≤ f ∧ f < N + 1 := by
  obtain ⟨h1, h2⟩ := h
  rcases h2 with ⟨a1, a2⟩ | ⟨a1, j, a2, a3, a4, a5⟩
  · exact ⟨by omega, by omega, by omega, by omega⟩
  · have := hP j a2
    have := hT j W a2 a4
    exact ⟨by omega, by omega, by omega, by omega⟩
end
section
/-! CALLS: put, where -/
theorem ite_p {c : Prop} [Decidable c] {A B : Prop} (h : if c then A else B) : (c ∧ A) ∨ (¬ c ∧ B) := by
  by_cases e : c
  · rw [if_pos e] at h; exact Or.inl ⟨e, h⟩
  · rw [if_neg e] at h; exact Or.inr ⟨e, h⟩
abbrev TI (V : AV) (hour c p : Nat) (w : Int) : Prop := TG (insG (vG V) c p) (vn V + 1) (vb V) hour w
def PutR (V : AV) (v1 v2 v3 x : Int32) : Prop := if ¬ ((0 ≤ v2.toInt ∧ v2.toInt ≤ 5) ∧ (0 ≤ v3.toInt ∧ v3.toInt ≤ vn V)) then x = -1 else if ¬ (0 ≤ v1.toInt ∧ v1.toInt ≤ 5) then x = -2 else if vn V = 8 then x = -4 else ∃ W, TMax (TI V (tn v1) (tn v2) (tn v3)) W ∧ x = zi W
theorem PutR.one {V : AV} {v1 v2 v3 x y : Int32} (h : PutR V v1 v2 v3 x) (h' : PutR V v1 v2 v3 y) : x = y := by
  unfold PutR at h h'
  rcases ite_p h with ⟨c, h⟩ | ⟨c, h⟩ <;> rcases ite_p h' with ⟨c', h'⟩ | ⟨c', h'⟩
  · rw [h, h']
  · exact absurd c c'
  · exact absurd c' c
  · rcases ite_p h with ⟨c, h⟩ | ⟨c, h⟩ <;> rcases ite_p h' with ⟨c', h'⟩ | ⟨c', h'⟩
    · rw [h, h']
    · exact absurd c c'
    · exact absurd c' c
    · rcases ite_p h with ⟨c, h⟩ | ⟨c, h⟩ <;> rcases ite_p h' with ⟨c', h'⟩ | ⟨c', h'⟩
      · rw [h, h']
      · exact absurd c c'
      · exact absurd c' c
      · obtain ⟨W, h1, h2⟩ := h
        obtain ⟨W', g1, g2⟩ := h'
        rw [h2, g2, TMax.one h1 g1]
/-- the class' trial lane: the lane as it is, one house more, and its best -/
theorem c_putTry {d : Nat} {k : mQ} {M : mM} {V : AV} {c K : Nat} {p : Nat → Nat} {kd pl hour : Nat} {W0 B0 : Int} {D0 : Nat} (hI : InvP V c p K M) (h8 : vn V < 8) (hk : kd < 6) (hp : pl ≤ vn V) (hh : hour < 6) (hs : PSt M (W0, B0, D0)) (hbd : PBd (W0, B0, D0))
    (h : ∀ M' r W B D, SFr M M' → PSt M' (W, B, D) → PBd (W, B, D) → ((r = false ∧ W = W0 ∧ ∀ w, TI V hour kd pl w → w ≤ W0) ∨ (r = true ∧ W0 < W ∧ TI V hour kd pl W ∧ ∀ w, TI V hour kd pl w → w ≤ W)) → k (mI (bI r)) M') :
    wpD mB mNL (d + vn V + 9) zX2_copyOf [mR 2 0 27, mR 2 0 38] M (fun r_5 M_4 => wV r_5 (wpD mB mNL (d + vn V + 9) zX2_insertHouse [mR 2 0 27, mI (nI kd), mI (nI pl)] M_4 (fun r_8 M_7 => wV r_8 (wpD mB mNL (d + vn V + 9) zX5_improve [mR 5 0 26, mI (nI hour)] M_7 k)))) := by
  obtain ⟨o1, o2, o3, o4, -⟩ := hI.ok
  refine sp_copyLane (d := d + vn V + 7) (by decide) ?_
  have l0 : LnC (vG V) (cpyL M 38 27) 27 (vn V) := hI.lnC.cpy o2.2 (by decide)
  refine sp_insertHouse (d := d + vn V + 7) (p := pl) l0 h8 hp (fun M2 f2 l2 => ?_)
  have fr : ∀ k j, k < 27 ∨ 30 < k → M2 k j = M k j := fun k j q => by rw [f2 k j (by omega), cpyL_out (by omega)]
  refine sp_imp (G := insG (vG V) kd pl) (n := vn V + 1) o1 (hI.hydC.of (fun j => fr 36 j (by decide)) (fun j => fr 37 j (by decide))) l2 ?_ (by omega) (insG_LR o4 hk hp) o3 hh (W0 := W0) (B0 := B0) (D0 := D0) ?_ hbd (fun M3 r W B D f3 p3 b3 e3 => h M3 r W B D (fun k j q => ?_) p3 b3 e3)
  · rw [f2 27 1 (by omega), cpyL_0.2]; exact hI.bC
  · obtain ⟨s1, s2, s3⟩ := hs
    exact ⟨by rw [fr 26 1 (by decide)]; exact s1, by rw [fr 26 2 (by decide)]; exact s2, by rw [fr 26 3 (by decide)]; exact s3⟩
  · rw [f3 k j (by omega)]; exact fr k j (by omega)
theorem fgt_PSt {M : mM} : PSt (up (up (up M 26 1 (-6)) 26 2 (-6)) 26 3 0) (-6, -6, 0) := ⟨by rw [up_j (by decide), up_j (by decide), up_at]; rfl, by rw [up_j (by decide), up_at]; rfl, by rw [up_at]; rfl⟩
theorem fgt_SFr {M : mM} : SFr M (up (up (up M 26 1 (-6)) 26 2 (-6)) 26 3 0) := fun k j q => by rw [up_k (by omega), up_k (by omega), up_k (by omega)]
theorem fgt_PBd : PBd (-6, -6, 0) := ⟨by decide, by decide, by decide, by decide, by decide⟩
theorem SFr.trans {M M' M'' : mM} (h : SFr M M') (h' : SFr M' M'') : SFr M M'' := fun k j q => (h' k j q).trans (h k j q)
theorem TI_ge {V : AV} {hour kd pl : Nat} {w : Int} (hV : VOK V) (hk : kd < 6) (hp : pl ≤ vn V) (h : TI V hour kd pl w) : 0 ≤ w ∧ w ≤ 1000 := by
  obtain ⟨o1, o2, o3, o4, -⟩ := hV
  have := TG.ge (G := insG (vG V) kd pl) (n := vn V + 1) (m := vb V) o1 (insG_LR o4 hk hp) h
  omega
theorem cx_put {d : Nat} {k : mQ} {M : mM} {V : AV} {c K : Nat} {p : Nat → Nat} {v1 v2 v3 : Int32} (hI : InvP V c p K M) (h : ∀ M' x, Keep M M' → PutR V v1 v2 v3 x → k (mI x) M') : wpD mB mNL (d + vn V + 10) zX7_put [mR 7 0 14, mI v1, mI v2, mI v3] M k := by
  obtain ⟨o1, o2, o3, o4, -⟩ := hI.ok
  have h0 := fun x => h M x (Keep.rfl' M)
  refine v_X7_put_0 _ _ _ (sp_isNoKind (d := d + vn V + 8) (fun e => ⟨fun _ => h0 _ ?_, fun c => absurd c (by decide)⟩) (fun e1 => ⟨fun c => absurd rfl c, fun _ => ?_⟩))
  · unfold PutR; rw [if_pos (fun q => e q.1)]
  rw [hI.lnC.1]
  simp only [lt_zi, le_zi, li0, nI_ti (show vn V < 2147483648 by omega)]
  refine ⟨fun c => h0 _ ?_, fun c1 => ⟨fun c2 => ?_, fun c => h0 _ ?_⟩⟩
  · unfold PutR; rw [if_pos (by omega)]
  · have hA : ¬ ¬ ((0 ≤ v2.toInt ∧ v2.toInt ≤ 5) ∧ (0 ≤ v3.toInt ∧ v3.toInt ≤ vn V)) := fun q => q ⟨e1, by omega⟩
    refine sp_isNoHour (d := d + vn V + 8) (fun e => ⟨fun c => absurd c (by decide), fun _ => h0 _ ?_⟩) (fun e2 => ⟨fun _ => ?_, fun c => absurd rfl c⟩)
    · unfold PutR; rw [if_neg hA, if_pos e]
    refine sp_isFull (d := d + vn V + 8) hI.lnC.1 (by omega) (ifb (fun e3 => ?_) (fun e3 => h0 _ ?_))
    · have n8 : vn V < 8 := Nat.not_le.mp (of_decide_eq_false e3)
      have a1 : v1 = nI (tn v1) := tn_eq e2.1
      have b1 : tn v1 < 6 := tn_lt e2.1 (by omega)
      have a2 : v2 = nI (tn v2) := tn_eq e1.1
      have b2 : tn v2 < 6 := tn_lt e1.1 (by omega)
      have a3 : v3 = nI (tn v3) := tn_eq (by omega)
      have b3 : tn v3 ≤ vn V := by unfold tn; omega
      refine sp_forgetPlans (d := d + vn V + 8) ?_
      have hI1 := hI.keep (SFr.keep (fgt_SFr (M := M)))
      have := c_putTry (d := d) (k := fun r_23 M_22 => wI r_23 fun x_25 => k (mI (M_22 26 1)) M_22) hI1 n8 b2 b3 b1 fgt_PSt fgt_PBd (fun M1 r W B D f p1 b4 e4 => ?_)
      · rw [← a1, ← a2, ← a3] at this
        exact this
      · show k (mI (M1 26 1)) M1
        rw [p1.1]
        refine h M1 _ (SFr.keep (fgt_SFr.trans f)) ?_
        unfold PutR
        rw [if_neg hA, if_neg (fun q => q e2), if_neg (by omega)]
        refine ⟨W, ?_, rfl⟩
        rcases e4 with ⟨-, q1, q2⟩ | ⟨-, q1, q2, q3⟩
        · exact Or.inl ⟨q1, fun w q => by have := q2 w q; have := TI_ge hI.ok b2 b3 q; omega⟩
        · exact Or.inr ⟨q2, q3⟩
    · have n8 : 8 ≤ vn V := of_decide_eq_true e3
      unfold PutR; rw [if_neg hA, if_neg (fun q => q e2), if_pos (by omega)]
  · unfold PutR; rw [if_pos (by omega)]
/-- the model's: one house more, and its best -/
theorem m_putTry {d : Nat} {k : mQ} {M : mM} {V : AV} {c K : Nat} {p : Nat → Nat} {kd pl hour : Nat} (hI : InvP V c p K M) (h8 : vn V < 8) (hk : kd < 6) (hp : pl ≤ vn V) (hh : hour < 6)
    (h : ∀ M' W, Keep M M' → TMax (TI V hour kd pl) W → -6 ≤ W → W ≤ 1000 → k (mI (zi W)) M') :
    wpD mB mNL (d + 3) zX8_putAt [mR 8 0 0, mI (nI kd), mI (nI pl)] M (fun r_2 M_1 => wV r_2 (wpD mB mNL (d + 3) zX8_layBest [mR 8 0 0, mI (nI hour)] M_1 k)) := by
  obtain ⟨o1, o2, o3, o4, -⟩ := hI.ok
  refine sp_putAt (d := d + 1) hI.lnP o2.2 hp (fun M1 f1 l1 => ?_)
  have hI1 := hI.keep (asLane_keep f1)
  refine sp_layBest (G := insG (vG V) kd pl) (n := vn V + 1) o1 hI1.hydM l1 (by omega) hI1.bM (insG_LR o4 hk hp) o3 hh (fun W L D M2 hB f2 _ => ?_)
  have := IsB.bd (G := insG (vG V) kd pl) (n := vn V + 1) (m := vb V) o1 (insG_LR o4 hk hp) (by omega) hB
  exact h M2 W ((asLane_keep f1).trans (lb_keep f2)) hB.tmax this.1 this.2.1
theorem cm_put {d : Nat} {k : mQ} {M : mM} {V : AV} {c K : Nat} {p : Nat → Nat} {v1 v2 v3 : Int32} (hI : InvP V c p K M) (h : ∀ M' x, Keep M M' → PutR V v1 v2 v3 x → k (mI x) M') : wpD mB mNL (d + 5) zX8_put [mR 8 0 0, mI v1, mI v2, mI v3] M k := by
  obtain ⟨o1, o2, o3, o4, -⟩ := hI.ok
  have h0 := fun x => h M x (Keep.rfl' M)
  refine v_X8_put_0 _ _ _ (sp_inC (fun e => ⟨fun _ => h0 _ ?_, fun c => absurd rfl c⟩) (fun e1 => ⟨fun c => absurd c (by decide), fun _ => ?_⟩))
  · rw [li0, li5] at e
    unfold PutR; rw [if_pos (fun q => e q.1)]
  rw [li0, li5] at e1
  rw [hI.lnP.1]
  refine sp_inC (fun e => ⟨fun c => absurd rfl c, fun _ => h0 _ ?_⟩) (fun e2 => ⟨fun _ => ?_, fun c => absurd c (by decide)⟩)
  · rw [li0, nI_ti (show vn V < 2147483648 by omega)] at e
    unfold PutR; rw [if_pos (fun q => e q.2)]
  rw [li0, nI_ti (show vn V < 2147483648 by omega)] at e2
  have hA : ¬ ¬ ((0 ≤ v2.toInt ∧ v2.toInt ≤ 5) ∧ (0 ≤ v3.toInt ∧ v3.toInt ≤ vn V)) := fun q => q ⟨e1, e2⟩
  refine sp_inC (fun e => ⟨fun c => absurd rfl c, fun _ => h0 _ ?_⟩) (fun e3 => ⟨fun _ => ?_, fun c => absurd c (by decide)⟩)
  · rw [li0, li5] at e
    unfold PutR; rw [if_neg hA, if_pos e]
  rw [li0, li5] at e3
  refine ⟨fun c4 => ?_, fun c4 => h0 _ ?_⟩
  · have n8 : vn V < 8 := by
      rcases Nat.lt_or_ge (vn V) 8 with q | q
      · exact q
      · exact absurd (by rw [hI.lnP.1, show vn V = 8 by omega]; rfl) c4
    have a1 : v1 = nI (tn v1) := tn_eq e3.1
    have b1 : tn v1 < 6 := tn_lt e3.1 (by omega)
    have a2 : v2 = nI (tn v2) := tn_eq e1.1
    have b2 : tn v2 < 6 := tn_lt e1.1 (by omega)
    have a3 : v3 = nI (tn v3) := tn_eq (by omega)
    have b3 : tn v3 ≤ vn V := by unfold tn; omega
    have := m_putTry (d := d + 1) (k := fun r_17 M_16 => wI r_17 fun x_19 => k (mI x_19) M_16) hI n8 b2 b3 b1 (fun M1 W f e _ _ => ?_)
    · rw [← a1, ← a2, ← a3] at this
      exact this
    · refine h M1 _ f ?_
      unfold PutR
      rw [if_neg hA, if_neg (fun q => q e3), if_neg (by omega)]
      exact ⟨W, e, rfl⟩
  · have n8 : vn V = 8 := nI_inj (by omega) (by decide) (hI.lnP.1.symm.trans c4)
    unfold PutR; rw [if_neg hA, if_neg (fun q => q e3), if_pos n8]
def WhereR (V : AV) (v1 v2 v3 x : Int32) : Prop := if ¬ (0 ≤ v2.toInt ∧ v2.toInt ≤ 5) then x = -1 else if ¬ ((0 ≤ v1.toInt ∧ v1.toInt ≤ 5) ∧ (0 ≤ v3.toInt ∧ v3.toInt ≤ 1)) then x = -2 else if vn V = 8 then x = -4 else
  ∃ f W, Fnd (TI V (tn v1) (tn v2)) (fun i => i) (fun i => i < vn V + 1) f W ∧ x = if v3.toInt = 0 then zi f else zi W
theorem WhereR.one {V : AV} {v1 v2 v3 x y : Int32} (h : WhereR V v1 v2 v3 x) (h' : WhereR V v1 v2 v3 y) : x = y := by
  unfold WhereR at h h'
  rcases ite_p h with ⟨c, h⟩ | ⟨c, h⟩ <;> rcases ite_p h' with ⟨c', h'⟩ | ⟨c', h'⟩
  · rw [h, h']
  · exact absurd c c'
  · exact absurd c' c
  · rcases ite_p h with ⟨c, h⟩ | ⟨c, h⟩ <;> rcases ite_p h' with ⟨c', h'⟩ | ⟨c', h'⟩
    · rw [h, h']
    · exact absurd c c'
    · exact absurd c' c
    · rcases ite_p h with ⟨c, h⟩ | ⟨c, h⟩ <;> rcases ite_p h' with ⟨c', h'⟩ | ⟨c', h'⟩
      · rw [h, h']
      · exact absurd c c'
      · exact absurd c' c
      · obtain ⟨f, W, h1, h2⟩ := h
        obtain ⟨f', W', g1, g2⟩ := h'
        obtain ⟨rfl, rfl⟩ := Fnd.one (fun i j _ _ e => e) h1 g1
        rw [h2, g2]
theorem cx_where {d : Nat} {k : mQ} {M : mM} {V : AV} {c K : Nat} {p : Nat → Nat} {v1 v2 v3 : Int32} (hI : InvP V c p K M) (h : ∀ M' x, Keep M M' → WhereR V v1 v2 v3 x → k (mI x) M') : wpD mB mNL (d + vn V + 11) zX7_where [mR 7 0 14, mI v1, mI v2, mI v3] M k := by
  obtain ⟨o1, o2, o3, o4, -⟩ := hI.ok
  have h0 := fun x => h M x (Keep.rfl' M)
  refine v_X7_where_0 _ _ _ (sp_isNoKind (d := d + vn V + 9) (fun e => ⟨fun c => absurd c (by decide), fun _ => h0 _ ?_⟩) (fun e1 => ⟨fun _ => ?_, fun c => absurd rfl c⟩))
  · unfold WhereR; rw [if_pos e]
  have hA : ¬ ¬ (0 ≤ v2.toInt ∧ v2.toInt ≤ 5) := fun q => q e1
  refine sp_isNoHour (d := d + vn V + 9) (fun e => ⟨fun _ => h0 _ ?_, fun c => absurd c (by decide)⟩) (fun e2 => ⟨fun c => absurd rfl c, fun _ => ?_⟩)
  · unfold WhereR; rw [if_neg hA, if_pos (fun q => e q.1)]
  simp only [lt_zi, le_zi, li0, li1]
  refine ⟨fun c => h0 _ ?_, fun c1 => ⟨fun c2 => ?_, fun c => h0 _ ?_⟩⟩
  · unfold WhereR; rw [if_neg hA, if_pos (by omega)]
  · have hB : ¬ ¬ ((0 ≤ v1.toInt ∧ v1.toInt ≤ 5) ∧ (0 ≤ v3.toInt ∧ v3.toInt ≤ 1)) := fun q => q ⟨e2, by omega⟩
    refine sp_isFull (d := d + vn V + 9) hI.lnC.1 (by omega) (ifb (fun e3 => ?_) (fun e3 => h0 _ ?_))
    · have n8 : vn V < 8 := Nat.not_le.mp (of_decide_eq_false e3)
      have a1 : v1 = nI (tn v1) := tn_eq e2.1
      have b1 : tn v1 < 6 := tn_lt e2.1 (by omega)
      have a2 : v2 = nI (tn v2) := tn_eq e1.1
      have b2 : tn v2 < 6 := tn_lt e1.1 (by omega)
      have fin : ∀ M1 f W B D, SFr M M1 → PSt M1 (W, B, D) → Fnd (TI V (tn v1) (tn v2)) (fun i => i) (fun i => i < vn V + 1) f W → ((¬ v3 = 0 → k (mI (M1 26 1)) M1) ∧ (v3 = 0 → k (mI (zi f)) M1)) := fun M1 f W B D fr hp hF => by
        have q0 : v3 = 0 ↔ v3.toInt = 0 := lit (n := 0) (by decide)
        rw [q0, hp.1]
        refine ⟨fun c => h M1 _ fr.keep ?_, fun c => h M1 _ fr.keep ?_⟩ <;> unfold WhereR <;> rw [if_neg hA, if_neg hB, if_neg (by omega)] <;> refine ⟨f, W, hF, ?_⟩
        · rw [if_neg c]
        · rw [if_pos c]
      have key : ∀ m i M1 f W B D, i + m = vn V + 1 → SFr M M1 → PSt M1 (W, B, D) → PBd (W, B, D) → Fnd (TI V (tn v1) (tn v2)) (fun i => i) (fun q => q < i) f W →
          jJ kB_X7_searchPlace (d + vn V + 9) (fun r_14 M_13 => wI r_14 fun x_16 => ((¬ v3 = 0 → k (mI (M_13 26 1)) M_13) ∧ (v3 = 0 → k (mI x_16) M_13))) 1 [mR 7 0 14, mI v1, mI v2, mI (zi f), mI (nI i)] [] M1 := by
        intro m
        induction m with
        | zero =>
          intro i M1 f W B D hi fr hp hb hF
          refine v_X7_searchPlace_1 _ _ _ _ ?_
          rw [(hI.keep fr.keep).lnC.1]
          have : i = vn V + 1 := by omega
          subst this
          exact iflt (by omega) (by omega) (fun _ => fin M1 f W B D fr hp hF) (fun c => by omega)
        | succ m ih =>
          intro i M1 f W B D hi fr hp hb hF
          refine v_X7_searchPlace_1 _ _ _ _ ?_
          have hI1 := hI.keep fr.keep
          rw [hI1.lnC.1]
          refine iflt (by omega) (by omega) (fun c => by omega) (fun _ => ?_)
          have bw := hF.bd (N := vn V + 1) (m := 1000) (fun q hq => by omega) (fun q w hq hT => (TI_ge hI.ok b2 (by omega) hT).2) (by decide)
          have := c_putTry (d := d) (k := fun r_11 M_10 => wI r_11 fun x_13 => ((x_13 = 0 → jJ kB_X7_searchPlace (d + vn V + 9) (fun r_14 M_13 => wI r_14 fun x_16 => ((¬ v3 = 0 → k (mI (M_13 26 1)) M_13) ∧ (v3 = 0 → k (mI x_16) M_13))) 1 [mR 7 0 14, mI v1, mI v2, mI (zi f), mI (nI i + 1)] [] M_10) ∧
             (¬ x_13 = 0 → jJ kB_X7_searchPlace (d + vn V + 9) (fun r_14 M_13 => wI r_14 fun x_16 => ((¬ v3 = 0 → k (mI (M_13 26 1)) M_13) ∧ (v3 = 0 → k (mI x_16) M_13))) 1 [mR 7 0 14, mI v1, mI v2, mI (nI i), mI (nI i + 1)] [] M_10))) hI1 n8 b2 (show i ≤ vn V by omega) b1 hp hb (fun M2 r W' B' D' f2 p2 b4 e4 => ifb (fun er => ?_) (fun er => ?_))
          · rw [← a1, ← a2] at this
            exact this
          · rw [nI_1]
            rcases e4 with ⟨-, q1, q2⟩ | ⟨q0, -⟩
            · subst q1
              exact ih (i + 1) M2 f W' B' D' (by omega) (fr.trans f2) p2 b4 ((hF.no (i := i) q2 (fun j hj _ _ => Nat.le_of_lt hj)).cong (fun q => by omega))
            · rw [er] at q0
              cases q0
          · rw [nI_1, ← zi_nI i]
            rcases e4 with ⟨q0, -⟩ | ⟨-, q1, q2, q3⟩
            · rw [er] at q0
              cases q0
            · exact ih (i + 1) M2 i W' B' D' (by omega) (fr.trans f2) p2 b4 ((hF.yes (i := i) (TI_ge hI.ok b2 (by omega) q2).1 q2 q3 q1).cong (fun q => by omega))
      refine wpD_at (as' := [mR 7 0 14, mI v1, mI v2]) rfl (v_X7_searchPlace_0 (d := d + vn V + 9) _ _ (sp_forgetPlans (d := d + vn V + 8) ?_))
      exact key (vn V + 1) 0 _ (-6) (-6) (-6) 0 (by omega) fgt_SFr fgt_PSt fgt_PBd (Fnd.none (fun i q => absurd q (Nat.not_lt_zero i)))
    · have n8 : 8 ≤ vn V := of_decide_eq_true e3
      unfold WhereR; rw [if_neg hA, if_neg hB, if_pos (by omega)]
  · unfold WhereR; rw [if_neg hA, if_pos (by omega)]

theorem cm_where {d : Nat} {k : mQ} {M : mM} {V : AV} {c K : Nat} {p : Nat → Nat} {v1 v2 v3 : Int32} (hI : InvP V c p K M) (h : ∀ M' x, Keep M M' → WhereR V v1 v2 v3 x → k (mI x) M') : wpD mB mNL (d + 5) zX8_where [mR 8 0 0, mI v1, mI v2, mI v3] M k := by
  obtain ⟨o1, o2, o3, o4, -⟩ := hI.ok
  have h0 := fun x => h M x (Keep.rfl' M)
  refine v_X8_where_0 _ _ _ (sp_inC (fun e => ⟨fun c => absurd rfl c, fun _ => h0 _ ?_⟩) (fun e1 => ⟨fun _ => ?_, fun c => absurd c (by decide)⟩))
  · rw [li0, li5] at e
    unfold WhereR; rw [if_pos e]
  rw [li0, li5] at e1
  have hA : ¬ ¬ (0 ≤ v2.toInt ∧ v2.toInt ≤ 5) := fun q => q e1
  refine sp_inC (fun e => ⟨fun _ => h0 _ ?_, fun c => absurd rfl c⟩) (fun e2 => ⟨fun c => absurd c (by decide), fun _ => ?_⟩)
  · rw [li0, li5] at e
    unfold WhereR; rw [if_neg hA, if_pos (fun q => e q.1)]
  rw [li0, li5] at e2
  refine sp_inC (fun e => ⟨fun c => absurd rfl c, fun _ => h0 _ ?_⟩) (fun e3 => ⟨fun _ => ⟨fun c4 => ?_, fun c4 => h0 _ ?_⟩, fun c => absurd c (by decide)⟩)
  · rw [li0, li1] at e
    unfold WhereR; rw [if_neg hA, if_pos (fun q => e q.2)]
  · rw [li0, li1] at e3
    have hB : ¬ ¬ ((0 ≤ v1.toInt ∧ v1.toInt ≤ 5) ∧ (0 ≤ v3.toInt ∧ v3.toInt ≤ 1)) := fun q => q ⟨e2, e3⟩
    have n8 : vn V < 8 := by
      rcases Nat.lt_or_ge (vn V) 8 with q | q
      · exact q
      · exact absurd (by rw [hI.lnP.1, show vn V = 8 by omega]; rfl) c4
    have a1 : v1 = nI (tn v1) := tn_eq e2.1
    have b1 : tn v1 < 6 := tn_lt e2.1 (by omega)
    have a2 : v2 = nI (tn v2) := tn_eq e1.1
    have b2 : tn v2 < 6 := tn_lt e1.1 (by omega)
    have key : ∀ m i M1 f W u, i + m = vn V + 1 → Keep M M1 → Fnd (TI V (tn v1) (tn v2)) (fun i => i) (fun q => q < i) f W →
        jJ kB_X8_where (d + 4) k 5 [mR 8 0 0, mI v1, mI v2, mI v3, mI (zi f), mI (zi W), mI (nI i), u] [] M1 := by
      intro m
      induction m with
      | zero =>
        intro i M1 f W u hi fr hF
        refine v_X8_where_5 _ _ _ _ _ _ _ ?_
        rw [(hI.keep fr).lnP.1]
        have : i = vn V + 1 := by omega
        subst this
        refine iflt (by omega) (by omega) (fun _ => ?_) (fun c => by omega)
        have q0 : v3 = 0 ↔ v3.toInt = 0 := lit (n := 0) (by decide)
        rw [q0]
        refine ⟨fun c => h M1 _ fr ?_, fun c => h M1 _ fr ?_⟩ <;> unfold WhereR <;> rw [if_neg hA, if_neg hB, if_neg (by omega)] <;> refine ⟨f, W, hF, ?_⟩
        · rw [if_neg c]
        · rw [if_pos c]
      | succ m ih =>
        intro i M1 f W u hi fr hF
        refine v_X8_where_5 _ _ _ _ _ _ _ ?_
        have hI1 := hI.keep fr
        rw [hI1.lnP.1]
        refine iflt (by omega) (by omega) (fun c => by omega) (fun _ => ?_)
        have bw := hF.bd (N := vn V + 1) (m := 1000) (fun q hq => by omega) (fun q w hq hT => (TI_ge hI.ok b2 (by omega) hT).2) (by decide)
        have := m_putTry (d := d + 1) (k := fun r_22 M_21 => wI r_22 fun x_24 => ((x_24 ≤ zi W → jJ kB_X8_where (d + 4) k 5 [mR 8 0 0, mI v1, mI v2, mI v3, mI (zi f), mI (zi W), mI (nI i + 1), mI x_24] [] M_21) ∧
         (¬ x_24 ≤ zi W → jJ kB_X8_where (d + 4) k 5 [mR 8 0 0, mI v1, mI v2, mI v3, mI (nI i), mI x_24, mI (nI i + 1), mI x_24] [] M_21))) hI1 n8 b2 (show i ≤ vn V by omega) b1 (fun M2 W' f2 e c1 c2 => ?_)
        · rw [← a1, ← a2] at this
          exact this
        · show (_ ∧ _)
          rw [zi_le (by omega) (by omega) (by omega) (by omega), nI_1]
          refine ⟨fun c => ih (i + 1) M2 f W _ (by omega) (fr.trans f2) ((hF.no (i := i) (fun w hw => ?_) (fun j hj _ _ => Nat.le_of_lt hj)).cong (fun q => by omega)), fun c => ?_⟩
          · rcases e with ⟨-, q⟩ | ⟨-, q⟩
            · exact absurd hw (q w)
            · have := q w hw; omega
          · rw [← zi_nI i]
            rcases e with ⟨q1, -⟩ | ⟨q1, q2⟩
            · omega
            · exact ih (i + 1) M2 i W' _ (by omega) (fr.trans f2) ((hF.yes (i := i) (TI_ge hI.ok b2 (by omega) q1).1 q1 q2 (by omega)).cong (fun q => by omega))
    exact key (vn V + 1) 0 M (-6) (-6) none (by omega) (Keep.rfl' M) (Fnd.none (fun i q => absurd q (Nat.not_lt_zero i)))
  · rw [li0, li1] at e3
    have hB : ¬ ¬ ((0 ≤ v1.toInt ∧ v1.toInt ≤ 5) ∧ (0 ≤ v3.toInt ∧ v3.toInt ≤ 1)) := fun q => q ⟨e2, e3⟩
    have n8 : vn V = 8 := nI_inj (by omega) (by decide) (hI.lnP.1.symm.trans c4)
    unfold WhereR; rw [if_neg hA, if_neg hB, if_pos n8]
end
section
/-! CALLS: moss -/
/-- how many of the bits below n -/
def bnF (S : Nat) : Nat → Nat
  | 0 => 0
  | n + 1 => if S.testBit n then bnF S n + 1 else bnF S n
theorem bnF_le (S : Nat) : ∀ n, bnF S n ≤ n
  | 0 => Nat.le_refl 0
  | n + 1 => by
    have := bnF_le S n
    unfold bnF
    split <;> omega
theorem bnF_mono {S P : Nat} (h : ∀ i, S.testBit i = true → P.testBit i = true) : ∀ n, bnF S n ≤ bnF P n
  | 0 => Nat.le_refl 0
  | n + 1 => by
    have ih := bnF_mono h n
    unfold bnF
    cases e : S.testBit n
    · simp only [Bool.false_eq_true, if_false]
      split <;> omega
    · rw [h n e]
      simp only [if_true]
      omega
def bcF (v0 : Int32) : Int32 := (((((((v0 - (((v0.toUInt32 >>> ((1 : Int32).toUInt32 &&& Int32.toUInt32 31)).toInt32) &&& 1431655765)) &&& 858993459) + ((((v0 - (((v0.toUInt32 >>> ((1 : Int32).toUInt32 &&& Int32.toUInt32 31)).toInt32) &&& 1431655765)).toUInt32 >>> ((2 : Int32).toUInt32 &&& Int32.toUInt32 31)).toInt32) &&& 858993459)) + (((((v0 - (((v0.toUInt32 >>> ((1 : Int32).toUInt32 &&& Int32.toUInt32 31)).toInt32) &&& 1431655765)) &&& 858993459) + ((((v0 - (((v0.toUInt32 >>> ((1 : Int32).toUInt32 &&& Int32.toUInt32 31)).toInt32) &&& 1431655765)).toUInt32 >>> ((2 : Int32).toUInt32 &&& Int32.toUInt32 31)).toInt32) &&& 858993459)).toUInt32 >>> ((4 : Int32).toUInt32 &&& Int32.toUInt32 31)).toInt32)) &&& 252645135) + (((((((v0 - (((v0.toUInt32 >>> ((1 : Int32).toUInt32 &&& Int32.toUInt32 31)).toInt32) &&& 1431655765)) &&& 858993459) + ((((v0 - (((v0.toUInt32 >>> ((1 : Int32).toUInt32 &&& Int32.toUInt32 31)).toInt32) &&& 1431655765)).toUInt32 >>> ((2 : Int32).toUInt32 &&& Int32.toUInt32 31)).toInt32) &&& 858993459)) + (((((v0 - (((v0.toUInt32 >>> ((1 : Int32).toUInt32 &&& Int32.toUInt32 31)).toInt32) &&& 1431655765)) &&& 858993459) + ((((v0 - (((v0.toUInt32 >>> ((1 : Int32).toUInt32 &&& Int32.toUInt32 31)).toInt32) &&& 1431655765)).toUInt32 >>> ((2 : Int32).toUInt32 &&& Int32.toUInt32 31)).toInt32) &&& 858993459)).toUInt32 >>> ((4 : Int32).toUInt32 &&& Int32.toUInt32 31)).toInt32)) &&& 252645135).toUInt32 >>> ((8 : Int32).toUInt32 &&& Int32.toUInt32 31)).toInt32)) + ((((((((v0 - (((v0.toUInt32 >>> ((1 : Int32).toUInt32 &&& Int32.toUInt32 31)).toInt32) &&& 1431655765)) &&& 858993459) + ((((v0 - (((v0.toUInt32 >>> ((1 : Int32).toUInt32 &&& Int32.toUInt32 31)).toInt32) &&& 1431655765)).toUInt32 >>> ((2 : Int32).toUInt32 &&& Int32.toUInt32 31)).toInt32) &&& 858993459)) + (((((v0 - (((v0.toUInt32 >>> ((1 : Int32).toUInt32 &&& Int32.toUInt32 31)).toInt32) &&& 1431655765)) &&& 858993459) + ((((v0 - (((v0.toUInt32 >>> ((1 : Int32).toUInt32 &&& Int32.toUInt32 31)).toInt32) &&& 1431655765)).toUInt32 >>> ((2 : Int32).toUInt32 &&& Int32.toUInt32 31)).toInt32) &&& 858993459)).toUInt32 >>> ((4 : Int32).toUInt32 &&& Int32.toUInt32 31)).toInt32)) &&& 252645135) + (((((((v0 - (((v0.toUInt32 >>> ((1 : Int32).toUInt32 &&& Int32.toUInt32 31)).toInt32) &&& 1431655765)) &&& 858993459) + ((((v0 - (((v0.toUInt32 >>> ((1 : Int32).toUInt32 &&& Int32.toUInt32 31)).toInt32) &&& 1431655765)).toUInt32 >>> ((2 : Int32).toUInt32 &&& Int32.toUInt32 31)).toInt32) &&& 858993459)) + (((((v0 - (((v0.toUInt32 >>> ((1 : Int32).toUInt32 &&& Int32.toUInt32 31)).toInt32) &&& 1431655765)) &&& 858993459) + ((((v0 - (((v0.toUInt32 >>> ((1 : Int32).toUInt32 &&& Int32.toUInt32 31)).toInt32) &&& 1431655765)).toUInt32 >>> ((2 : Int32).toUInt32 &&& Int32.toUInt32 31)).toInt32) &&& 858993459)).toUInt32 >>> ((4 : Int32).toUInt32 &&& Int32.toUInt32 31)).toInt32)) &&& 252645135).toUInt32 >>> ((8 : Int32).toUInt32 &&& Int32.toUInt32 31)).toInt32)).toUInt32 >>> ((16 : Int32).toUInt32 &&& Int32.toUInt32 31)).toInt32)) &&& 63
theorem bcF_n {S : Nat} (hS : S < 256) : bcF (nI S) = nI (bnF S 8) := by
  have : ∀ S, S < 256 → bcF (nI S) = nI (bnF S 8) := by decide +kernel
  exact this S hS
theorem sp_bitCount {d : Nat} {k : mQ} {M : mM} {S : Nat} (hS : S < 256) (h : k (mI (nI (bnF S 8))) M) : wpD mB mNL (d + 1) zJ6_bitCount_0f7a4 [mI (nI S)] M k := by
  refine v_J6_bitCount_0f7a4_0 _ ?_
  show k (mI (bcF (nI S))) M
  rw [bcF_n hS]
  exact h
theorem sp_bits {d : Nat} {k : mQ} {M : mM} {S : Nat} (hS : S < 2147483648) (h : k (mI (nI (bnF S 8))) M) : wpD mB mNL (d + 1) zX8_bits [mI (nI S)] M k := by
  have key : ∀ m i, i + m = 8 → jJ kB_X8_bits d k 1 [mI (nI S), mI (nI (bnF S i)), mI (nI i)] [] M := by
    intro m
    induction m with
    | zero =>
      intro i hi
      have : i = 8 := by omega
      subst this
      exact v_X8_bits_1 _ _ _ (ifle (a := 8) (b := 8) (by decide) (by decide) (fun _ => h) (fun c => by omega))
    | succ m ih =>
      intro i hi
      have h9 := ih (i + 1) (by omega)
      refine v_X8_bits_1 _ _ _ (ifle (a := 8) (b := i) (by decide) (by omega) (fun c => by omega) (fun _ => ?_))
      rw [nI_bit hS (by omega), nI_add, nI_1]
      unfold bnF at h9
      cases e : S.testBit i <;> rw [e] at h9 <;> exact h9
  exact v_X8_bits_0 _ (key 8 0 (by decide))
/-! pipes -/
def pbN (G : LG) : Nat → Nat
  | 0 => 0
  | h + 1 => if 0 < loH G h then pbN G h + 2 ^ h else pbN G h
theorem pbN_lt (G : LG) : ∀ h, pbN G h < 2 ^ h
  | 0 => Nat.one_pos
  | h + 1 => by
    have := pbN_lt G h
    unfold pbN
    split <;> omega
theorem pbN_bit (G : LG) : ∀ h i, (pbN G h).testBit i = (decide (i < h) && decide (0 < loH G i))
  | 0, i => by simp [pbN]
  | h + 1, i => by
    have ih := pbN_bit G h i
    unfold pbN
    by_cases hi : i = h
    · subst hi
      have hz : (pbN G i).testBit i = false := by rw [ih]; simp
      by_cases hs : 0 < loH G i
      · simp [hs, add_pow_bit (pbN_lt G i)]
      · simp [hs, hz]
    · have hlt : decide (i < h + 1) = decide (i < h) := by simp; omega
      split
      · rw [add_pow_bit (pbN_lt G h), ih, hlt]; simp [hi]
      · rw [ih, hlt]
theorem sp_pipeBits {d : Nat} {k : mQ} {M : mM} {G : LG} {o n b : Nat} (hLn : LnC G M o n) (hn : n ≤ 8) (hLR : LR G n b) (h : k (mI (nI (pbN G n))) M) : wpD mB mNL (d + 3) zX2_pipeBits [mR 2 0 o] M k := by
  have key : ∀ m i, i + m = n → jJ kB_X2_pipeBits (d + 2) k 1 [mR 2 0 o, mI (nI (pbN G i)), mI (nI i)] [] M := by
    intro m
    induction m with
    | zero =>
      intro i hi
      have : i = n := by omega
      subst this
      refine v_X2_pipeBits_1 _ _ _ ?_
      rw [hLn.1]
      exact ifle (by omega) (by omega) (fun _ => h) (fun c => by omega)
    | succ m ih =>
      intro i hi
      have h9 := ih (i + 1) (by omega)
      have hl := (hLR i (by omega)).2.1
      refine v_X2_pipeBits_1 _ _ _ ?_
      rw [hLn.1]
      refine ifle (by omega) (by omega) (fun c => by omega) (fun _ => sp_lossAheadOf (by omega) ?_)
      show (_ ∧ _)
      rw [(hLn.2 i (by omega)).2.1, show (0 : Int32) = zi 0 from rfl, zi_le (by omega) (by omega) (by decide) (by decide), nI_1]
      unfold pbN at h9
      refine ⟨fun c => ?_, fun c => ?_⟩
      · rw [if_neg (by omega)] at h9; exact h9
      · rw [if_pos (by omega)] at h9
        rw [sh_small (by omega), nI_or_pow (pbN_lt G i)]
        exact h9
  exact v_X2_pipeBits_0 _ (key n 0 (by omega))
/-- moss over the pipes of a set -/
def covG (G : LG) (S : Nat) : LG := (gS G, gK G, kdH G, fun h => if S.testBit h then 0 else loH G h, brH G)
theorem covG_LR {G : LG} {S n b : Nat} (h : LR G n b) : LR (covG G S) n b := fun i hi => by
  have := h i hi
  refine ⟨this.1, ?_, this.2.2⟩
  show 0 ≤ (if S.testBit i then (0 : Int) else loH G i) ∧ (if S.testBit i then (0 : Int) else loH G i) ≤ 9
  split
  · exact ⟨by decide, by decide⟩
  · exact this.2.1
/-- what is no pipe needs no moss -/
theorem covG_and {G : LG} {S n b : Nat} (h : LR G n b) (hS : S < 2 ^ n) : covG G (S &&& pbN G n) = covG G S := by
  unfold covG
  have : (fun h => if (S &&& pbN G n).testBit h then (0 : Int) else loH G h) = fun h => if S.testBit h then 0 else loH G h := by
    funext i
    rw [Nat.testBit_and, pbN_bit]
    cases e : S.testBit i
    · simp
    · have hi : i < n := by
        rcases Nat.lt_or_ge i n with q | q
        · exact q
        · rw [Nat.testBit_lt_two_pow (Nat.lt_of_lt_of_le hS (Nat.pow_le_pow_right (by decide) q))] at e
          cases e
      have := (h i hi).2.1
      by_cases c : 0 < loH G i
      · simp [hi, c]
      · simp [c]
        omega
  rw [this]
theorem sp_coverPipes {d : Nat} {k : mQ} {M : mM} {G : LG} {o n S : Nat} (hLn : LnC G M o n) (hn : n ≤ 8) (hS : S < 2147483648)
    (h : ∀ M', (∀ k j, k ≠ o + 2 → M' k j = M k j) → LnC (covG G S) M' o n → k none M') : wpD mB mNL (d + 2) zX2_coverPipes [mR 2 0 o, mI (nI S)] M k := by
  have key : ∀ m i M1, i + m = n → (∀ k j, k ≠ o + 2 → M1 k j = M k j) → (∀ q, (q < i → M1 (o + 2) q = zi (loH (covG G S) q)) ∧ (i ≤ q → M1 (o + 2) q = M (o + 2) q)) → jJ kB_X2_coverPipes (d + 1) k 1 [mR 2 0 o, mI (nI S), mI (nI i)] [] M1 := by
    intro m
    induction m with
    | zero =>
      intro i M1 hi f r
      have : i = n := by omega
      subst this
      refine v_X2_coverPipes_1 _ _ _ ?_
      rw [f o 0 (by omega), hLn.1]
      refine ifle (by omega) (by omega) (fun _ => h M1 f ⟨by rw [f o 0 (by omega)]; exact hLn.1, fun q hq => ?_⟩) (fun c => by omega)
      rw [f (o + 1) q (by omega), f (o + 3) q (by omega)]
      exact ⟨(hLn.2 q hq).1, (r q).1 hq, (hLn.2 q hq).2.2⟩
    | succ m ih =>
      intro i M1 hi f r
      refine v_X2_coverPipes_1 _ _ _ ?_
      rw [f o 0 (by omega), hLn.1]
      refine ifle (by omega) (by omega) (fun c => by omega) (fun _ => sp_hasBit hS (by omega) (ifb (fun e => ?_) (fun e => sp_setCell (by omega) (by decide) ?_)))
      · rw [nI_1]
        refine ih (i + 1) M1 (by omega) f (fun q => ⟨fun hq => ?_, fun hq => (r q).2 (by omega)⟩)
        by_cases c : q = i
        · subst c
          rw [(r q).2 (Nat.le_refl q), (hLn.2 q (by omega)).2.1]
          show _ = zi (if S.testBit q then 0 else loH G q)
          rw [e]; rfl
        · exact (r q).1 (by omega)
      · rw [nI_1]
        refine ih (i + 1) _ (by omega) (fun k j hk => by rw [up_k hk]; exact f k j hk) (fun q => ⟨fun hq => ?_, fun hq => by rw [up_j (by omega)]; exact (r q).2 (by omega)⟩)
        by_cases c : q = i
        · subst c
          rw [up_at]
          show _ = zi (if S.testBit q then 0 else loH G q)
          rw [e]; rfl
        · rw [up_j c]
          exact (r q).1 (by omega)
  exact v_X2_coverPipes_0 _ _ (key n 0 M (by omega) (fun _ _ _ => rfl) (fun q => ⟨fun c => absurd c (Nat.not_lt_zero q), fun _ => rfl⟩))
abbrev TM (V : AV) (hour S : Nat) (w : Int) : Prop := TG (covG (vG V) S) (vn V) (vb V) hour w
def kyM (S : Nat) : Nat := 256 * bnF S 8 + S
theorem TM_ge {V : AV} {hour S : Nat} {w : Int} (hV : VOK V) (h : TM V hour S w) : 0 ≤ w ∧ w ≤ 1000 := by
  obtain ⟨o1, o2, o3, o4, -⟩ := hV
  have := TG.ge (G := covG (vG V) S) (n := vn V) (m := vb V) o1 (covG_LR o4) h
  omega
/-- sets of pipes -/
def PCs (V : AV) (most S : Nat) : Prop := S < 2 ^ vn V ∧ S &&& pbN (vG V) (vn V) = S ∧ bnF S 8 ≤ most
theorem moss_conv {V : AV} {hour kk : Nat} {f W : Int} (hV : VOK V) (h : Fnd (TM V hour) kyM (fun S => S < 2 ^ vn V ∧ bnF S 8 ≤ kk) f W) : Fnd (TM V hour) kyM (PCs V (min (bnF (pbN (vG V) (vn V)) 8) kk)) f W := by
  obtain ⟨o1, o2, o3, o4, -⟩ := hV
  have sub : ∀ S, PCs V (min (bnF (pbN (vG V) (vn V)) 8) kk) S → S < 2 ^ vn V ∧ bnF S 8 ≤ kk := fun S q => ⟨q.1, by have := q.2.2; omega⟩
  obtain ⟨h1, h2⟩ := h
  refine ⟨fun i hi w hw => h1 i (sub i hi) w hw, ?_⟩
  rcases h2 with a | ⟨a1, j, a2, a3, a4, a5⟩
  · exact Or.inl a
  · refine Or.inr ⟨a1, j, ?_, a3, a4, fun i hi hT => a5 i (sub i hi) hT⟩
    have lt : j &&& pbN (vG V) (vn V) ≤ j := Nat.and_le_left
    have bl : bnF (j &&& pbN (vG V) (vn V)) 8 ≤ bnF j 8 := bnF_mono (fun i e => by rw [Nat.testBit_and] at e; simp only [Bool.and_eq_true] at e; exact e.1) 8
    have b2 : bnF (j &&& pbN (vG V) (vn V)) 8 ≤ bnF (pbN (vG V) (vn V)) 8 := bnF_mono (fun i e => by rw [Nat.testBit_and] at e; simp only [Bool.and_eq_true] at e; exact e.2) 8
    have := a5 (j &&& pbN (vG V) (vn V)) ⟨by omega, by omega⟩ (by show TG _ _ _ _ _; rw [covG_and o4 a2.1]; exact a4)
    unfold kyM at this
    have e : j &&& pbN (vG V) (vn V) = j := by omega
    rw [e] at b2
    exact ⟨a2.1, e, by have := a2.2; omega⟩
def MossR (V : AV) (v1 v2 v3 x : Int32) : Prop := if ¬ ((0 ≤ v1.toInt ∧ v1.toInt ≤ 5) ∧ (0 ≤ v2.toInt ∧ v2.toInt ≤ 8) ∧ (0 ≤ v3.toInt ∧ v3.toInt ≤ 1)) then x = -2 else
  ∃ f W, Fnd (TM V (tn v1)) kyM (PCs V (min (bnF (pbN (vG V) (vn V)) 8) (tn v2))) f W ∧ x = if v3.toInt = 0 then zi f else zi W
theorem MossR.one {V : AV} {v1 v2 v3 x y : Int32} (hV : VOK V) (h : MossR V v1 v2 v3 x) (h' : MossR V v1 v2 v3 y) : x = y := by
  unfold MossR at h h'
  have p2 : 2 ^ vn V ≤ 2 ^ 8 := Nat.pow_le_pow_right (by decide) hV.2.1.2
  rcases ite_p h with ⟨c, h⟩ | ⟨c, h⟩ <;> rcases ite_p h' with ⟨c', h'⟩ | ⟨c', h'⟩
  · rw [h, h']
  · exact absurd c c'
  · exact absurd c' c
  · obtain ⟨f, W, h1, h2⟩ := h
    obtain ⟨f', W', g1, g2⟩ := h'
    obtain ⟨rfl, rfl⟩ := Fnd.one (fun i j hi hj e => by
      have a := hi.1
      have c := hj.1
      unfold kyM at e
      omega) h1 g1
    rw [h2, g2]
end
section
theorem c_mossTry {d : Nat} {k : mQ} {M : mM} {V : AV} {c K : Nat} {p : Nat → Nat} {S hour : Nat} {W0 B0 : Int} {D0 : Nat} (hI : InvP V c p K M) (hS : S < 2 ^ vn V) (hh : hour < 6) (hs : PSt M (W0, B0, D0)) (hbd : PBd (W0, B0, D0))
    (h : ∀ M' r W B D, SFr M M' → PSt M' (W, B, D) → PBd (W, B, D) → ((r = false ∧ W = W0 ∧ ∀ w, TM V hour S w → w ≤ W0) ∨ (r = true ∧ W0 < W ∧ TM V hour S W ∧ ∀ w, TM V hour S w → w ≤ W)) → k (mI (bI r)) M') :
    wpD mB mNL (d + vn V + 8) zX2_copyOf [mR 2 0 27, mR 2 0 38] M (fun r_5 M_4 => wV r_5 (wpD mB mNL (d + vn V + 8) zX2_coverPipes [mR 2 0 27, mI (nI S)] M_4 (fun r_8 M_7 => wV r_8 (wpD mB mNL (d + vn V + 8) zX5_improve [mR 5 0 26, mI (nI hour)] M_7 k)))) := by
  obtain ⟨o1, o2, o3, o4, -⟩ := hI.ok
  have p2 : 2 ^ vn V ≤ 2 ^ 8 := Nat.pow_le_pow_right (by decide) o2.2
  refine sp_copyLane (d := d + vn V + 6) (by decide) ?_
  have l0 : LnC (vG V) (cpyL M 38 27) 27 (vn V) := hI.lnC.cpy o2.2 (by decide)
  refine sp_coverPipes (d := d + vn V + 6) l0 o2.2 (by omega) (fun M2 f2 l2 => ?_)
  have fr : ∀ k j, k < 27 ∨ 30 < k → M2 k j = M k j := fun k j q => by rw [f2 k j (by omega), cpyL_out (by omega)]
  refine sp_imp (G := covG (vG V) S) (n := vn V) o1 (hI.hydC.of (fun j => fr 36 j (by decide)) (fun j => fr 37 j (by decide))) l2 ?_ o2.2 (covG_LR o4) o3 hh (W0 := W0) (B0 := B0) (D0 := D0) ?_ hbd (fun M3 r W B D f3 p3 b3 e3 => h M3 r W B D (fun k j q => ?_) p3 b3 e3)
  · rw [f2 27 1 (by omega), cpyL_0.2]; exact hI.bC
  · obtain ⟨s1, s2, s3⟩ := hs
    exact ⟨by rw [fr 26 1 (by decide)]; exact s1, by rw [fr 26 2 (by decide)]; exact s2, by rw [fr 26 3 (by decide)]; exact s3⟩
  · rw [f3 k j (by omega)]; exact fr k j (by omega)
theorem nI_min {a b : Nat} (ha : a < 2147483648) (hb : b < 2147483648) : (if nI a < nI b then nI a else nI b) = nI (min a b) := by
  by_cases c : a < b
  · rw [if_pos ((nI_ltI ha hb).mpr c), Nat.min_eq_left (by omega)]
  · rw [if_neg (fun q => c ((nI_ltI ha hb).mp q)), Nat.min_eq_right (by omega)]
theorem sub_0 {S P n : Nat} (hS : S < 2 ^ n) (hn : n ≤ 30) : nI S &&& (nI P ^^^ (-1)) = 0 ↔ S &&& P = S := by
  have p2 : 2 ^ n ≤ 2 ^ 30 := Nat.pow_le_pow_right (by decide) hn
  have hx : S ^^^ (S &&& P) < 2 ^ n := Nat.xor_lt_two_pow hS (Nat.lt_of_le_of_lt Nat.and_le_left hS)
  rw [nI_not]
  constructor
  · intro h
    have := nI_inj (b := 0) (by omega) (by decide) h
    refine Nat.eq_of_testBit_eq fun i => ?_
    have e : (S ^^^ (S &&& P)).testBit i = false := by rw [this]; simp
    rw [Nat.testBit_xor, Nat.testBit_and] at e
    rw [Nat.testBit_and]
    cases hs : S.testBit i <;> cases hp : P.testBit i <;> simp_all
  · intro h
    rw [h, Nat.xor_self]
    rfl
set_option maxHeartbeats 1000000 in
theorem cx_moss {d : Nat} {k : mQ} {M : mM} {V : AV} {c K : Nat} {p : Nat → Nat} {v1 v2 v3 : Int32} (hI : InvP V c p K M) (h : ∀ M' x, Keep M M' → MossR V v1 v2 v3 x → k (mI x) M') : wpD mB mNL (d + vn V + 10) zX7_moss [mR 7 0 14, mI v1, mI v2, mI v3] M k := by
  obtain ⟨o1, o2, o3, o4, -⟩ := hI.ok
  have p2 : 2 ^ vn V ≤ 2 ^ 8 := Nat.pow_le_pow_right (by decide) o2.2
  have p0 : 0 < 2 ^ vn V := Nat.pow_pos (by decide)
  have h0 := fun x => h M x (Keep.rfl' M)
  have l8 : (8 : Int32).toInt = 8 := by decide
  have bad : ¬ ((0 ≤ v1.toInt ∧ v1.toInt ≤ 5) ∧ (0 ≤ v2.toInt ∧ v2.toInt ≤ 8) ∧ (0 ≤ v3.toInt ∧ v3.toInt ≤ 1)) → k (mI (-2)) M := fun e => h0 _ (by unfold MossR; rw [if_pos e])
  refine v_X7_moss_0 _ _ _ (sp_isNoHour (d := d + vn V + 8) (fun e => ⟨fun _ => bad (fun q => e q.1), fun c => absurd c (by decide)⟩) (fun e1 => ⟨fun c => absurd rfl c, fun _ => ?_⟩))
  simp only [lt_zi, le_zi, li0, li1, l8]
  refine ⟨fun c => bad (by omega), fun c1 => ⟨fun c => bad (by omega), fun c2 => ⟨fun c => bad (by omega), fun c3 => ⟨fun c4 => ?_, fun c => bad (by omega)⟩⟩⟩⟩
  have hA : ¬ ¬ ((0 ≤ v1.toInt ∧ v1.toInt ≤ 5) ∧ (0 ≤ v2.toInt ∧ v2.toInt ≤ 8) ∧ (0 ≤ v3.toInt ∧ v3.toInt ≤ 1)) := fun q => q ⟨e1, by omega, by omega⟩
  have a1 : v1 = nI (tn v1) := tn_eq e1.1
  have b1 : tn v1 < 6 := tn_lt e1.1 (by omega)
  have a2 : v2 = nI (tn v2) := tn_eq (by omega)
  have b2 : tn v2 ≤ 8 := by unfold tn; omega
  have hp9 := pbN_lt (vG V) (vn V)
  have hb9 := bnF_le (pbN (vG V) (vn V)) 8
  let most := min (bnF (pbN (vG V) (vn V)) 8) (tn v2)
  have hm : most ≤ 8 := by show min _ _ ≤ 8; omega
  let kk : mQ := fun r_6 M_5 => wI r_6 fun x_8 => ((¬ v3 = 0 → k (mI (M_5 26 1)) M_5) ∧ (v3 = 0 → k (mI x_8) M_5))
  let Q : Nat → Nat → Nat → Prop := fun size set S => S < 2 ^ vn V ∧ S &&& pbN (vG V) (vn V) = S ∧ (bnF S 8 < size ∨ (bnF S 8 = size ∧ S < set))
  have fin : ∀ M1 f W B D, SFr M M1 → PSt M1 (W, B, D) → Fnd (TM V (tn v1)) kyM (PCs V most) f W → kk (mI (zi f)) M1 := fun M1 f W B D fr hp hF => by
    have q0 : v3 = 0 ↔ v3.toInt = 0 := lit (n := 0) (by decide)
    show (_ ∧ _)
    rw [q0, hp.1]
    refine ⟨fun c => h M1 _ fr.keep ?_, fun c => h M1 _ fr.keep ?_⟩ <;> unfold MossR <;> rw [if_neg hA] <;> refine ⟨f, W, hF, ?_⟩
    · rw [if_neg c]
    · rw [if_pos c]
  have inner : ∀ m set size M1 f W B D, set + m = 2 ^ vn V → size ≤ most → SFr M M1 → PSt M1 (W, B, D) → PBd (W, B, D) → Fnd (TM V (tn v1)) kyM (Q size set) f W →
      (∀ M2 f W B D u, SFr M M2 → PSt M2 (W, B, D) → PBd (W, B, D) → Fnd (TM V (tn v1)) kyM (Q (size + 1) 0) f W → jJ kB_X7_searchMoss (d + vn V + 8) kk 1 [mR 7 0 14, mI v1, mI v2, mI (zi f), mI (nI (pbN (vG V) (vn V))), mI (nI most), mI (nI (size + 1)), u] [] M2) →
      jJ kB_X7_searchMoss (d + vn V + 8) kk 2 [mR 7 0 14, mI v1, mI v2, mI (zi f), mI (nI (pbN (vG V) (vn V))), mI (nI most), mI (nI size), mI (nI set)] [] M1 := by
    intro m
    induction m with
    | zero =>
      intro set size M1 f W B D hi hsz fr hp hb hF hout
      have hI1 := hI.keep fr.keep
      refine v_X7_searchMoss_2 _ _ _ _ _ _ _ (sp_houseSets (d := d + vn V + 7) hI1.lnC.1 (by omega) (ifle (by omega) (by omega) (fun _ => ?_) (fun c => by omega)))
      rw [nI_1]
      refine hout M1 f W B D _ fr hp hb (hF.cong (fun S => ?_))
      have : set = 2 ^ vn V := by omega
      subst this
      exact ⟨fun q => ⟨q.1, q.2.1, by have := q.2.2; omega⟩, fun q => ⟨q.1, q.2.1, by have := q.1; have := q.2.2; omega⟩⟩
    | succ m ih =>
      intro set size M1 f W B D hi hsz fr hp hb hF hout
      have hI1 := hI.keep fr.keep
      have hset : set < 2 ^ vn V := by omega
      have hbs := bnF_le set 8
      refine v_X7_searchMoss_2 _ _ _ _ _ _ _ (sp_houseSets (d := d + vn V + 7) hI1.lnC.1 (by omega) (ifle (by omega) (by omega) (fun c => by omega) (fun _ => ?_)))
      rw [sub_0 hset (by omega), nI_1]
      have skip : ¬ (set &&& pbN (vG V) (vn V) = set ∧ bnF set 8 = size) → jJ kB_X7_searchMoss (d + vn V + 8) kk 2 [mR 7 0 14, mI v1, mI v2, mI (zi f), mI (nI (pbN (vG V) (vn V))), mI (nI most), mI (nI size), mI (nI (set + 1))] [] M1 := fun no =>
        ih (set + 1) size M1 f W B D (by omega) hsz fr hp hb (hF.cong (fun S => by
          constructor
          · exact fun q => ⟨q.1, q.2.1, by have := q.2.2; omega⟩
          · intro q
            refine ⟨q.1, q.2.1, ?_⟩
            rcases q.2.2 with e | ⟨e, e2⟩
            · exact Or.inl e
            · by_cases e3 : S = set
              · subst e3
                exact absurd ⟨q.2.1, e⟩ no
              · exact Or.inr ⟨e, by omega⟩)) hout
      refine ⟨fun c5 => skip (fun q => c5 q.1), fun c5 => sp_bitCount (d := d + vn V + 7) (by omega) ⟨fun c6 => skip (fun q => c6 (by rw [q.2])), fun c6 => ?_⟩⟩
      have c7 : bnF set 8 = size := nI_inj (by omega) (by omega) c6
      have hQ : ∀ S, (Q size set S ∨ S = set) ↔ Q size (set + 1) S := fun S => by
        constructor
        · rintro (q | rfl)
          · exact ⟨q.1, q.2.1, by have := q.2.2; omega⟩
          · exact ⟨hset, c5, Or.inr ⟨c7, by omega⟩⟩
        · intro q
          by_cases e3 : S = set
          · exact Or.inr e3
          · exact Or.inl ⟨q.1, q.2.1, by have := q.2.2; omega⟩
      have ord : ∀ j, Q size set j → kyM j ≤ kyM set := fun j q => by
        have a := q.1
        have b := q.2.2
        unfold kyM
        omega
      have bw := hF.bd (N := 256) (m := 1000) (fun q hq => by have := hq.1; omega) (fun q w hq hT => (TM_ge hI.ok hT).2) (by decide)
      refine wpD_at (as' := [mR 2 0 27, mR 2 0 38]) rfl ?_
      have := c_mossTry (d := d) (k := fun r_28 M_27 => wI r_28 fun x_30 => ((x_30 = 0 → jJ kB_X7_searchMoss (d + vn V + 8) kk 2 [mR 7 0 14, mI v1, mI v2, mI (zi f), mI (nI (pbN (vG V) (vn V))), mI (nI most), mI (nI size), mI (nI (set + 1))] [] M_27) ∧
                   (¬ x_30 = 0 → jJ kB_X7_searchMoss (d + vn V + 8) kk 2 [mR 7 0 14, mI v1, mI v2, mI (nI set), mI (nI (pbN (vG V) (vn V))), mI (nI most), mI (nI size), mI (nI (set + 1))] [] M_27))) hI1 hset b1 hp hb (fun M2 r W' B' D' f2 p3 b4 e4 => ifb (fun er => ?_) (fun er => ?_))
      · rw [← a1] at this
        exact this
      · rcases e4 with ⟨-, q1, q2⟩ | ⟨q0, -⟩
        · subst q1
          exact ih (set + 1) size M2 f W' B' D' (by omega) hsz (fr.trans f2) p3 b4 ((hF.no (i := set) q2 (fun j hj _ _ => ord j hj)).cong hQ) hout
        · rw [er] at q0
          cases q0
      · rw [← zi_nI set]
        rcases e4 with ⟨q0, -⟩ | ⟨-, q1, q2, q3⟩
        · rw [er] at q0
          cases q0
        · have := ih (set + 1) size M2 set W' B' D' (by omega) hsz (fr.trans f2) p3 b4 ((hF.yes (i := set) (TM_ge hI.ok q2).1 q2 q3 q1).cong hQ) hout
          exact this
  have outer : ∀ m size M1 f W B D u, size + m = most + 1 → SFr M M1 → PSt M1 (W, B, D) → PBd (W, B, D) → Fnd (TM V (tn v1)) kyM (Q size 0) f W →
      jJ kB_X7_searchMoss (d + vn V + 8) kk 1 [mR 7 0 14, mI v1, mI v2, mI (zi f), mI (nI (pbN (vG V) (vn V))), mI (nI most), mI (nI size), u] [] M1 := by
    intro m
    induction m with
    | zero =>
      intro size M1 f W B D u hi fr hp hb hF
      refine v_X7_searchMoss_1 _ _ _ _ _ _ _ (iflt (by omega) (by omega) (fun _ => fin M1 f W B D fr hp (hF.cong (fun S => ?_))) (fun c => by omega))
      exact ⟨fun q => ⟨q.1, q.2.1, by have := q.2.2; omega⟩, fun q => ⟨q.1, q.2.1, by have := q.2.2; omega⟩⟩
    | succ m ih =>
      intro size M1 f W B D u hi fr hp hb hF
      refine v_X7_searchMoss_1 _ _ _ _ _ _ _ (iflt (by omega) (by omega) (fun c => by omega) (fun _ => ?_))
      exact inner (2 ^ vn V) 0 size M1 f W B D (by omega) (by omega) fr hp hb hF (fun M2 f W B D u fr hp hb hF => ih (size + 1) M2 f W B D u (by omega) fr hp hb hF)
  refine v_X7_searchMoss_0 (d := d + vn V + 8) (k := kk) _ _ (sp_pipeBits (d := d + vn V + 5) hI.lnC o2.2 o4 (sp_bitCount (d := d + vn V + 7) (by omega) (sp_forgetPlans (d := d + vn V + 7) ?_)))
  have e9 : (if nI (bnF (pbN (vG V) (vn V)) 8) < v2 then nI (bnF (pbN (vG V) (vn V)) 8) else v2) = nI most := by
    conv => lhs; rw [a2]
    exact nI_min (by omega) (by omega)
  rw [e9]
  exact outer (most + 1) 0 _ (-6) (-6) (-6) 0 none (by omega) fgt_SFr fgt_PSt fgt_PBd (Fnd.none (fun i q => by have := q.2.2; omega))
end
section
set_option maxHeartbeats 1000000 in
theorem cm_moss {d : Nat} {k : mQ} {M : mM} {V : AV} {c K : Nat} {p : Nat → Nat} {v1 v2 v3 : Int32} (hI : InvP V c p K M) (h : ∀ M' x, Keep M M' → MossR V v1 v2 v3 x → k (mI x) M') : wpD mB mNL (d + 5) zX8_moss [mR 8 0 0, mI v1, mI v2, mI v3] M k := by
  obtain ⟨o1, o2, o3, o4, -⟩ := hI.ok
  have p2 : 2 ^ vn V ≤ 2 ^ 8 := Nat.pow_le_pow_right (by decide) o2.2
  have p0 : 0 < 2 ^ vn V := Nat.pow_pos (by decide)
  have h0 := fun x => h M x (Keep.rfl' M)
  have l8 : (8 : Int32).toInt = 8 := by decide
  have bad : ¬ ((0 ≤ v1.toInt ∧ v1.toInt ≤ 5) ∧ (0 ≤ v2.toInt ∧ v2.toInt ≤ 8) ∧ (0 ≤ v3.toInt ∧ v3.toInt ≤ 1)) → k (mI (-2)) M := fun e => h0 _ (by unfold MossR; rw [if_pos e])
  refine v_X8_moss_0 _ _ _ (sp_inC (fun e => ⟨fun _ => bad (fun q => e (by rw [li0, li5]; exact q.1)), fun c => absurd rfl c⟩) (fun e1 => ⟨fun c => absurd c (by decide), fun _ => ?_⟩))
  refine sp_inC (fun e => ⟨fun _ => bad (fun q => e (by rw [li0, l8]; exact q.2.1)), fun c => absurd rfl c⟩) (fun e2 => ⟨fun c => absurd c (by decide), fun _ => ?_⟩)
  refine sp_inC (fun e => ⟨fun c => absurd rfl c, fun _ => bad (fun q => e (by rw [li0, li1]; exact q.2.2))⟩) (fun e3 => ⟨fun _ => ?_, fun c => absurd c (by decide)⟩)
  rw [li0, li5] at e1
  rw [li0, l8] at e2
  rw [li0, li1] at e3
  have hA : ¬ ¬ ((0 ≤ v1.toInt ∧ v1.toInt ≤ 5) ∧ (0 ≤ v2.toInt ∧ v2.toInt ≤ 8) ∧ (0 ≤ v3.toInt ∧ v3.toInt ≤ 1)) := fun q => q ⟨e1, e2, e3⟩
  have a1 : v1 = nI (tn v1) := tn_eq e1.1
  have b1 : tn v1 < 6 := tn_lt e1.1 (by omega)
  have a2 : v2 = nI (tn v2) := tn_eq (by omega)
  have b2 : tn v2 ≤ 8 := by unfold tn; omega
  have E3 : ∀ m, (3 : Int32) * nI m = nI (3 * m) := fun m => by rw [show (3 : Int32) = nI 3 from rfl, pk_mul]
  let P : Nat → Nat → Prop := fun set S => S < set ∧ bnF S 8 ≤ tn v2
  have key : ∀ m set M1 f W u, set + m = 2 ^ vn V → Keep M M1 → Fnd (TM V (tn v1)) kyM (P set) f W → jJ kB_X8_moss (d + 4) k 3 [mR 8 0 0, mI v1, mI v2, mI v3, mI (zi f), mI (zi W), mI (nI set), u] [] M1 := by
    intro m
    induction m with
    | zero =>
      intro set M1 f W u hi fr hF
      refine v_X8_moss_3 _ _ _ _ _ _ _ ?_
      rw [(hI.keep fr).lnP.1, sh_small (by omega)]
      have : set = 2 ^ vn V := by omega
      subst this
      refine ifle (by omega) (by omega) (fun _ => ?_) (fun c => by omega)
      have q0 : v3 = 0 ↔ v3.toInt = 0 := lit (n := 0) (by decide)
      rw [q0]
      have hF2 := moss_conv hI.ok hF
      refine ⟨fun c => h M1 _ fr ?_, fun c => h M1 _ fr ?_⟩ <;> unfold MossR <;> rw [if_neg hA] <;> refine ⟨f, W, hF2, ?_⟩
      · rw [if_neg c]
      · rw [if_pos c]
    | succ m ih =>
      intro set M1 f W u hi fr hF
      have hset : set < 2 ^ vn V := by omega
      have hbs := bnF_le set 8
      have hI1 := hI.keep fr
      refine v_X8_moss_3 _ _ _ _ _ _ _ ?_
      rw [hI1.lnP.1, sh_small (by omega)]
      refine ifle (by omega) (by omega) (fun c => by omega) (fun _ => sp_bits (by omega) ?_)
      have hlt : (v2 < nI (bnF set 8) ↔ tn v2 < bnF set 8) := by
        conv => lhs; rw [a2]
        exact nI_ltI (by omega) (by omega)
      show (_ ∧ _)
      rw [hlt, nI_1]
      refine ⟨fun c5 => ih (set + 1) M1 f W u (by omega) fr (hF.cong (fun S => ?_)), fun c5 => ?_⟩
      · constructor
        · exact fun q => ⟨by have := q.1; omega, q.2⟩
        · intro q
          refine ⟨?_, q.2⟩
          have q1 := q.1
          have q2 := q.2
          rcases Nat.lt_or_ge S set with e | e
          · exact e
          · have : S = set := by omega
            subst this
            omega
      have hQ : ∀ S, (P set S ∨ S = set) ↔ P (set + 1) S := fun S => by
        constructor
        · rintro (q | rfl)
          · exact ⟨by have := q.1; omega, q.2⟩
          · exact ⟨by omega, by omega⟩
        · intro q
          by_cases e3 : S = set
          · exact Or.inr e3
          · exact Or.inl ⟨by have := q.1; omega, q.2⟩
      have bw := hF.bd (N := 256) (m := 1000) (fun q hq => by have := hq.1; omega) (fun q w hq hT => (TM_ge hI.ok hT).2) (by decide)
      have inner : ∀ r i M2, i + r = vn V → Keep M M2 → M2 0 9 = nI (vn V) → (∀ h, h < vn V → M2 6 (3 * h) = nI (kdH (vG V) h) ∧ M2 6 (3 * h + 2) = zi (brH (vG V) h) ∧ (h < i → M2 6 (3 * h + 1) = zi (loH (covG (vG V) set) h))) →
          jJ kB_X8_moss (d + 4) k 4 [mR 8 0 0, mI v1, mI v2, mI v3, mI (zi f), mI (zi W), mI (nI set), mI (nI i)] [] M2 := by
        intro r
        induction r with
        | zero =>
          intro i M2 hi2 fr2 h9 hl
          have : i = vn V := by omega
          subst this
          have hI2 := hI.keep fr2
          refine v_X8_moss_4 _ _ _ _ _ _ _ ?_
          rw [hI2.lnP.1]
          refine ifle (by omega) (by omega) (fun _ => ?_) (fun c => by omega)
          refine wpD_at (as' := [mR 8 0 0, mI (nI (tn v1))]) (by rw [← a1]) ?_
          refine sp_layBest (d := d + 1) (G := covG (vG V) set) (n := vn V) o1 hI2.hydM ⟨h9, fun i hi => ⟨(hl i hi).1, (hl i hi).2.2 hi, (hl i hi).2.1⟩⟩ (by omega) hI2.bM (covG_LR o4) o3 b1 (fun W' L D M3 hB f3 _ => ?_)
          have fr3 := fr2.trans (lb_keep f3)
          have bB := IsB.bd (G := covG (vG V) set) (n := vn V) (m := vb V) o1 (covG_LR o4) (by omega) hB
          have e : TMax (TM V (tn v1) set) W' := hB.tmax
          have hge : ∀ w, TM V (tn v1) set w → w ≤ W' := fun w q => by
            rcases e with ⟨-, x⟩ | ⟨-, x⟩
            · exact absurd q (x w)
            · exact x w q
          have stay : (∀ j, P set j → f = (j : Int) → TM V (tn v1) set W → kyM j ≤ kyM set) → W' ≤ W → ∀ M4 u, Keep M M4 → jJ kB_X8_moss (d + 4) k 3 [mR 8 0 0, mI v1, mI v2, mI v3, mI (zi f), mI (zi W), mI (nI set + 1), u] [] M4 := fun hj hle M4 u fr4 => by
            rw [nI_1]
            exact ih (set + 1) M4 f W u (by omega) fr4 ((hF.no (i := set) (fun w q => by have := hge w q; omega) hj).cong hQ)
          show (_ ∧ _)
          rw [zi_lt (by omega) (by omega) (by omega) (by omega), zi_eq (by omega) (by omega) (by omega) (by omega), show (0 : Int32) = zi 0 from rfl, zi_lt (by omega) (by omega) (by decide) (by decide)]
          refine ⟨fun c6 => ?_, fun c6 => ⟨fun c7 => stay (fun j hj hf hT => absurd (hge _ hT) (by omega)) (by omega) _ _ fr3, fun c7 => ⟨fun c8 => stay (fun j hj hf hT => by omega) (by omega) _ _ fr3, fun c8 => ?_⟩⟩⟩
          · have hT : TM V (tn v1) set W' := by
              rcases e with ⟨x, -⟩ | ⟨x, -⟩
              · omega
              · exact x
            have hge0 := (TM_ge hI.ok hT).1
            refine v_X8_moss_8 _ _ _ _ _ _ _ ⟨fun _ => ?_, fun c => absurd ?_ c⟩
            · rw [nI_1, ← zi_nI set]
              have := ih (set + 1) M3 set W' (mI (zi W')) (by omega) fr3 ((hF.yes (i := set) hge0 hT hge c6).cong hQ)
              rw [← zi_nI (set + 1)] at this ⊢
              exact this
            · rw [show (0 : Int32) = zi 0 from rfl, zi_le (by decide) (by decide) (by omega) (by omega)]
              exact hge0
          · subst c7
            obtain ⟨j, ej⟩ : ∃ j : Nat, f = (j : Int) := ⟨f.toNat, by omega⟩
            subst ej
            refine sp_bits (by omega) ?_
            refine wpD_at (as' := [mI (nI j)]) (by rw [zi_nI]) (sp_bits (by omega) ?_)
            have hbj := bnF_le j 8
            have hPj : P set j ∧ TM V (tn v1) j W' := by
              rcases hF.2 with ⟨-, x⟩ | ⟨-, j', x1, x2, x3, -⟩
              · omega
              · have : j = j' := by omega
                subst this
                exact ⟨x1, x3⟩
            refine ifle (by omega) (by omega) (fun c9 => stay (fun j2 hj hf hT => ?_) (Int.le_refl _) _ _ fr3) (fun c9 => ?_)
            · have : j = j2 := by omega
              subst this
              have := hj.1
              unfold kyM
              omega
            · have hge0 := (TM_ge hI.ok hPj.2).1
              have hT : TM V (tn v1) set W' := by
                rcases e with ⟨x, -⟩ | ⟨x, -⟩
                · omega
                · exact x
              refine v_X8_moss_8 _ _ _ _ _ _ _ ⟨fun _ => ?_, fun c => absurd ?_ c⟩
              · rw [nI_1, ← zi_nI set]
                have hPj1 := hPj.1.1
                have := ih (set + 1) M3 set W' (mI (zi W')) (by omega) fr3 ((hF.eq (i := set) hT hge (by unfold kyM; omega)).cong hQ)
                rw [← zi_nI (set + 1)] at this ⊢
                exact this
              · rw [show (0 : Int32) = zi 0 from rfl, zi_le (by decide) (by decide) (by omega) (by omega)]
                exact hge0
        | succ r ih2 =>
          intro i M2 hi2 fr2 h9 hl
          have hI2 := hI.keep fr2
          have hiv : i < vn V := by omega
          refine v_X8_moss_4 _ _ _ _ _ _ _ ?_
          rw [hI2.lnP.1]
          have e31 : (3 : Int32) * nI i + 1 = nI (3 * i + 1) := by rw [E3, nI_1]
          have k6 : ∀ v, Keep M (up M2 6 (3 * i + 1) v) := fun v => fr2.trans (fun k j q => by
            rw [up_k]
            rintro rfl
            exact q (by unfold scr; omega))
          refine ifle (by omega) (by omega) (fun c => by omega) (fun _ => sp_has (by omega) (by omega) (ifb (fun e => ⟨vpn _ e31 (by omega) (by decide), vpn _ e31 (by omega) (by decide), ?_⟩) (fun e => ⟨vpn _ e31 (by omega) (by decide), ?_⟩)))
          all_goals
            rw [cln _ e31 (by omega), nI_1]
            refine ih2 (i + 1) _ (by omega) (k6 _) (by rw [up_k (by decide)]; exact h9) (fun h hh => ⟨by rw [up_j (by omega)]; exact (hl h hh).1, by rw [up_j (by omega)]; exact (hl h hh).2.1, fun hh2 => ?_⟩)
            by_cases c : h = i
            · subst c
              rw [up_at]
              show _ = zi (if set.testBit h then 0 else loH (vG V) h)
              rw [e]
              first | exact (hI2.lnP.2 h hiv).2.1 | rfl
            · rw [up_j (by omega)]
              exact (hl h hh).2.2 (by omega)
      refine m_asLane hI1 (fun M2 f2 l2 => inner (vn V) 0 M2 (by omega) (fr.trans f2) l2.1 (fun h hh => ⟨(l2.2 h hh).1, (l2.2 h hh).2.2, fun q => absurd q (Nat.not_lt_zero h)⟩))
  exact key (2 ^ vn V) 0 M (-6) (-6) none (by omega) (Keep.rfl' M) (Fnd.none (fun i q => absurd q.1 (Nat.not_lt_zero i)))
end
section
/-! THE PAD: a lane -/
def sgK (j : Nat) : Nat := ([98, 100, 114, 99, 104, 108] : List Nat).getD j 0
def kSf (s : Nat) : Nat → Nat → Nat
  | 0, _ => 9
  | m + 1, j => if sgK j = s then j else kSf s m (j + 1)
/-- the kind of a sign (9: none) -/
def kS (s : Nat) : Nat := kSf s 6 0
def ksI (s : Nat) : Int32 := if kS s < 6 then nI (kS s) else -6
theorem kS_eq {s : Nat} : kS s = if s = 98 then 0 else if s = 100 then 1 else if s = 114 then 2 else if s = 99 then 3 else if s = 104 then 4 else if s = 108 then 5 else 9 := by
  unfold kS kSf kSf kSf kSf kSf kSf kSf sgK
  simp only [eq_comm (b := s)]
  rfl
theorem kS_le (s : Nat) : kS s < 6 ∨ kS s = 9 := by
  rw [kS_eq]
  repeat' split
  all_goals first | (left; decide) | (right; rfl)
theorem sp_kindBySign {d : Nat} {k : mQ} {M : mM} {s : Nat} (hR : ROK M) (hs : s < 2147483648) (h : k (mI (ksI s)) M) : wpD mB mNL (d + 2) zX4_kindBySign [mI (nI s)] M k := by
  have key : ∀ m j, j + m = 6 → kSf s m j = kS s → jJ kB_X4_kindBySign (d + 1) k 1 [mI (nI s), mI (nI j)] [] M := by
    intro m
    induction m with
    | zero =>
      intro j hj e
      refine v_X4_kindBySign_1 _ _ (ifle (a := 6) (b := j) (by decide) (by omega) (fun _ => ?_) (fun c => by omega))
      unfold ksI at h
      rw [← e] at h
      exact h
    | succ m ih =>
      intro j hj e
      refine v_X4_kindBySign_1 _ _ (ifle (a := 6) (b := j) (by decide) (by omega) (fun c => by omega) (fun _ => sp_cell_ro (by omega) (by decide) ?_))
      have e1 : M (1000 + 5) j = nI (sgK j) := by
        rw [hR.2.2.2 j (by omega)]
        have : ∀ j, j < 6 → ([98, 100, 114, 99, 104, 108] : List Int32).getD j 0 = nI (sgK j) := by decide
        exact this j (by omega)
      have e2 : sgK j < 200 := by
        have : ∀ j, j < 6 → sgK j < 200 := by decide
        exact this j (by omega)
      show (_ ∧ _)
      rw [e1, nI_eq (by omega) hs, nI_1]
      unfold kSf at e
      refine ⟨fun c => ih (j + 1) (by omega) (by rw [if_neg c] at e; exact e), fun c => ?_⟩
      rw [if_pos c] at e
      unfold ksI at h
      rw [← e, if_pos (by omega)] at h
      exact h
  exact v_X4_kindBySign_0 _ (key 6 0 (by decide) rfl)
theorem sp_kindOfM {d : Nat} {k : mQ} {M : mM} {s : Nat} (hs : s < 2147483648) (h : k (mI (ksI s)) M) : wpD mB mNL (d + 1) zX8_kindOf [mI (nI s)] M k := by
  have no : (s ≠ 98 ∧ s ≠ 100 ∧ s ≠ 114 ∧ s ≠ 99 ∧ s ≠ 104 ∧ s ≠ 108) → k (mI (-6)) M := fun ⟨h1, h2, h3, h4, h5, h6⟩ => by
    unfold ksI at h
    rw [kS_eq, if_neg h1, if_neg h2, if_neg h3, if_neg h4, if_neg h5, if_neg h6, if_neg (by decide)] at h
    exact h
  refine v_X8_kindOf_0 _ ?_
  rw [nI_ti hs]
  refine ⟨fun c => no (by omega), fun c => ?_, fun c => ?_, fun c => ?_, fun c => no (by omega), fun c => no (by omega), fun c => no (by omega), fun c => ?_, fun c => no (by omega), fun c => no (by omega), fun c => no (by omega), fun c => ?_, fun c => no (by omega), fun c => no (by omega), fun c => no (by omega), fun c => no (by omega), fun c => no (by omega), fun c => ?_, trivial⟩
  · rw [show s = 98 by omega] at h; exact h
  · rw [show s = 99 by omega] at h; exact h
  · rw [show s = 100 by omega] at h; exact h
  · rw [show s = 104 by omega] at h; exact h
  · rw [show s = 108 by omega] at h; exact h
  · rw [show s = 114 by omega] at h; exact h
/-- houses, brooks, the loss and the brook said ahead of the next, kinds, losses, brooks ahead -/
abbrev LnS : Type := Nat × Nat × Nat × Bool × (Nat → Nat) × (Nat → Int) × (Nat → Int)
def lnSt (a : LnS) (s : Nat) : Option LnS :=
  if 8 ≤ a.1 then none else
  if kS s < 6 then some (a.1 + 1, (if a.2.2.2.1 then a.2.1 + 1 else a.2.1), 0, false, (fun h => if h = a.1 then kS s else a.2.2.2.2.1 h), (fun h => if h = a.1 then (a.2.2.1 : Int) else a.2.2.2.2.2.1 h), fun h => if h = a.1 then (if a.2.2.2.1 then (a.2.1 : Int) else -6) else a.2.2.2.2.2.2 h) else
  if 49 ≤ s ∧ s ≤ 57 ∧ a.2.2.1 = 0 ∧ a.2.2.2.1 = false then some (a.1, a.2.1, s - 48, false, a.2.2.2.2) else
  if s = 42 ∧ a.2.2.2.1 = false ∧ a.2.1 < 4 then some (a.1, a.2.1, a.2.2.1, true, a.2.2.2.2) else none
def runL (p : Nat → Nat) : Nat → Nat → LnS → Int × LnS
  | 0, i, a => (if a.1 = 0 ∨ 0 < a.2.2.1 ∨ a.2.2.2.1 = true then (i : Int) else -6, a)
  | m + 1, i, a => match lnSt a (p i) with | none => ((i : Int), a) | some a' => runL p m (i + 1) a'
theorem runL_n {p : Nat → Nat} {m i : Nat} {a : LnS} (h : lnSt a (p i) = none) : runL p (m + 1) i a = ((i : Int), a) := by
  rw [runL, h]
theorem runL_s {p : Nat → Nat} {m i : Nat} {a a' : LnS} (h : lnSt a (p i) = some a') : runL p (m + 1) i a = runL p m (i + 1) a' := by
  rw [runL, h]
def LnSk (a : LnS) : Prop := a.1 ≤ 8 ∧ (a.2.1 + (if a.2.2.2.1 then 1 else 0) ≤ 4) ∧ a.2.2.1 ≤ 9 ∧ ∀ h, h < a.1 → a.2.2.2.2.1 h < 6 ∧ (0 ≤ a.2.2.2.2.2.1 h ∧ a.2.2.2.2.2.1 h ≤ 9) ∧ (a.2.2.2.2.2.2 h = -6 ∨ (0 ≤ a.2.2.2.2.2.2 h ∧ a.2.2.2.2.2.2 h < a.2.1))
theorem lnSt_ok {a a' : LnS} {s : Nat} (h : LnSk a) (e : lnSt a s = some a') : LnSk a' := by
  obtain ⟨m, b, l, g, kd, lo, br⟩ := a
  obtain ⟨h1, h2, h3, h4⟩ := h
  unfold lnSt at e
  dsimp only at h1 h2 h3 h4 e
  split at e
  · cases e
  · split at e
    · next c1 c2 =>
      cases e
      refine ⟨by dsimp only; omega, ?_, Nat.zero_le 9, fun h hh => ?_⟩
      · dsimp only
        cases g <;> simp_all
      · dsimp only at hh ⊢
        by_cases c : h = m
        · subst c
          simp only [if_true]
          refine ⟨c2, ⟨by omega, by omega⟩, ?_⟩
          cases g
          · left; rfl
          · right; simp only [if_true]; omega
        · have := h4 h (by omega)
          simp only [c, if_false]
          refine ⟨this.1, this.2.1, ?_⟩
          rcases this.2.2 with q | q
          · exact Or.inl q
          · right
            refine ⟨q.1, ?_⟩
            split <;> omega
    · split at e
      · next c1 c2 c3 =>
        cases e
        refine ⟨h1, ?_, by dsimp only; omega, h4⟩
        rw [c3.2.2.2] at h2
        exact h2
      · split at e
        · next c4 =>
          cases e
          exact ⟨h1, by show b + 1 ≤ 4; omega, h3, h4⟩
        · cases e
theorem runL_ok {p : Nat → Nat} : ∀ m i a, LnSk a → LnSk (runL p m i a).2
  | 0, _, _, h => h
  | m + 1, i, a, h => by
    cases e : lnSt a (p i) with
    | none => rw [runL_n e]; exact h
    | some a' => rw [runL_s e]; exact runL_ok m (i + 1) a' (lnSt_ok h e)
/-- row o of memory holds the lane read so far -/
def LaC (a : LnS) (M : mM) (o : Nat) : Prop := M o 0 = nI a.1 ∧ M o 1 = nI a.2.1 ∧ ∀ h, h < a.1 → M (o + 1) h = nI (a.2.2.2.2.1 h) ∧ M (o + 2) h = zi (a.2.2.2.2.2.1 h) ∧ M (o + 3) h = zi (a.2.2.2.2.2.2 h)
theorem sp_addHouse {d : Nat} {k : mQ} {M : mM} {o s : Nat} {a : LnS} (hL : LaC a M o) (h8 : a.1 < 8) (hk : kS s < 6)
    (h : ∀ M' a', lnSt a s = some a' → (∀ k j, k < o ∨ o + 3 < k → M' k j = M k j) → LaC a' M' o → k none M') : wpD mB mNL (d + 2) zX2_addHouse [mR 2 0 o, mI (nI (kS s)), mI (nI a.2.2.1), mI (bI a.2.2.2.1)] M k := by
  obtain ⟨m, b, l, g, kd, lo, br⟩ := a
  obtain ⟨l1, l2, l3⟩ := hL
  dsimp only at l1 l2 l3 h8 ⊢
  have ea : lnSt (m, b, l, g, kd, lo, br) s = some (m + 1, (if g then b + 1 else b), 0, false, (fun h => if h = m then kS s else kd h), (fun h => if h = m then (l : Int) else lo h), fun h => if h = m then (if g then (b : Int) else -6) else br h) := by
    unfold lnSt
    dsimp only
    rw [if_neg (by omega), if_pos hk]
  refine v_X2_addHouse_0 _ _ _ _ (sp_isFull l1 (by omega) (ifb (fun _ => ?_) (fun e => absurd (of_decide_eq_true e) (by omega))))
  rw [l1]
  refine sp_setCell (by omega) (by decide) ?_
  have e1 : (up M (o + 1) m (nI (kS s))) o 0 = nI m := by rw [up_k (by omega)]; exact l1
  show wpD _ _ _ _ [_, mI ((up M (o + 1) m (nI (kS s))) o 0), _] _ _
  rw [e1]
  refine sp_setCell (by omega) (by decide) ?_
  have e2 : (up (up M (o + 1) m (nI (kS s))) (o + 2) m (nI l)) o 0 = nI m := by rw [up_k (by omega)]; exact e1
  have e3 : (up (up M (o + 1) m (nI (kS s))) (o + 2) m (nI l)) o 1 = nI b := by rw [up_k (by omega), up_k (by omega)]; exact l2
  have fin : ∀ M3 (v : Int) bb, M3 = up (up (up M (o + 1) m (nI (kS s))) (o + 2) m (nI l)) (o + 3) m (zi v) → v = (if g then (b : Int) else -6) → ∀ M4, (∀ k j, k ≠ o → M4 k j = M3 k j) → M4 o 0 = nI (m + 1) → M4 o 1 = nI bb → bb = (if g then b + 1 else b) → k none M4 := by
    intro M3 v bb eM ev M4 f4 e40 e41 eb
    have r1 : ∀ h, M4 (o + 1) h = if h = m then nI (kS s) else M (o + 1) h := fun h => by
      rw [f4 _ _ (by omega), eM, up_k (by omega), up_k (by omega)]
      by_cases c : h = m
      · rw [if_pos c, c, up_at]
      · rw [if_neg c, up_j c]
    have r2 : ∀ h, M4 (o + 2) h = if h = m then nI l else M (o + 2) h := fun h => by
      rw [f4 _ _ (by omega), eM, up_k (by omega)]
      by_cases c : h = m
      · rw [if_pos c, c, up_at]
      · rw [if_neg c, up_j c, up_k (by omega)]
    have r3 : ∀ h, M4 (o + 3) h = if h = m then zi v else M (o + 3) h := fun h => by
      rw [f4 _ _ (by omega), eM]
      by_cases c : h = m
      · rw [if_pos c, c, up_at]
      · rw [if_neg c, up_j c, up_k (by omega), up_k (by omega)]
    refine h M4 _ ea (fun k j q => ?_) ⟨e40, by rw [e41, eb], fun h hh => ?_⟩
    · rw [f4 k j (by omega), eM, up_k (by omega), up_k (by omega), up_k (by omega)]
    · rw [r1, r2, r3]
      dsimp only at hh ⊢
      by_cases c : h = m
      · simp only [c, if_true, ev]
        exact ⟨trivial, nI_zi l, trivial⟩
      · simp only [c, if_false]
        exact l3 h (by omega)
  cases g
  · refine ⟨fun _ => ?_, fun c => absurd rfl c⟩
    rw [e2]
    refine v_X2_addHouse_3 _ _ _ _ _ _ (sp_setCell (by omega) (by decide) ⟨fun _ => ?_, fun c => absurd rfl c⟩)
    refine fin _ (-6) b rfl rfl _ (fun k j q => up_k q) ?_ ?_ rfl
    · rw [up_at, up_k (by omega), e2, nI_1]
    · rw [up_j (by decide), up_k (by omega), e3]
  · refine ⟨fun c => absurd c (by decide), fun _ => ?_⟩
    rw [e2, e3]
    refine v_X2_addHouse_3 _ _ _ _ _ _ (sp_setCell (by omega) (by decide) ⟨fun c => absurd c (by decide), fun _ => ?_⟩)
    refine fin _ b (b + 1) (by rw [zi_nI]) rfl _ (fun k j q => by rw [up_k q, up_k q]) ?_ ?_ rfl
    · rw [up_j (by decide), up_at, up_k (by omega), e2, nI_1]
    · rw [up_at, up_j (by decide), up_k (by omega), e3, nI_1]
end
section
def aL0 : LnS := (0, 0, 0, false, fun _ => 0, fun _ => 0, fun _ => 0)
theorem aL0_ok : LnSk aL0 := ⟨by decide, by decide, by decide, fun h hh => absurd hh (Nat.not_lt_zero h)⟩
theorem ksI_9 {s : Nat} (h : kS s = 9) : ksI s = -6 := by unfold ksI; rw [h]; rfl
theorem ksI_k {s : Nat} (h : kS s < 6) : ksI s = nI (kS s) ∧ ksI s ≠ -6 := by
  have : ∀ n, n < 6 → nI n ≠ -6 := by decide
  unfold ksI
  rw [if_pos h]
  exact ⟨rfl, this _ h⟩
set_option maxHeartbeats 2000000 in
theorem sp_readLane {d : Nat} {k : mQ} {M : mM} {c : Nat} {p : Nat → Nat} (hc : c ≤ 48) (h15 : M 15 0 = nI c) (h20 : ∀ j, j < c → (33 ≤ p j ∧ p j ≤ 126) ∧ M 20 j = nI (p j)) (hR : ROK M)
    (h : ∀ M', (∀ k j, k < 16 ∨ 19 < k → M' k j = M k j) → ((runL p c 0 aL0).1 = -6 → LaC (runL p c 0 aL0).2 M' 16) → k (mI (zi (runL p c 0 aL0).1)) M') : wpD mB mNL (d + 4) zX4_readLane [mR 4 0 15] M k := by
  have key : ∀ r i (a : LnS) M1 u4 u5, i + r = c → (∀ k j, k < 16 ∨ 19 < k → M1 k j = M k j) → LaC a M1 16 → LnSk a →
      (∀ M', (∀ k j, k < 16 ∨ 19 < k → M' k j = M k j) → ((runL p r i a).1 = -6 → LaC (runL p r i a).2 M' 16) → k (mI (zi (runL p r i a).1)) M') →
      jJ kB_X4_readLane (d + 3) k 1 [mR 4 0 15, mI (nI a.2.2.1), mI (bI a.2.2.2.1), mI (nI i), u4, u5] [] M1 := by
    intro r
    induction r with
    | zero =>
      rintro i ⟨m, b, l, g, kd, lo, br⟩ M1 u4 u5 hi f hL ok hK
      have hic : i = c := by omega
      subst hic
      obtain ⟨l1, l2, l3⟩ := id hL
      obtain ⟨q1, q2, q3, -⟩ := ok
      dsimp only at l1 q1 q2 q3 ⊢
      have h15' : M1 15 0 = nI i := by rw [f 15 0 (by decide)]; exact h15
      have yes : (m = 0 ∨ 0 < l ∨ g = true) → k (mI (nI i)) M1 := fun q => by
        have := hK M1 f (fun _ => hL)
        rw [runL, if_pos q, zi_nI] at this
        exact this
      have no : ¬ (m = 0 ∨ 0 < l ∨ g = true) → k (mI (-6)) M1 := fun q => by
        have := hK M1 f (fun _ => hL)
        rw [runL, if_neg q] at this
        exact this
      refine v_X4_readLane_1 _ _ _ _ _ ?_
      rw [h15', l1]
      refine ifle (by omega) (by omega) (fun _ => ⟨fun c1 => yes (Or.inl (nI_inj (by omega) (by decide) c1)), fun c1 => iflt (a := 0) (b := l) (by decide) (by omega) (fun c2 => yes (Or.inr (Or.inl c2))) (fun c2 => ifb (fun e => no ?_) (fun e => yes (Or.inr (Or.inr e))))⟩) (fun q => by omega)
      rintro (x | x | x)
      · exact c1 (by rw [x]; rfl)
      · omega
      · rw [e] at x; cases x
    | succ r ih =>
      rintro i ⟨m, b, l, g, kd, lo, br⟩ M1 u4 u5 hi f hL ok h
      obtain ⟨l1, l2, l3⟩ := id hL
      obtain ⟨q1, q2, q3, -⟩ := id ok
      obtain ⟨s1, s2⟩ := h20 i (by omega)
      dsimp only at l1 l2 q1 q2 q3 ⊢
      have h15' : M1 15 0 = nI c := by rw [f 15 0 (by decide)]; exact h15
      have e20 : M1 20 i = nI (p i) := by rw [f 20 i (by decide)]; exact s2
      have none' : lnSt (m, b, l, g, kd, lo, br) (p i) = none → k (mI (nI i)) M1 := fun e => by
        have := h M1 f
        rw [runL_n e] at this
        have := this (fun q => by
          have : (i : Int) = -6 := q
          omega)
        rw [zi_nI] at this
        exact this
      have some' : ∀ a', lnSt (m, b, l, g, kd, lo, br) (p i) = some a' → ∀ M2 u4 u5, (∀ k j, k < 16 ∨ 19 < k → M2 k j = M k j) → LaC a' M2 16 → jJ kB_X4_readLane (d + 3) k 1 [mR 4 0 15, mI (nI a'.2.2.1), mI (bI a'.2.2.2.1), mI (nI (i + 1)), u4, u5] [] M2 := fun a' e M2 u4 u5 f2 hL2 => by
        refine ih (i + 1) a' M2 u4 u5 (by omega) f2 hL2 (lnSt_ok ok e) ?_
        rw [← runL_s e]
        exact h
      refine v_X4_readLane_1 _ _ _ _ _ ?_
      rw [h15', nI_1]
      refine ifle (by omega) (by omega) (fun q => by omega) (fun _ => sp_cell (by omega) (by decide) ?_)
      rw [e20]
      refine sp_kindBySign (hR.of (fun k j q => f k j (by omega))) (by omega) (sp_isFull l1 (by omega) (ifb (fun e8 => ?_) (fun e8 => none' ?_)))
      · have m8 : m < 8 := Nat.not_le.mp (of_decide_eq_false e8)
        rcases kS_le (p i) with hk | hk
        · obtain ⟨k1, k2⟩ := ksI_k hk
          refine ⟨fun q => absurd q k2, fun _ => ?_⟩
          rw [k1]
          refine sp_addHouse (o := 16) hL m8 hk (fun M2 a' ea f2 l2' => ?_)
          have := some' a' ea M2 (mI (nI (p i))) (mI (nI (kS (p i)))) (fun k j q => by rw [f2 k j (by omega)]; exact f k j q) l2'
          have e2 : a'.2.2.1 = 0 ∧ a'.2.2.2.1 = false := by
            unfold lnSt at ea
            dsimp only at ea
            rw [if_neg (by omega), if_pos hk] at ea
            cases ea
            exact ⟨rfl, rfl⟩
          rw [e2.1, e2.2] at this
          exact this
        · rw [ksI_9 hk]
          refine ⟨fun _ => ?_, fun q => absurd rfl q⟩
          have base : lnSt (m, b, l, g, kd, lo, br) (p i) = if 49 ≤ p i ∧ p i ≤ 57 ∧ l = 0 ∧ g = false then some (m, b, p i - 48, false, kd, lo, br) else if p i = 42 ∧ g = false ∧ b < 4 then some (m, b, l, true, kd, lo, br) else none := by
            unfold lnSt
            dsimp only
            rw [if_neg (by omega), if_neg (by omega)]
          have four : ¬ (49 ≤ p i ∧ p i ≤ 57 ∧ l = 0 ∧ g = false) → jJ kB_X4_readLane (d + 3) k 4 [mR 4 0 15, mI (nI l), mI (bI g), mI (nI i), mI (nI (p i)), mI (-6)] [] M1 := fun nd => by
            rw [if_neg nd] at base
            refine v_X4_readLane_4 _ _ _ _ _ ?_
            rw [show (42 : Int32) = nI 42 from rfl, nI_eq (by omega) (by decide), l2, nI_1]
            refine ⟨fun q => none' (by rw [base, if_neg (fun x => q x.1)]), fun q => ifb' (fun eg => none' (by rw [base, if_neg (fun x => by rw [eg] at x; cases x.2.1)])) (fun eg => ifle (a := 4) (b := b) (by decide) (by omega) (fun q2 => none' (by rw [base, if_neg (fun x => by omega)])) (fun q2 => ?_))⟩
            rw [if_pos ⟨q, eg, q2⟩] at base
            exact some' _ base M1 _ _ f hL
          rw [show (49 : Int32) = nI 49 from rfl, show (57 : Int32) = nI 57 from rfl, show (48 : Int32) = nI 48 from rfl, nI_ltI (by omega) (by decide), nI_ltI (by decide) (by omega)]
          refine ⟨fun q => four (by omega), fun w1 => ⟨fun q => four (by omega), fun w2 => ⟨fun q => four (fun x => q (by rw [x.2.2.1]; rfl)), fun w3 => ifb' (fun eg => four (fun x => by rw [eg] at x; cases x.2.2.2)) (fun eg => ?_)⟩⟩⟩
          have w4 : l = 0 := nI_inj (by omega) (by decide) w3
          rw [if_pos ⟨by omega, by omega, w4, eg⟩] at base
          have := some' _ base M1 (mI (nI (p i))) (mI (-6)) f hL
          have e48 : nI (p i) - nI 48 = nI (p i - 48) := by
            rw [nI_zi, nI_zi, nI_zi, zi_sub]
            congr 1
            omega
          rw [e48, eg]
          exact this
      · have m8 : 8 ≤ m := of_decide_eq_true e8
        unfold lnSt
        dsimp only
        rw [if_pos m8]
  refine v_X4_readLane_0 (sp_lclear ?_)
  refine key c 0 aL0 _ none none (by omega) (fun k j q => by rw [up_k (by omega), up_k (by omega)]) ⟨by rw [up_j (by decide), up_at]; rfl, by rw [up_at]; rfl, fun h hh => absurd hh (Nat.not_lt_zero h)⟩ aL0_ok h
/-- what the model knows of the place in the lane -/
def lv3 (a : LnS) : Nat := if a.2.2.2.1 then 2 else if a.2.2.1 = 0 then 0 else 1
def lv2 (a : LnS) : Nat := if a.2.2.2.1 then a.2.1 + 1 else a.2.1
theorem sp_lf7 {d : Nat} {k : mQ} {M : mM} {m v2 i : Nat} {v3 s : Int32} {u8 : mV} (D S H : Bool) (hm : m ≤ 8) (h8 : m = 8 → k (mI (nI i)) M) (h0 : D = false → S = false → H = false → k (mI (nI i)) M)
    (h1 : m ≠ 8 → (D = true ∨ S = true ∨ H = true) → jJ kB_X8_laneFault d k 1 [mR 8 0 0, mI (nI (if H then m + 1 else m)), mI (nI (if S then v2 + 1 else v2)), mI (nI (if H then 0 else if D then 1 else 2)), mI (nI (i + 1)), mI s, mI (bI D), mI (bI S), mI (bI H)] [] M) :
    jJ kB_X8_laneFault d k 7 [mR 8 0 0, mI (nI m), mI (nI v2), mI v3, mI (nI i), mI s, mI (bI D), mI (bI S), u8] [mI (bI H)] M := by
  have nine : m ≠ 8 → (D = true ∨ S = true ∨ H = true) → jJ kB_X8_laneFault d k 9 [mR 8 0 0, mI (nI m), mI (nI v2), mI v3, mI (nI i), mI s, mI (bI D), mI (bI S), mI (bI H)] [] M := fun q1 q2 => by
    have h9 := h1 q1 q2
    have e0 : ∀ x, nI x + (0 : Int32) = nI x := fun x => by rw [show (0 : Int32) = nI 0 from rfl, nI_add, Nat.add_zero]
    refine v_X8_laneFault_9 _ _ _ _ _ _ _ _ (ifb (fun eH => v_X8_laneFault_11 _ _ _ _ _ _ _ _ _ _ (ifb (fun eS => v_X8_laneFault_13 _ _ _ _ _ _ _ _ _ _ (ifb (fun _ => ifb (fun eD => ?_) (fun eD => ?_)) (fun x => ?_))) (fun eS => v_X8_laneFault_13 _ _ _ _ _ _ _ _ _ _ (ifb (fun _ => ifb (fun eD => ?_) (fun eD => ?_)) (fun x => ?_))))) (fun eH => v_X8_laneFault_11 _ _ _ _ _ _ _ _ _ _ (ifb (fun eS => v_X8_laneFault_13 _ _ _ _ _ _ _ _ _ _ (ifb (fun x => ?_) (fun _ => ?_))) (fun eS => v_X8_laneFault_13 _ _ _ _ _ _ _ _ _ _ (ifb (fun x => ?_) (fun _ => ?_))))))
    · rw [eD, eS, eH] at q2
      rcases q2 with q2 | q2 | q2 <;> cases q2
    · simp only [e0, nI_1]; simp only [eH, eS, eD] at h9 ⊢; exact h9
    · rw [x] at eH; cases eH
    · simp only [e0, nI_1]; simp only [eH, eS, eD] at h9 ⊢; exact h9
    · simp only [e0, nI_1]; simp only [eH, eS, eD] at h9 ⊢; exact h9
    · rw [x] at eH; cases eH
    · rw [x] at eH; cases eH
    · simp only [e0, nI_1]; simp only [eH, eS] at h9 ⊢; exact h9
    · rw [x] at eH; cases eH
    · simp only [e0, nI_1]; simp only [eH, eS] at h9 ⊢; exact h9
  refine v_X8_laneFault_7 _ _ _ _ _ _ _ _ _ ⟨fun c => h8 (nI_inj (by omega) (by decide) c), fun c => ?_⟩
  have m8 : m ≠ 8 := fun q => c (by rw [q]; rfl)
  exact ifb' (fun eD => nine m8 (Or.inl eD)) (fun eD => ifb' (fun eS => nine m8 (Or.inr (Or.inl eS))) (fun eS => ifb' (fun eH => nine m8 (Or.inr (Or.inr eH))) (fun eH => h0 eD eS eH)))

set_option maxHeartbeats 2000000 in
theorem sp_laneFault {d : Nat} {k : mQ} {M : mM} {c : Nat} {p : Nat → Nat} (hc : c ≤ 48) (h02 : M 0 2 = nI c) (h3 : ∀ j, j < c → (33 ≤ p j ∧ p j ≤ 126) ∧ M 3 j = nI (p j)) (h : k (mI (zi (runL p c 0 aL0).1)) M) : wpD mB mNL (d + 2) zX8_laneFault [mR 8 0 0] M k := by
  have key : ∀ r i (a : LnS) u5 u6 u7 u8, i + r = c → LnSk a → k (mI (zi (runL p r i a).1)) M → jJ kB_X8_laneFault (d + 1) k 1 [mR 8 0 0, mI (nI a.1), mI (nI (lv2 a)), mI (nI (lv3 a)), mI (nI i), u5, u6, u7, u8] [] M := by
    intro r
    induction r with
    | zero =>
      rintro i ⟨m, b, l, g, kd, lo, br⟩ u5 u6 u7 u8 hi ok hK
      have hic : i = c := by omega
      subst hic
      obtain ⟨q1, q2, q3, -⟩ := ok
      dsimp only at q1 q2 q3 ⊢
      have yes : (m = 0 ∨ 0 < l ∨ g = true) → k (mI (nI i)) M := fun q => by
        rw [runL, if_pos q, zi_nI] at hK
        exact hK
      have no : ¬ (m = 0 ∨ 0 < l ∨ g = true) → k (mI (-6)) M := fun q => by
        rw [runL, if_neg q] at hK
        exact hK
      refine v_X8_laneFault_1 _ _ _ _ _ _ _ _ ?_
      rw [h02]
      refine ifle (by omega) (by omega) (fun _ => ⟨fun c1 => yes (Or.inl (nI_inj (by omega) (by decide) c1)), fun c1 => ?_⟩) (fun q => by omega)
      have m0 : m ≠ 0 := fun q => c1 (by rw [q]; rfl)
      have l3 : lv3 (m, b, l, g, kd, lo, br) ≤ 2 := by
        unfold lv3
        repeat' split
        all_goals decide
      refine ifle (a := lv3 (m, b, l, g, kd, lo, br)) (b := 0) (by omega) (by decide) (fun c2 => no ?_) (fun c2 => yes ?_)
      · unfold lv3 at c2
        dsimp only at c2
        cases g
        · simp only [Bool.false_eq_true, if_false] at c2
          split at c2
          · rintro (x | x | x)
            · exact m0 x
            · omega
            · cases x
          · omega
        · simp only [if_true] at c2
          omega
      · unfold lv3 at c2
        dsimp only at c2
        cases g
        · simp only [Bool.false_eq_true, if_false] at c2
          split at c2
          · omega
          · right; left; omega
        · right; right; rfl
    | succ r ih =>
      rintro i ⟨m, b, l, g, kd, lo, br⟩ u5 u6 u7 u8 hi ok hK
      obtain ⟨q1, q2, q3, -⟩ := id ok
      obtain ⟨s1, s2⟩ := h3 i (by omega)
      dsimp only at q1 q2 q3 ⊢
      have none' : lnSt (m, b, l, g, kd, lo, br) (p i) = none → k (mI (nI i)) M := fun e => by
        rw [runL_n e, zi_nI] at hK
        exact hK
      have some' : ∀ a', lnSt (m, b, l, g, kd, lo, br) (p i) = some a' → ∀ u5 u6 u7 u8, jJ kB_X8_laneFault (d + 1) k 1 [mR 8 0 0, mI (nI a'.1), mI (nI (lv2 a')), mI (nI (lv3 a')), mI (nI (i + 1)), u5, u6, u7, u8] [] M := fun a' e u5 u6 u7 u8 => by
        refine ih (i + 1) a' u5 u6 u7 u8 (by omega) (lnSt_ok ok e) ?_
        rw [← runL_s e]
        exact hK
      -- the three flags
      have b2 : lv2 (m, b, l, g, kd, lo, br) = if g then b + 1 else b := rfl
      have b3 : lv3 (m, b, l, g, kd, lo, br) = if g then 2 else if l = 0 then 0 else 1 := rfl
      have seven : ∀ (D S : Bool) u8, (D = true ↔ (49 ≤ p i ∧ p i ≤ 57) ∧ lv3 (m, b, l, g, kd, lo, br) = 0) → (S = true ↔ p i = 42 ∧ lv3 (m, b, l, g, kd, lo, br) < 2 ∧ lv2 (m, b, l, g, kd, lo, br) < 4) → jJ kB_X8_laneFault (d + 1) k 7 [mR 8 0 0, mI (nI m), mI (nI (lv2 (m, b, l, g, kd, lo, br))), mI (nI (lv3 (m, b, l, g, kd, lo, br))), mI (nI i), mI (nI (p i)), mI (bI D), mI (bI S), u8] [mI (bI (decide (kS (p i) < 6)))] M := fun D S u8 hD hS => by
        have nk : kS (p i) < 6 → ¬ (49 ≤ p i ∧ p i ≤ 57) ∧ p i ≠ 42 := fun q => by
          rw [kS_eq] at q
          constructor
          · intro x
            rw [if_neg (by omega), if_neg (by omega), if_neg (by omega), if_neg (by omega), if_neg (by omega), if_neg (by omega)] at q
            omega
          · intro x
            rw [if_neg (by omega), if_neg (by omega), if_neg (by omega), if_neg (by omega), if_neg (by omega), if_neg (by omega)] at q
            omega
        have st : lnSt (m, b, l, g, kd, lo, br) (p i) = if 8 ≤ m then none else if kS (p i) < 6 then some (m + 1, (if g then b + 1 else b), 0, false, (fun h => if h = m then kS (p i) else kd h), (fun h => if h = m then (l : Int) else lo h), fun h => if h = m then (if g then (b : Int) else -6) else br h) else if 49 ≤ p i ∧ p i ≤ 57 ∧ l = 0 ∧ g = false then some (m, b, p i - 48, false, kd, lo, br) else if p i = 42 ∧ g = false ∧ b < 4 then some (m, b, l, true, kd, lo, br) else none := rfl
        have z3 : lv3 (m, b, l, g, kd, lo, br) = 0 ↔ l = 0 ∧ g = false := by
          rw [b3]
          cases g
          · by_cases x : l = 0 <;> simp [x]
          · simp
        have y3 : lv3 (m, b, l, g, kd, lo, br) < 2 ↔ g = false := by
          rw [b3]
          cases g
          · by_cases x : l = 0 <;> simp [x]
          · simp
        refine sp_lf7 D S _ q1 (fun x => none' (by rw [st, if_pos (by omega)])) (fun eD eS eH => none' ?_) (fun m8 any => ?_)
        · have hk : ¬ kS (p i) < 6 := of_decide_eq_false eH
          by_cases m8 : 8 ≤ m
          · rw [st, if_pos m8]
          · rw [st, if_neg m8, if_neg hk, if_neg, if_neg]
            · rintro ⟨x1, x2, x3⟩
              have : S = true := hS.mpr ⟨x1, y3.mpr x2, by rw [b2, x2]; exact x3⟩
              rw [this] at eS; cases eS
            · rintro ⟨x1, x2, x3, x4⟩
              have : D = true := hD.mpr ⟨⟨x1, x2⟩, z3.mpr ⟨x3, x4⟩⟩
              rw [this] at eD; cases eD
        · rw [if_neg (by omega)] at st
          by_cases hk : kS (p i) < 6
          · rw [if_pos hk] at st
            have eS : S = false := by
              cases S
              · rfl
              · exact absurd (hS.mp rfl).1 (nk hk).2
            have := some' _ st (mI (nI (p i))) (mI (bI D)) (mI (bI S)) (mI (bI (decide (kS (p i) < 6))))
            rw [eS] at this ⊢
            rw [decide_eq_true hk] at this ⊢
            exact this
          · rw [if_neg hk] at st
            rw [decide_eq_false hk] at any ⊢
            by_cases hd : 49 ≤ p i ∧ p i ≤ 57 ∧ l = 0 ∧ g = false
            · rw [if_pos hd] at st
              have eD : D = true := hD.mpr ⟨⟨hd.1, hd.2.1⟩, z3.mpr hd.2.2⟩
              have eS : S = false := by
                cases S
                · rfl
                · have := (hS.mp rfl).1
                  omega
              have := some' _ st (mI (nI (p i))) (mI (bI D)) (mI (bI S)) (mI (bI false))
              have l3' : lv3 (m, b, p i - 48, false, kd, lo, br) = 1 := by
                show (if (false : Bool) = true then 2 else if p i - 48 = 0 then 0 else 1) = 1
                rw [if_neg (by decide), if_neg (by omega)]
              have l2' : lv2 (m, b, p i - 48, false, kd, lo, br) = lv2 (m, b, l, g, kd, lo, br) := by rw [b2, hd.2.2.2]; rfl
              rw [l3', l2'] at this
              rw [eS, eD] at this ⊢
              exact this
            · rw [if_neg hd] at st
              have eD : D = false := by
                cases D
                · rfl
                · have x := hD.mp rfl
                  exact absurd ⟨x.1.1, x.1.2, z3.mp x.2⟩ hd
              have eS : S = true := by
                rw [eD] at any
                rcases any with x | x | x
                · cases x
                · exact x
                · cases x
              obtain ⟨x1, x2, x3⟩ := hS.mp eS
              have eg := y3.mp x2
              rw [b2, eg] at x3
              rw [if_pos ⟨x1, eg, x3⟩] at st
              have := some' _ st (mI (nI (p i))) (mI (bI D)) (mI (bI S)) (mI (bI false))
              have l2' : lv2 (m, b, l, true, kd, lo, br) = lv2 (m, b, l, g, kd, lo, br) + 1 := by rw [b2, eg]; rfl
              rw [l2'] at this
              rw [eS, eD] at this ⊢
              exact this
      have five : ∀ (D S : Bool) u7 u8, (D = true ↔ (49 ≤ p i ∧ p i ≤ 57) ∧ lv3 (m, b, l, g, kd, lo, br) = 0) → (S = true ↔ p i = 42 ∧ lv3 (m, b, l, g, kd, lo, br) < 2 ∧ lv2 (m, b, l, g, kd, lo, br) < 4) → jJ kB_X8_laneFault (d + 1) k 5 [mR 8 0 0, mI (nI m), mI (nI (lv2 (m, b, l, g, kd, lo, br))), mI (nI (lv3 (m, b, l, g, kd, lo, br))), mI (nI i), mI (nI (p i)), mI (bI D), u7, u8] [mI (bI S)] M := fun D S u7 u8 hD hS => by
        refine v_X8_laneFault_5 _ _ _ _ _ _ _ _ _ (sp_kindOfM (by omega) ?_)
        rcases kS_le (p i) with hk | hk
        · obtain ⟨k1, -⟩ := ksI_k hk
          have h7 := seven D S u8 hD hS
          rw [decide_eq_true hk] at h7
          rw [k1]
          exact ⟨fun x => absurd x (nI_pos (by omega)), fun _ => h7⟩
        · have h7 := seven D S u8 hD hS
          rw [decide_eq_false (by omega)] at h7
          rw [ksI_9 hk]
          exact ⟨fun _ => h7, fun x => absurd (by decide) x⟩
      have lv3b : lv3 (m, b, l, g, kd, lo, br) < 3 := by
        rw [b3]
        repeat' split
        all_goals decide
      have lv2b : lv2 (m, b, l, g, kd, lo, br) < 6 := by
        rw [b2]
        split <;> omega
      have three : ∀ (D : Bool) u6 u7 u8, (D = true ↔ (49 ≤ p i ∧ p i ≤ 57) ∧ lv3 (m, b, l, g, kd, lo, br) = 0) → jJ kB_X8_laneFault (d + 1) k 3 [mR 8 0 0, mI (nI m), mI (nI (lv2 (m, b, l, g, kd, lo, br))), mI (nI (lv3 (m, b, l, g, kd, lo, br))), mI (nI i), mI (nI (p i)), u6, u7, u8] [mI (bI D)] M := fun D u6 u7 u8 hD => by
        have four : ¬ (p i = 42 ∧ lv3 (m, b, l, g, kd, lo, br) < 2 ∧ lv2 (m, b, l, g, kd, lo, br) < 4) → jJ kB_X8_laneFault (d + 1) k 4 [mR 8 0 0, mI (nI m), mI (nI (lv2 (m, b, l, g, kd, lo, br))), mI (nI (lv3 (m, b, l, g, kd, lo, br))), mI (nI i), mI (nI (p i)), mI (bI D), u7, u8] [] M := fun no =>
          v_X8_laneFault_4 _ _ _ _ _ _ _ _ (five D false u7 u8 hD ⟨fun x => absurd x (by decide), fun x => absurd x no⟩)
        refine v_X8_laneFault_3 _ _ _ _ _ _ _ _ _ ?_
        rw [show (42 : Int32) = nI 42 from rfl, nI_eq (by omega) (by decide)]
        refine ⟨fun x => four (fun y => x y.1), fun x => ifle (a := 2) (b := lv3 (m, b, l, g, kd, lo, br)) (by decide) (by omega) (fun y => four (fun z => by omega)) (fun y => ifle (a := 4) (b := lv2 (m, b, l, g, kd, lo, br)) (by decide) (by omega) (fun w => four (fun z => by omega)) (fun w => ?_))⟩
        exact five D true u7 u8 hD ⟨fun _ => ⟨x, y, w⟩, fun _ => rfl⟩
      have two : ¬ ((49 ≤ p i ∧ p i ≤ 57) ∧ lv3 (m, b, l, g, kd, lo, br) = 0) → ∀ u6 u7 u8, jJ kB_X8_laneFault (d + 1) k 2 [mR 8 0 0, mI (nI m), mI (nI (lv2 (m, b, l, g, kd, lo, br))), mI (nI (lv3 (m, b, l, g, kd, lo, br))), mI (nI i), mI (nI (p i)), u6, u7, u8] [] M := fun no u6 u7 u8 =>
        v_X8_laneFault_2 _ _ _ _ _ _ _ _ (three false u6 u7 u8 ⟨fun x => absurd x (by decide), fun x => absurd x no⟩)
      refine v_X8_laneFault_1 _ _ _ _ _ _ _ _ ?_
      rw [h02]
      refine ifle (by omega) (by omega) (fun q => by omega) (fun _ => ⟨vp_in_nI (by omega) (by decide), ?_⟩)
      rw [nI_clamp (by omega), s2]
      have t49 : (49 : Int32).toInt = 49 := by decide
      have t57 : (57 : Int32).toInt = 57 := by decide
      refine sp_inC (fun e => ⟨fun _ => two ?_ _ _ _, fun x => absurd rfl x⟩) (fun e => ⟨fun x => absurd x (by decide), fun _ => ⟨fun x => two ?_ _ _ _, fun x => ?_⟩⟩) <;> rw [nI_ti (by omega), t49, t57] at e
      · omega
      · exact fun y => x (by rw [y.2]; rfl)
      · have := three true u6 u7 u8 ⟨fun _ => ⟨by omega, nI_inj (by omega) (by decide) x⟩, fun _ => rfl⟩
        exact this
  exact v_X8_laneFault_0 (key c 0 aL0 none none none none (by omega) aL0_ok h)
end
section
/-! THE PAD: a day -/
def updN (f : Nat → Nat) (i v : Nat) : Nat → Nat := fun h => if h = i then v else f h
/-- hour, brooks, draws, and the rows of the hours ahead -/
abbrev DyS : Type := Nat × Nat × Nat × (Nat → Nat) × (Nat → Nat)
def dySt (b n : Nat) (a : DyS) (s : Nat) : Option DyS :=
  if s = 47 ∧ a.1 < 5 then some (a.1 + 1, 0, 0, updN a.2.2.2.1 a.1 a.2.1, updN a.2.2.2.2 a.1 a.2.2.1) else
  if 49 ≤ s ∧ s - 49 < b ∧ a.2.1.testBit (s - 49) = false then some (a.1, a.2.1 ||| 2 ^ (s - 49), a.2.2.1, a.2.2.2) else
  if 65 ≤ s ∧ s - 65 < n ∧ a.2.2.1.testBit (s - 65) = false then some (a.1, a.2.1, a.2.2.1 ||| 2 ^ (s - 65), a.2.2.2) else none
def runD (b n : Nat) (p : Nat → Nat) : Nat → Nat → DyS → Int × (Nat → Nat) × (Nat → Nat)
  | 0, i, a => (if a.1 < 5 then (i : Int) else -6, updN a.2.2.2.1 a.1 a.2.1, updN a.2.2.2.2 a.1 a.2.2.1)
  | m + 1, i, a => match dySt b n a (p i) with | none => ((i : Int), a.2.2.2) | some a' => runD b n p m (i + 1) a'
theorem runD_n {b n : Nat} {p : Nat → Nat} {m i : Nat} {a : DyS} (h : dySt b n a (p i) = none) : runD b n p (m + 1) i a = ((i : Int), a.2.2.2) := by rw [runD, h]
theorem runD_s {b n : Nat} {p : Nat → Nat} {m i : Nat} {a a' : DyS} (h : dySt b n a (p i) = some a') : runD b n p (m + 1) i a = runD b n p m (i + 1) a' := by rw [runD, h]
def DyOk (b n : Nat) (a : DyS) : Prop := a.1 ≤ 5 ∧ a.2.1 < 2 ^ b ∧ a.2.2.1 < 2 ^ n ∧ ∀ h, h < a.1 → a.2.2.2.1 h < 2 ^ b ∧ a.2.2.2.2 h < 2 ^ n
theorem dySt_ok {b n : Nat} {a a' : DyS} {s : Nat} (h : DyOk b n a) (e : dySt b n a s = some a') : DyOk b n a' := by
  obtain ⟨hr, B, D, rB, rD⟩ := a
  obtain ⟨h1, h2, h3, h4⟩ := h
  dsimp only at h1 h2 h3 h4
  unfold dySt at e
  dsimp only at e
  split at e
  · next c =>
    cases e
    refine ⟨by dsimp only; omega, Nat.pow_pos (by decide), Nat.pow_pos (by decide), fun h hh => ?_⟩
    dsimp only [updN] at hh ⊢
    by_cases q : h = hr
    · simp only [q, if_true]; exact ⟨h2, h3⟩
    · simp only [q, if_false]; exact h4 h (by omega)
  · split at e
    · next c =>
      cases e
      exact ⟨h1, Nat.or_lt_two_pow h2 (Nat.pow_lt_pow_right (by decide) c.2.1), h3, h4⟩
    · split at e
      · next c =>
        cases e
        exact ⟨h1, h2, Nat.or_lt_two_pow h3 (Nat.pow_lt_pow_right (by decide) c.2.1), h4⟩
      · cases e
def aD0 : DyS := (0, 0, 0, fun _ => 0, fun _ => 0)
theorem aD0_ok {b n : Nat} : DyOk b n aD0 := ⟨Nat.zero_le _, Nat.pow_pos (by decide), Nat.pow_pos (by decide), fun h hh => absurd hh (Nat.not_lt_zero h)⟩
theorem sub_zi {s t : Nat} : nI s - nI t = zi ((s : Int) - t) := by rw [nI_zi, nI_zi, zi_sub]
theorem zi_nat {s t : Nat} (h : t ≤ s) : zi ((s : Int) - t) = nI (s - t) := by rw [nI_zi]; congr 1; omega
theorem sp_keepHour {d : Nat} {k : mQ} {M : mM} {h B D : Nat} (hh : h < 6) (hk : k none (up (up M 21 h (nI B)) 22 h (nI D))) : wpD mB mNL (d + 2) zX4_keepHour [mR 4 0 15, mI (nI h), mI (nI B), mI (nI D)] M k :=
  v_X4_keepHour_0 _ _ _ (sp_setCell (by omega) (by decide) (sp_setCell (by omega) (by decide) hk))
theorem keep_rows {M : mM} {hr B D : Nat} {rB rD : Nat → Nat} (h : ∀ q, q < hr → M 21 q = nI (rB q) ∧ M 22 q = nI (rD q)) : ∀ q, q < hr + 1 → (up (up M 21 hr (nI B)) 22 hr (nI D)) 21 q = nI (updN rB hr B q) ∧ (up (up M 21 hr (nI B)) 22 hr (nI D)) 22 q = nI (updN rD hr D q) := fun q hq => by
  unfold updN
  by_cases e : q = hr
  · subst e
    simp only [if_true]
    exact ⟨by rw [up_k (by decide), up_at], up_at _ _ _ _⟩
  · simp only [e, if_false]
    have := h q (by omega)
    exact ⟨by rw [up_k (by decide), up_j e]; exact this.1, by rw [up_j e, up_k (by decide)]; exact this.2⟩
set_option maxHeartbeats 2000000 in
theorem sp_readDay {d : Nat} {k : mQ} {M : mM} {b n c : Nat} {p : Nat → Nat} (hb : b ≤ 4) (hn : n ≤ 8) (h38 : M 38 0 = nI n) (h381 : M 38 1 = nI b) (hc : c ≤ 48) (h15 : M 15 0 = nI c) (h20 : ∀ j, j < c → (33 ≤ p j ∧ p j ≤ 126) ∧ M 20 j = nI (p j))
    (h : ∀ M', (∀ k j, k < 21 ∨ 22 < k → M' k j = M k j) → ((runD b n p c 0 aD0).1 = -6 → ∀ q, q < 6 → M' 21 q = nI ((runD b n p c 0 aD0).2.1 q) ∧ M' 22 q = nI ((runD b n p c 0 aD0).2.2 q)) → k (mI (zi (runD b n p c 0 aD0).1)) M') : wpD mB mNL (d + 3) zX4_readDay [mR 4 0 15, mR 2 0 38] M k := by
  have p1 : 2 ^ b ≤ 2 ^ 4 := Nat.pow_le_pow_right (by decide) hb
  have p2 : 2 ^ n ≤ 2 ^ 8 := Nat.pow_le_pow_right (by decide) hn
  have key : ∀ r i (a : DyS) M1 u6 u7 u8, i + r = c → (∀ k j, k < 21 ∨ 22 < k → M1 k j = M k j) → (∀ q, q < a.1 → M1 21 q = nI (a.2.2.2.1 q) ∧ M1 22 q = nI (a.2.2.2.2 q)) → DyOk b n a →
      (∀ M', (∀ k j, k < 21 ∨ 22 < k → M' k j = M k j) → ((runD b n p r i a).1 = -6 → ∀ q, q < 6 → M' 21 q = nI ((runD b n p r i a).2.1 q) ∧ M' 22 q = nI ((runD b n p r i a).2.2 q)) → k (mI (zi (runD b n p r i a).1)) M') →
      jJ kB_X4_readDay (d + 2) k 1 [mR 4 0 15, mR 2 0 38, mI (nI a.1), mI (nI a.2.1), mI (nI a.2.2.1), mI (nI i), u6, u7, u8] [] M1 := by
    intro r
    induction r with
    | zero =>
      rintro i ⟨hr, B, D, rB, rD⟩ M1 u6 u7 u8 hi f rows ok hK
      have hic : i = c := by omega
      subst hic
      obtain ⟨q1, q2, q3, q4⟩ := ok
      dsimp only at rows q1 q2 q3 q4 ⊢
      have e15 : M1 15 0 = nI i := by rw [f 15 0 (by decide)]; exact h15
      refine v_X4_readDay_1 _ _ _ _ _ _ _ _ ?_
      rw [e15]
      refine ifle (by omega) (by omega) (fun _ => sp_keepHour (by omega) ?_) (fun q => by omega)
      have e2 : (up (up M1 21 hr (nI B)) 22 hr (nI D)) 15 0 = nI i := by rw [up_k (by decide), up_k (by decide)]; exact e15
      have f2 : ∀ k j, k < 21 ∨ 22 < k → (up (up M1 21 hr (nI B)) 22 hr (nI D)) k j = M k j := fun k j q => by rw [up_k (by omega), up_k (by omega)]; exact f k j q
      have fin := hK _ f2
      rw [runD] at fin
      dsimp only at fin
      have fin := fin (fun x q hq => by
        have : hr = 5 := by
          by_cases y : hr < 5
          · rw [if_pos y] at x; omega
          · omega
        exact keep_rows rows q (by omega))
      refine ifle (a := 5) (b := hr) (by decide) (by omega) (fun x => ?_) (fun x => ?_)
      · rw [if_neg (by omega)] at fin
        exact fin
      · rw [if_pos x, zi_nI] at fin
        rw [e2]
        exact fin
    | succ r ih =>
      rintro i ⟨hr, B, D, rB, rD⟩ M1 u6 u7 u8 hi f rows ok hK
      obtain ⟨q1, q2, q3, q4⟩ := id ok
      obtain ⟨s1, s2⟩ := h20 i (by omega)
      dsimp only at rows q1 q2 q3 q4 ⊢
      have e15 : M1 15 0 = nI c := by rw [f 15 0 (by decide)]; exact h15
      have e20 : M1 20 i = nI (p i) := by rw [f 20 i (by decide)]; exact s2
      have e38 : M1 38 0 = nI n := by rw [f 38 0 (by decide)]; exact h38
      have e381 : M1 38 1 = nI b := by rw [f 38 1 (by decide)]; exact h381
      have st : dySt b n (hr, B, D, rB, rD) (p i) = if p i = 47 ∧ hr < 5 then some (hr + 1, 0, 0, updN rB hr B, updN rD hr D) else if 49 ≤ p i ∧ p i - 49 < b ∧ B.testBit (p i - 49) = false then some (hr, B ||| 2 ^ (p i - 49), D, rB, rD) else if 65 ≤ p i ∧ p i - 65 < n ∧ D.testBit (p i - 65) = false then some (hr, B, D ||| 2 ^ (p i - 65), rB, rD) else none := rfl
      have none' : dySt b n (hr, B, D, rB, rD) (p i) = none → k (mI (nI i)) M1 := fun e => by
        have := hK M1 f
        rw [runD_n e] at this
        have := this (fun q => by
          have : (i : Int) = -6 := q
          omega)
        rw [zi_nI] at this
        exact this
      have some' : ∀ a', dySt b n (hr, B, D, rB, rD) (p i) = some a' → ∀ M2 u6 u7 u8, (∀ k j, k < 21 ∨ 22 < k → M2 k j = M k j) → (∀ q, q < a'.1 → M2 21 q = nI (a'.2.2.2.1 q) ∧ M2 22 q = nI (a'.2.2.2.2 q)) → jJ kB_X4_readDay (d + 2) k 1 [mR 4 0 15, mR 2 0 38, mI (nI a'.1), mI (nI a'.2.1), mI (nI a'.2.2.1), mI (nI (i + 1)), u6, u7, u8] [] M2 := fun a' e M2 u6 u7 u8 f2 rows2 => by
        refine ih (i + 1) a' M2 u6 u7 u8 (by omega) f2 rows2 (dySt_ok ok e) ?_
        rw [← runD_s e]
        exact hK
      have e49 : nI (p i) - 49 = zi ((p i : Int) - 49) := sub_zi (t := 49)
      have e65 : nI (p i) - 65 = zi ((p i : Int) - 65) := sub_zi (t := 65)
      have three : ¬ (p i = 47 ∧ hr < 5) → ¬ (49 ≤ p i ∧ p i - 49 < b ∧ B.testBit (p i - 49) = false) → jJ kB_X4_readDay (d + 2) k 3 [mR 4 0 15, mR 2 0 38, mI (nI hr), mI (nI B), mI (nI D), mI (nI i), mI (nI (p i)), mI (zi ((p i : Int) - 49)), mI (zi ((p i : Int) - 65))] [] M1 := fun n1 n2 => by
        rw [if_neg n1, if_neg n2] at st
        refine v_X4_readDay_3 _ _ _ _ _ _ _ _ ?_
        rw [e38, nI_zi n, show (0 : Int32) = zi 0 from rfl, zi_lt (by omega) (by omega) (by decide) (by decide), zi_le (by omega) (by omega) (by omega) (by omega)]
        refine ⟨fun x => none' (by rw [st, if_neg (by omega)]), fun x => ⟨fun y => none' (by rw [st, if_neg (by omega)]), fun y => ?_⟩⟩
        have z : zi ((p i : Int) - 65) = nI (p i - 65) := zi_nat (t := 65) (by omega)
        rw [z]
        refine sp_hasBit (by omega) (by omega) (ifb' (fun w => none' (by rw [st, if_neg (fun v => by rw [w] at v; cases v.2.2)])) (fun w => ?_))
        rw [if_pos ⟨by omega, by omega, w⟩] at st
        rw [sh_small (by omega), nI_or, nI_1]
        exact some' _ st M1 _ _ _ f rows
      have two : ¬ (p i = 47 ∧ hr < 5) → jJ kB_X4_readDay (d + 2) k 2 [mR 4 0 15, mR 2 0 38, mI (nI hr), mI (nI B), mI (nI D), mI (nI i), mI (nI (p i)), mI (zi ((p i : Int) - 49)), mI (zi ((p i : Int) - 65))] [] M1 := fun n1 => by
        refine v_X4_readDay_2 _ _ _ _ _ _ _ _ ?_
        rw [e381, nI_zi b, show (0 : Int32) = zi 0 from rfl, zi_lt (by omega) (by omega) (by decide) (by decide), zi_le (by omega) (by omega) (by omega) (by omega)]
        refine ⟨fun x => three n1 (by omega), fun x => ⟨fun y => three n1 (by omega), fun y => ?_⟩⟩
        have z : zi ((p i : Int) - 49) = nI (p i - 49) := zi_nat (t := 49) (by omega)
        have h3 := three n1
        rw [z] at h3 ⊢
        refine sp_hasBit (by omega) (by omega) (ifb' (fun w => h3 (fun v => by rw [w] at v; cases v.2.2)) (fun w => ?_))
        rw [if_neg n1, if_pos ⟨by omega, by omega, w⟩] at st
        rw [sh_small (by omega), nI_or, nI_1]
        exact some' _ st M1 _ _ _ f rows
      refine v_X4_readDay_1 _ _ _ _ _ _ _ _ ?_
      rw [e15]
      refine ifle (by omega) (by omega) (fun q => by omega) (fun _ => sp_cell (by omega) (by decide) ?_)
      rw [e20]
      show (_ ∧ _)
      rw [show (47 : Int32) = nI 47 from rfl, nI_eq (by omega) (by decide), e49, e65]
      refine ⟨fun x => two (fun y => x y.1), fun x => ifle (a := 5) (b := hr) (by decide) (by omega) (fun y => two (fun z => by omega)) (fun y => sp_keepHour (by omega) ?_)⟩
      rw [if_pos ⟨x, y⟩] at st
      rw [nI_1, nI_1]
      exact some' _ st _ _ _ _ (fun k j q => by rw [up_k (by omega), up_k (by omega)]; exact f k j q) (keep_rows rows)
  exact v_X4_readDay_0 _ (key c 0 aD0 M none none none (by omega) (fun _ _ _ => rfl) (fun q hq => absurd hq (Nat.not_lt_zero q)) aD0_ok h)

/-! the model's day -/
theorem bt16 {B D i : Nat} (hB : B < 16) : (B + 16 * D).testBit i = if i < 4 then B.testBit i else D.testBit (i - 4) := by
  rw [Nat.add_comm]
  exact Nat.testBit_two_pow_mul_add D (show B < 2 ^ 4 from hB) i
theorem or16b {B D j : Nat} (hB : B < 16) (hj : j < 4) : (B + 16 * D) ||| 2 ^ j = (B ||| 2 ^ j) + 16 * D := by
  have h2 : B ||| 2 ^ j < 16 := Nat.or_lt_two_pow (n := 4) hB (Nat.pow_lt_pow_right (by decide) hj)
  refine Nat.eq_of_testBit_eq fun i => ?_
  rw [Nat.testBit_or, bt16 hB, bt16 h2, Nat.testBit_or, Nat.testBit_two_pow]
  by_cases e : i < 4
  · simp only [e, if_true]
  · simp only [e, if_false]
    have : ¬ j = i := by omega
    simp [this]
theorem or16d {B D j : Nat} (hB : B < 16) : (B + 16 * D) ||| 2 ^ (4 + j) = B + 16 * (D ||| 2 ^ j) := by
  refine Nat.eq_of_testBit_eq fun i => ?_
  rw [Nat.testBit_or, bt16 hB, bt16 hB, Nat.testBit_or, Nat.testBit_two_pow, Nat.testBit_two_pow]
  by_cases e : i < 4
  · simp only [e, if_true]
    have : ¬ 4 + j = i := by omega
    simp [this]
  · simp only [e, if_false]
    have : (4 + j = i) ↔ (j = i - 4) := by omega
    simp [this]
set_option maxHeartbeats 2000000 in
theorem sp_dayFault {d : Nat} {k : mQ} {M : mM} {b n c : Nat} {p : Nat → Nat} (hb : b ≤ 4) (hn : 1 ≤ n ∧ n ≤ 8) (h04 : M 0 4 = nI n) (h06 : M 0 6 = nI b) (hc : c ≤ 48) (h02 : M 0 2 = nI c) (h3 : ∀ j, j < c → (33 ≤ p j ∧ p j ≤ 126) ∧ M 3 j = nI (p j))
    (h : k (mI (zi (runD b n p c 0 aD0).1)) M) : wpD mB mNL (d + 2) zX8_dayFault [mR 8 0 0] M k := by
  have p1 : 2 ^ b ≤ 2 ^ 4 := Nat.pow_le_pow_right (by decide) hb
  have p2 : 2 ^ n ≤ 2 ^ 8 := Nat.pow_le_pow_right (by decide) hn.2
  have key : ∀ r i (a : DyS) u4 u5 u6 u7, i + r = c → DyOk b n a → k (mI (zi (runD b n p r i a).1)) M →
      jJ kB_X8_dayFault (d + 1) k 1 [mR 8 0 0, mI (nI (a.1 + 1)), mI (nI (a.2.1 + 16 * a.2.2.1)), mI (nI i), u4, u5, u6, u7] [] M := by
    intro r
    induction r with
    | zero =>
      rintro i ⟨hr, B, D, rB, rD⟩ u4 u5 u6 u7 hi ok hK
      have hic : i = c := by omega
      subst hic
      obtain ⟨q1, q2, q3, q4⟩ := ok
      dsimp only at q1 q2 q3 q4 ⊢
      rw [runD] at hK
      dsimp only at hK
      refine v_X8_dayFault_1 _ _ _ _ _ _ _ ?_
      rw [h02, show (6 : Int32) = nI 6 from rfl, nI_eq (by omega) (by decide)]
      refine ifle (by omega) (by omega) (fun _ => ⟨fun x => ?_, fun x => ?_⟩) (fun q => by omega)
      · rw [if_pos (by omega), zi_nI] at hK
        exact hK
      · rw [if_neg (by omega)] at hK
        exact hK
    | succ r ih =>
      rintro i ⟨hr, B, D, rB, rD⟩ u4 u5 u6 u7 hi ok hK
      obtain ⟨q1, q2, q3, q4⟩ := id ok
      obtain ⟨s1, s2⟩ := h3 i (by omega)
      dsimp only at q1 q2 q3 q4 ⊢
      have hB : B < 16 := by omega
      have st : dySt b n (hr, B, D, rB, rD) (p i) = if p i = 47 ∧ hr < 5 then some (hr + 1, 0, 0, updN rB hr B, updN rD hr D) else if 49 ≤ p i ∧ p i - 49 < b ∧ B.testBit (p i - 49) = false then some (hr, B ||| 2 ^ (p i - 49), D, rB, rD) else if 65 ≤ p i ∧ p i - 65 < n ∧ D.testBit (p i - 65) = false then some (hr, B, D ||| 2 ^ (p i - 65), rB, rD) else none := rfl
      have none' : dySt b n (hr, B, D, rB, rD) (p i) = none → k (mI (nI i)) M := fun e => by
        rw [runD_n e, zi_nI] at hK
        exact hK
      have some' : ∀ a', dySt b n (hr, B, D, rB, rD) (p i) = some a' → ∀ u4 u5 u6 u7, jJ kB_X8_dayFault (d + 1) k 1 [mR 8 0 0, mI (nI (a'.1 + 1)), mI (nI (a'.2.1 + 16 * a'.2.2.1)), mI (nI (i + 1)), u4, u5, u6, u7] [] M := fun a' e u4 u5 u6 u7 => by
        refine ih (i + 1) a' u4 u5 u6 u7 (by omega) (dySt_ok ok e) ?_
        rw [← runD_s e]
        exact hK
      have e49 : nI (p i) - 49 = zi ((p i : Int) - 49) := sub_zi (t := 49)
      have e65 : nI (p i) - 65 = zi ((p i : Int) - 65) := sub_zi (t := 65)
      have t49 : (zi ((p i : Int) - 49)).toInt = (p i : Int) - 49 := zi_toInt (by omega) (by omega)
      have t65 : (zi ((p i : Int) - 65)).toInt = (p i : Int) - 65 := zi_toInt (by omega) (by omega)
      have six : ∀ (j : Nat) v5 v6 u7, j < 12 → ((B + 16 * D).testBit j = true → k (mI (nI i)) M) → ((B + 16 * D).testBit j = false → ∀ w, jJ kB_X8_dayFault (d + 1) k 1 [mR 8 0 0, mI (nI (hr + 1)), mI (nI ((B + 16 * D) ||| 2 ^ j)), mI (nI (i + 1)), mI (nI (p i)), mI v5, mI v6, mI w] [] M) →
          jJ kB_X8_dayFault (d + 1) k 6 [mR 8 0 0, mI (nI (hr + 1)), mI (nI (B + 16 * D)), mI (nI i), mI (nI (p i)), mI v5, mI v6, u7] [mI (nI j)] M := fun j v5 v6 u7 hj y1 y2 => by
        refine v_X8_dayFault_6 _ _ _ _ _ _ _ _ ⟨fun x => absurd x (nI_pos (by omega)), fun _ => sp_has (by omega) (by omega) (ifb (fun w => ?_) (fun w => y1 w))⟩
        rw [sh_small (by omega), nI_or, nI_1]
        exact y2 w _
      have six' : dySt b n (hr, B, D, rB, rD) (p i) = none → ∀ v5 v6 u7, jJ kB_X8_dayFault (d + 1) k 6 [mR 8 0 0, mI (nI (hr + 1)), mI (nI (B + 16 * D)), mI (nI i), mI (nI (p i)), mI v5, mI v6, u7] [mI (-6)] M := fun e v5 v6 u7 =>
        v_X8_dayFault_6 _ _ _ _ _ _ _ _ ⟨fun _ => none' e, fun x => absurd (by decide) x⟩
      have tb : (nI b - 1).toInt = (b : Int) - 1 := by rw [nI_zi, show (1 : Int32) = zi 1 from rfl, zi_sub, zi_toInt (by omega) (by omega)]
      have tn' : (nI n - 1).toInt = (n : Int) - 1 := by rw [nI_zi, show (1 : Int32) = zi 1 from rfl, zi_sub, zi_toInt (by omega) (by omega)]
      refine v_X8_dayFault_1 _ _ _ _ _ _ _ ?_
      rw [h02]
      refine ifle (by omega) (by omega) (fun q => by omega) (fun _ => ⟨vp_in_nI (by omega) (by decide), ?_⟩)
      rw [nI_clamp (by omega), s2, show (47 : Int32) = nI 47 from rfl, nI_eq (by omega) (by decide), h06, e49, e65, show (6 : Int32) = nI 6 from rfl, nI_eq (by omega) (by decide)]
      refine ⟨fun x => ?_, fun x => ⟨fun y => ?_, fun y => none' ?_⟩⟩
      · rw [if_neg (fun v => x v.1)] at st
        refine sp_inC (fun e => ⟨fun _ => ?_, fun v => absurd rfl v⟩) (fun e => ⟨fun v => absurd v (by decide), fun _ => ?_⟩) <;> rw [li0, t49, tb] at e
        · rw [if_neg (by omega)] at st
          refine sp_inC (fun e2 => ⟨fun _ => six' ?_ _ _ _, fun v => absurd rfl v⟩) (fun e2 => ⟨fun v => absurd v (by decide), fun _ => ?_⟩) <;> rw [li0, t65, h04, tn'] at e2
          · rw [st, if_neg (by omega)]
          · have z : zi ((p i : Int) - 65) = nI (p i - 65) := zi_nat (t := 65) (by omega)
            have e4 : (4 : Int32) + nI (p i - 65) = nI (4 + (p i - 65)) := by rw [show (4 : Int32) = nI 4 from rfl, nI_add]
            rw [z, e4]
            have tb2 : (B + 16 * D).testBit (4 + (p i - 65)) = D.testBit (p i - 65) := by rw [bt16 hB, if_neg (by omega)]; congr 1; omega
            refine six _ _ _ _ (by omega) (fun w => none' ?_) (fun w u => ?_) <;> rw [tb2] at w
            · rw [st, if_neg (fun v => by rw [w] at v; cases v.2.2)]
            · rw [if_pos ⟨by omega, by omega, w⟩] at st
              rw [or16d hB]
              exact some' _ st _ _ _ _
        · have z : zi ((p i : Int) - 49) = nI (p i - 49) := zi_nat (t := 49) (by omega)
          rw [z]
          have tb2 : (B + 16 * D).testBit (p i - 49) = B.testBit (p i - 49) := by rw [bt16 hB, if_pos (by omega)]
          refine six _ _ _ _ (by omega) (fun w => none' ?_) (fun w u => ?_) <;> rw [tb2] at w
          · rw [st, if_neg (fun v => by rw [w] at v; cases v.2.2), if_neg (by omega)]
          · rw [if_pos ⟨by omega, by omega, w⟩] at st
            rw [or16b hB (by omega)]
            exact some' _ st _ _ _ _
      · rw [if_pos ⟨x, by omega⟩] at st
        have := some' _ st (mI (nI (p i))) u5 u6 u7
        rw [nI_1, nI_1]
        exact this
      · rw [st, if_neg (by omega), if_neg (by omega), if_neg (by omega)]
  exact v_X8_dayFault_0 (key c 0 aD0 none none none none (by omega) aD0_ok h)
end
