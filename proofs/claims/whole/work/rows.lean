section
-- ===== PART A: goes FIRST, ahead of the names: the tables' words, and 'selects' of the private methods out of them =====
/-- a private method of a class that the tables say can be made, by its rows of tables_1 -/
def lw_okq (q : MethodName × Nat) : Prop := (q.1.cls ≠ "java/lang/invoke/MethodHandle" ∧ q.1.cls ≠ "java/lang/invoke/VarHandle") ∧ Cond.instantiable q.1.cls q.2 ∈ tables_1 ∧ Cond.privateMethod q.1 ∈ tables_1 ∧ Cond.instanceMethod q.1 ∈ tables_1
theorem lw_p0 : lw_okq (⟨"HeatDown$Pad", "keepHour", "(III)V"⟩, 5) := ⟨⟨by decide +kernel, by decide +kernel⟩, List.mem_of_getElem? (i := 21) (by decide +kernel), List.mem_of_getElem? (i := 337) (by decide +kernel), List.mem_of_getElem? (i := 338) (by decide +kernel)⟩
theorem lw_p1 : lw_okq (⟨"HeatDown", "isNoHouse", "(I)Z"⟩, 10) := ⟨⟨by decide +kernel, by decide +kernel⟩, List.mem_of_getElem? (i := 13) (by decide +kernel), List.mem_of_getElem? (i := 363) (by decide +kernel), List.mem_of_getElem? (i := 364) (by decide +kernel)⟩
theorem lw_p2 : lw_okq (⟨"HeatDown", "areNoBrooks", "(I)Z"⟩, 10) := ⟨⟨by decide +kernel, by decide +kernel⟩, List.mem_of_getElem? (i := 13) (by decide +kernel), List.mem_of_getElem? (i := 387) (by decide +kernel), List.mem_of_getElem? (i := 388) (by decide +kernel)⟩
theorem lw_p3 : lw_okq (⟨"HeatDown", "areNoDraws", "(I)Z"⟩, 10) := ⟨⟨by decide +kernel, by decide +kernel⟩, List.mem_of_getElem? (i := 13) (by decide +kernel), List.mem_of_getElem? (i := 395) (by decide +kernel), List.mem_of_getElem? (i := 396) (by decide +kernel)⟩
theorem lw_p4 : lw_okq (⟨"HeatDown$Course", "meetHouse", "(IIIIZ)I"⟩, 8) := ⟨⟨by decide +kernel, by decide +kernel⟩, List.mem_of_getElem? (i := 133) (by decide +kernel), List.mem_of_getElem? (i := 425) (by decide +kernel), List.mem_of_getElem? (i := 426) (by decide +kernel)⟩
theorem lw_p5 : lw_okq (⟨"HeatDown", "planAsItIs", "(I)V"⟩, 10) := ⟨⟨by decide +kernel, by decide +kernel⟩, List.mem_of_getElem? (i := 13) (by decide +kernel), List.mem_of_getElem? (i := 477) (by decide +kernel), List.mem_of_getElem? (i := 478) (by decide +kernel)⟩
theorem lw_p6 : lw_okq (⟨"HeatDown$PlanSearch", "sumWorthBehind", "()V"⟩, 8) := ⟨⟨by decide +kernel, by decide +kernel⟩, List.mem_of_getElem? (i := 169) (by decide +kernel), List.mem_of_getElem? (i := 490) (by decide +kernel), List.mem_of_getElem? (i := 491) (by decide +kernel)⟩
theorem lw_p7 : lw_okq (⟨"HeatDown$PlanSearch", "offer", "(II)V"⟩, 8) := ⟨⟨by decide +kernel, by decide +kernel⟩, List.mem_of_getElem? (i := 169) (by decide +kernel), List.mem_of_getElem? (i := 505) (by decide +kernel), List.mem_of_getElem? (i := 506) (by decide +kernel)⟩
theorem lw_p8 : lw_okq (⟨"HeatDown$PlanSearch", "mayWin", "(I)Z"⟩, 8) := ⟨⟨by decide +kernel, by decide +kernel⟩, List.mem_of_getElem? (i := 169) (by decide +kernel), List.mem_of_getElem? (i := 510) (by decide +kernel), List.mem_of_getElem? (i := 511) (by decide +kernel)⟩
theorem lw_p9 : lw_okq (⟨"HeatDown", "searchMoss", "(II)I"⟩, 10) := ⟨⟨by decide +kernel, by decide +kernel⟩, List.mem_of_getElem? (i := 13) (by decide +kernel), List.mem_of_getElem? (i := 524) (by decide +kernel), List.mem_of_getElem? (i := 525) (by decide +kernel)⟩
theorem lw_p10 : lw_okq (⟨"HeatDown", "searchPlace", "(II)I"⟩, 10) := ⟨⟨by decide +kernel, by decide +kernel⟩, List.mem_of_getElem? (i := 13) (by decide +kernel), List.mem_of_getElem? (i := 564) (by decide +kernel), List.mem_of_getElem? (i := 565) (by decide +kernel)⟩
theorem lw_p11 : lw_okq (⟨"HeatDown$OrderSearch", "worthLeft", "(I)I"⟩, 5) := ⟨⟨by decide +kernel, by decide +kernel⟩, List.mem_of_getElem? (i := 206) (by decide +kernel), List.mem_of_getElem? (i := 580) (by decide +kernel), List.mem_of_getElem? (i := 581) (by decide +kernel)⟩
theorem lw_p12 : lw_okq (⟨"HeatDown", "gatherFitting", "(II)I"⟩, 10) := ⟨⟨by decide +kernel, by decide +kernel⟩, List.mem_of_getElem? (i := 13) (by decide +kernel), List.mem_of_getElem? (i := 611) (by decide +kernel), List.mem_of_getElem? (i := 612) (by decide +kernel)⟩
theorem lw_p13 : lw_okq (⟨"HeatDown", "mostAlike", "(II)I"⟩, 10) := ⟨⟨by decide +kernel, by decide +kernel⟩, List.mem_of_getElem? (i := 13) (by decide +kernel), List.mem_of_getElem? (i := 631) (by decide +kernel), List.mem_of_getElem? (i := 632) (by decide +kernel)⟩
theorem lw_p14 : lw_okq (⟨"HeatDown", "imageOf", "(I)LHeatDown$Valley;"⟩, 10) := ⟨⟨by decide +kernel, by decide +kernel⟩, List.mem_of_getElem? (i := 13) (by decide +kernel), List.mem_of_getElem? (i := 649) (by decide +kernel), List.mem_of_getElem? (i := 650) (by decide +kernel)⟩
theorem lw_p15 : lw_okq (⟨"HeatDownModel", "layKind", "(IIIII)V"⟩, 23) := ⟨⟨by decide +kernel, by decide +kernel⟩, List.mem_of_getElem? (i := 673) (by decide +kernel), List.mem_of_getElem? (i := 679) (by decide +kernel), List.mem_of_getElem? (i := 680) (by decide +kernel)⟩
def lw_privs_1 : List (MethodName × Nat) := [(⟨"HeatDown$Pad", "keepHour", "(III)V"⟩, 5), (⟨"HeatDown", "isNoHouse", "(I)Z"⟩, 10), (⟨"HeatDown", "areNoBrooks", "(I)Z"⟩, 10), (⟨"HeatDown", "areNoDraws", "(I)Z"⟩, 10), (⟨"HeatDown$Course", "meetHouse", "(IIIIZ)I"⟩, 8), (⟨"HeatDown", "planAsItIs", "(I)V"⟩, 10), (⟨"HeatDown$PlanSearch", "sumWorthBehind", "()V"⟩, 8), (⟨"HeatDown$PlanSearch", "offer", "(II)V"⟩, 8), (⟨"HeatDown$PlanSearch", "mayWin", "(I)Z"⟩, 8), (⟨"HeatDown", "searchMoss", "(II)I"⟩, 10), (⟨"HeatDown", "searchPlace", "(II)I"⟩, 10), (⟨"HeatDown$OrderSearch", "worthLeft", "(I)I"⟩, 5), (⟨"HeatDown", "gatherFitting", "(II)I"⟩, 10), (⟨"HeatDown", "mostAlike", "(II)I"⟩, 10), (⟨"HeatDown", "imageOf", "(I)LHeatDown$Valley;"⟩, 10), (⟨"HeatDownModel", "layKind", "(IIIII)V"⟩, 23)]
theorem lw_r1 : ∀ q ∈ lw_privs_1, lw_okq q := List.forall_mem_cons.mpr ⟨lw_p0, List.forall_mem_cons.mpr ⟨lw_p1, List.forall_mem_cons.mpr ⟨lw_p2, List.forall_mem_cons.mpr ⟨lw_p3, List.forall_mem_cons.mpr ⟨lw_p4, List.forall_mem_cons.mpr ⟨lw_p5, List.forall_mem_cons.mpr ⟨lw_p6, List.forall_mem_cons.mpr ⟨lw_p7, List.forall_mem_cons.mpr ⟨lw_p8, List.forall_mem_cons.mpr ⟨lw_p9, List.forall_mem_cons.mpr ⟨lw_p10, List.forall_mem_cons.mpr ⟨lw_p11, List.forall_mem_cons.mpr ⟨lw_p12, List.forall_mem_cons.mpr ⟨lw_p13, List.forall_mem_cons.mpr ⟨lw_p14, List.forall_mem_cons.mpr ⟨lw_p15, fun _ h => absurd h List.not_mem_nil⟩⟩⟩⟩⟩⟩⟩⟩⟩⟩⟩⟩⟩⟩⟩⟩
theorem lw_p16 : lw_okq (⟨"HeatDownModel", "laneFault", "()I"⟩, 23) := ⟨⟨by decide +kernel, by decide +kernel⟩, List.mem_of_getElem? (i := 673) (by decide +kernel), List.mem_of_getElem? (i := 780) (by decide +kernel), List.mem_of_getElem? (i := 781) (by decide +kernel)⟩
theorem lw_p17 : lw_okq (⟨"HeatDownModel", "dayFault", "()I"⟩, 23) := ⟨⟨by decide +kernel, by decide +kernel⟩, List.mem_of_getElem? (i := 673) (by decide +kernel), List.mem_of_getElem? (i := 787) (by decide +kernel), List.mem_of_getElem? (i := 788) (by decide +kernel)⟩
theorem lw_p18 : lw_okq (⟨"HeatDownModel", "areBits", "(III)Z"⟩, 23) := ⟨⟨by decide +kernel, by decide +kernel⟩, List.mem_of_getElem? (i := 673) (by decide +kernel), List.mem_of_getElem? (i := 806) (by decide +kernel), List.mem_of_getElem? (i := 807) (by decide +kernel)⟩
theorem lw_p19 : lw_okq (⟨"HeatDownModel", "asLane", "()V"⟩, 23) := ⟨⟨by decide +kernel, by decide +kernel⟩, List.mem_of_getElem? (i := 673) (by decide +kernel), List.mem_of_getElem? (i := 810) (by decide +kernel), List.mem_of_getElem? (i := 811) (by decide +kernel)⟩
theorem lw_p20 : lw_okq (⟨"HeatDownModel", "go", "(IIII)V"⟩, 23) := ⟨⟨by decide +kernel, by decide +kernel⟩, List.mem_of_getElem? (i := 673) (by decide +kernel), List.mem_of_getElem? (i := 814) (by decide +kernel), List.mem_of_getElem? (i := 815) (by decide +kernel)⟩
theorem lw_p21 : lw_okq (⟨"HeatDownModel", "layBest", "(I)I"⟩, 23) := ⟨⟨by decide +kernel, by decide +kernel⟩, List.mem_of_getElem? (i := 673) (by decide +kernel), List.mem_of_getElem? (i := 830) (by decide +kernel), List.mem_of_getElem? (i := 831) (by decide +kernel)⟩
theorem lw_p22 : lw_okq (⟨"HeatDownModel", "worthOf", "(I)I"⟩, 23) := ⟨⟨by decide +kernel, by decide +kernel⟩, List.mem_of_getElem? (i := 673) (by decide +kernel), List.mem_of_getElem? (i := 834) (by decide +kernel), List.mem_of_getElem? (i := 835) (by decide +kernel)⟩
theorem lw_p23 : lw_okq (⟨"HeatDownModel", "putAt", "(II)V"⟩, 23) := ⟨⟨by decide +kernel, by decide +kernel⟩, List.mem_of_getElem? (i := 673) (by decide +kernel), List.mem_of_getElem? (i := 853) (by decide +kernel), List.mem_of_getElem? (i := 854) (by decide +kernel)⟩
theorem lw_p24 : lw_okq (⟨"HeatDownModel", "nextOrder", "()Z"⟩, 23) := ⟨⟨by decide +kernel, by decide +kernel⟩, List.mem_of_getElem? (i := 673) (by decide +kernel), List.mem_of_getElem? (i := 865) (by decide +kernel), List.mem_of_getElem? (i := 866) (by decide +kernel)⟩
theorem lw_p25 : lw_okq (⟨"HeatDownModel", "change", "(II)V"⟩, 23) := ⟨⟨by decide +kernel, by decide +kernel⟩, List.mem_of_getElem? (i := 673) (by decide +kernel), List.mem_of_getElem? (i := 869) (by decide +kernel), List.mem_of_getElem? (i := 870) (by decide +kernel)⟩
theorem lw_p26 : lw_okq (⟨"HeatDownModel", "isFelt", "(III)Z"⟩, 23) := ⟨⟨by decide +kernel, by decide +kernel⟩, List.mem_of_getElem? (i := 673) (by decide +kernel), List.mem_of_getElem? (i := 885) (by decide +kernel), List.mem_of_getElem? (i := 886) (by decide +kernel)⟩
def lw_privs_2 : List (MethodName × Nat) := [(⟨"HeatDownModel", "laneFault", "()I"⟩, 23), (⟨"HeatDownModel", "dayFault", "()I"⟩, 23), (⟨"HeatDownModel", "areBits", "(III)Z"⟩, 23), (⟨"HeatDownModel", "asLane", "()V"⟩, 23), (⟨"HeatDownModel", "go", "(IIII)V"⟩, 23), (⟨"HeatDownModel", "layBest", "(I)I"⟩, 23), (⟨"HeatDownModel", "worthOf", "(I)I"⟩, 23), (⟨"HeatDownModel", "putAt", "(II)V"⟩, 23), (⟨"HeatDownModel", "nextOrder", "()Z"⟩, 23), (⟨"HeatDownModel", "change", "(II)V"⟩, 23), (⟨"HeatDownModel", "isFelt", "(III)Z"⟩, 23)]
theorem lw_r2 : ∀ q ∈ lw_privs_2, lw_okq q := List.forall_mem_cons.mpr ⟨lw_p16, List.forall_mem_cons.mpr ⟨lw_p17, List.forall_mem_cons.mpr ⟨lw_p18, List.forall_mem_cons.mpr ⟨lw_p19, List.forall_mem_cons.mpr ⟨lw_p20, List.forall_mem_cons.mpr ⟨lw_p21, List.forall_mem_cons.mpr ⟨lw_p22, List.forall_mem_cons.mpr ⟨lw_p23, List.forall_mem_cons.mpr ⟨lw_p24, List.forall_mem_cons.mpr ⟨lw_p25, List.forall_mem_cons.mpr ⟨lw_p26, fun _ h => absurd h List.not_mem_nil⟩⟩⟩⟩⟩⟩⟩⟩⟩⟩⟩
def lw_privs : List (MethodName × Nat) := lw_privs_1 ++ (lw_privs_2)
def lw_tbl : List Cond := k2_sels lw_privs ++ tables_1
theorem lw_privs_ok : ∀ q ∈ lw_privs, lw_okq q := by
  show ∀ q ∈ lw_privs_1 ++ (lw_privs_2), lw_okq q
  exact List.forall_mem_append.mpr ⟨lw_r1, lw_r2⟩
def RX0 : String := "HeatDown$Course"
def TX0 : u_T := fun k => match k with
  | 0 => ("HeatDown$Course", "served", "I", false)
  | 1 => ("HeatDown$Course", "harmed", "I", false)
  | 2 => ("HeatDown$Course", "wronged", "I", false)
  | 3 => ("HeatDown$Course", "lost", "I", false)
  | 4 => ("HeatDown$Course", "taken", "I", false)
  | 5 => ("HeatDown$Course", "valley", "LHeatDown$Valley;", true)
  | 6 => ("HeatDown$Course", "litresRow", "[I", true)
  | _ => ("HeatDown$Course", "heatRow", "[I", true)
def tyX0 : Nat → FieldType := fun k => match k with
  | 0 => .int
  | 1 => .int
  | 2 => .int
  | 3 => .int
  | 4 => .int
  | 5 => .object "HeatDown$Valley"
  | 6 => .array .int
  | _ => .array .int
theorem nmX0 : ∀ a, a < 8 → ∀ b, b < 8 → a ≠ b → (TX0 a).2.1 ≠ (TX0 b).2.1 := by decide +kernel
theorem tyX0_ok : ∀ k, k < 8 → parseFieldDescriptor (TX0 k).2.2.1 = some (tyX0 k) := by decide +kernel
abbrev cX0_init : ByteArray := prog_2_method_1_code
def yX0_init : MethodName := ⟨RX0, "<init>", "(LHeatDown$Valley;)V"⟩
abbrev cX0_litresAt : ByteArray := prog_2_method_2_code
def yX0_litresAt : MethodName := ⟨RX0, "litresAt", "(I)I"⟩
abbrev cX0_heatAt : ByteArray := prog_2_method_3_code
def yX0_heatAt : MethodName := ⟨RX0, "heatAt", "(I)I"⟩
abbrev cX0_tenthsAt : ByteArray := prog_2_method_4_code
def yX0_tenthsAt : MethodName := ⟨RX0, "tenthsAt", "(I)I"⟩
abbrev cX0_follow : ByteArray := prog_2_method_5_code
def yX0_follow : MethodName := ⟨RX0, "follow", "(IIII)V"⟩
abbrev cX0_meetHouse : ByteArray := prog_2_method_6_code
def yX0_meetHouse : MethodName := ⟨RX0, "meetHouse", "(IIIIZ)I"⟩
abbrev cX0_worthOfServed : ByteArray := prog_2_method_7_code
def yX0_worthOfServed : MethodName := ⟨RX0, "worthOfServed", "()I"⟩
def RX1 : String := "HeatDown$Felt"
def TX1 : u_T := fun k => match k with
  | 0 => ("HeatDown$Felt", "count", "I", false)
  | 1 => ("HeatDown$Felt", "houses", "[I", true)
  | 2 => ("HeatDown$Felt", "lows", "[I", true)
  | _ => ("HeatDown$Felt", "highs", "[I", true)
def tyX1 : Nat → FieldType := fun k => match k with
  | 0 => .int
  | 1 => .array .int
  | 2 => .array .int
  | _ => .array .int
theorem nmX1 : ∀ a, a < 4 → ∀ b, b < 4 → a ≠ b → (TX1 a).2.1 ≠ (TX1 b).2.1 := by decide +kernel
theorem tyX1_ok : ∀ k, k < 4 → parseFieldDescriptor (TX1 k).2.2.1 = some (tyX1 k) := by decide +kernel
abbrev cX1_init : ByteArray := prog_3_method_1_code
def yX1_init : MethodName := ⟨RX1, "<init>", "()V"⟩
abbrev cX1_add : ByteArray := prog_3_method_2_code
def yX1_add : MethodName := ⟨RX1, "add", "(III)Z"⟩
abbrev cX1_clear : ByteArray := prog_3_method_3_code
def yX1_clear : MethodName := ⟨RX1, "clear", "()I"⟩
abbrev cX1_fitsTo : ByteArray := prog_3_method_4_code
def yX1_fitsTo : MethodName := ⟨RX1, "fitsTo", "(LHeatDown$Course;)Z"⟩
abbrev cX1_copyOf : ByteArray := prog_3_method_5_code
def yX1_copyOf : MethodName := ⟨RX1, "copyOf", "(LHeatDown$Felt;)V"⟩
def RX2 : String := "HeatDown$Lane"
def TX2 : u_T := fun k => match k with
  | 0 => ("HeatDown$Lane", "houses", "I", false)
  | 1 => ("HeatDown$Lane", "brooks", "I", false)
  | 2 => ("HeatDown$Lane", "kinds", "[I", true)
  | 3 => ("HeatDown$Lane", "losses", "[I", true)
  | _ => ("HeatDown$Lane", "brookNumbers", "[I", true)
def tyX2 : Nat → FieldType := fun k => match k with
  | 0 => .int
  | 1 => .int
  | 2 => .array .int
  | 3 => .array .int
  | _ => .array .int
theorem nmX2 : ∀ a, a < 5 → ∀ b, b < 5 → a ≠ b → (TX2 a).2.1 ≠ (TX2 b).2.1 := by decide +kernel
theorem tyX2_ok : ∀ k, k < 5 → parseFieldDescriptor (TX2 k).2.2.1 = some (tyX2 k) := by decide +kernel
abbrev cX2_init : ByteArray := prog_4_method_1_code
def yX2_init : MethodName := ⟨RX2, "<init>", "()V"⟩
abbrev cX2_kindOf : ByteArray := prog_4_method_2_code
def yX2_kindOf : MethodName := ⟨RX2, "kindOf", "(I)I"⟩
abbrev cX2_lossAheadOf : ByteArray := prog_4_method_3_code
def yX2_lossAheadOf : MethodName := ⟨RX2, "lossAheadOf", "(I)I"⟩
abbrev cX2_brookAheadOf : ByteArray := prog_4_method_4_code
def yX2_brookAheadOf : MethodName := ⟨RX2, "brookAheadOf", "(I)I"⟩
abbrev cX2_isFull : ByteArray := prog_4_method_5_code
def yX2_isFull : MethodName := ⟨RX2, "isFull", "()Z"⟩
abbrev cX2_houseSets : ByteArray := prog_4_method_6_code
def yX2_houseSets : MethodName := ⟨RX2, "houseSets", "()I"⟩
abbrev cX2_brookSets : ByteArray := prog_4_method_7_code
def yX2_brookSets : MethodName := ⟨RX2, "brookSets", "()I"⟩
abbrev cX2_pipeBits : ByteArray := prog_4_method_8_code
def yX2_pipeBits : MethodName := ⟨RX2, "pipeBits", "()I"⟩
abbrev cX2_clear : ByteArray := prog_4_method_9_code
def yX2_clear : MethodName := ⟨RX2, "clear", "()V"⟩
abbrev cX2_addHouse : ByteArray := prog_4_method_10_code
def yX2_addHouse : MethodName := ⟨RX2, "addHouse", "(IIZ)V"⟩
abbrev cX2_insertHouse : ByteArray := prog_4_method_11_code
def yX2_insertHouse : MethodName := ⟨RX2, "insertHouse", "(II)V"⟩
abbrev cX2_coverPipes : ByteArray := prog_4_method_12_code
def yX2_coverPipes : MethodName := ⟨RX2, "coverPipes", "(I)V"⟩
abbrev cX2_copyOf : ByteArray := prog_4_method_13_code
def yX2_copyOf : MethodName := ⟨RX2, "copyOf", "(LHeatDown$Lane;)V"⟩
def RX3 : String := "HeatDown$OrderSearch"
def TX3 : u_T := fun k => match k with
  | 0 => ("HeatDown$OrderSearch", "worth", "I", false)
  | 1 => ("HeatDown$OrderSearch", "bestOrder", "[I", true)
  | 2 => ("HeatDown$OrderSearch", "valley", "LHeatDown$Valley;", true)
  | 3 => ("HeatDown$OrderSearch", "chosen", "[I", true)
  | _ => ("HeatDown$OrderSearch", "hour", "I", false)
def tyX3 : Nat → FieldType := fun k => match k with
  | 0 => .int
  | 1 => .array .int
  | 2 => .object "HeatDown$Valley"
  | 3 => .array .int
  | _ => .int
theorem nmX3 : ∀ a, a < 5 → ∀ b, b < 5 → a ≠ b → (TX3 a).2.1 ≠ (TX3 b).2.1 := by decide +kernel
theorem tyX3_ok : ∀ k, k < 5 → parseFieldDescriptor (TX3 k).2.2.1 = some (tyX3 k) := by decide +kernel
abbrev cX3_init : ByteArray := prog_5_method_1_code
def yX3_init : MethodName := ⟨RX3, "<init>", "(LHeatDown$Valley;)V"⟩
abbrev cX3_search : ByteArray := prog_5_method_2_code
def yX3_search : MethodName := ⟨RX3, "search", "(I)V"⟩
abbrev cX3_worthLeft : ByteArray := prog_5_method_3_code
def yX3_worthLeft : MethodName := ⟨RX3, "worthLeft", "(I)I"⟩
abbrev cX3_descend : ByteArray := prog_5_method_4_code
def yX3_descend : MethodName := ⟨RX3, "descend", "(LHeatDown$OrderSearch;IIII)V"⟩
def RX4 : String := "HeatDown$Pad"
def TX4 : u_T := fun k => match k with
  | 0 => ("HeatDown$Pad", "count", "I", false)
  | 1 => ("HeatDown$Pad", "laneRead", "LHeatDown$Lane;", true)
  | 2 => ("HeatDown$Pad", "signs", "[I", true)
  | 3 => ("HeatDown$Pad", "dayBrooks", "[I", true)
  | _ => ("HeatDown$Pad", "dayDraws", "[I", true)
def tyX4 : Nat → FieldType := fun k => match k with
  | 0 => .int
  | 1 => .object "HeatDown$Lane"
  | 2 => .array .int
  | 3 => .array .int
  | _ => .array .int
theorem nmX4 : ∀ a, a < 5 → ∀ b, b < 5 → a ≠ b → (TX4 a).2.1 ≠ (TX4 b).2.1 := by decide +kernel
theorem tyX4_ok : ∀ k, k < 5 → parseFieldDescriptor (TX4 k).2.2.1 = some (tyX4 k) := by decide +kernel
abbrev cX4_init : ByteArray := prog_6_method_1_code
def yX4_init : MethodName := ⟨RX4, "<init>", "()V"⟩
abbrev cX4_addSign : ByteArray := prog_6_method_2_code
def yX4_addSign : MethodName := ⟨RX4, "addSign", "(I)Z"⟩
abbrev cX4_clear : ByteArray := prog_6_method_3_code
def yX4_clear : MethodName := ⟨RX4, "clear", "()I"⟩
abbrev cX4_brooksIn : ByteArray := prog_6_method_4_code
def yX4_brooksIn : MethodName := ⟨RX4, "brooksIn", "(I)I"⟩
abbrev cX4_drawsIn : ByteArray := prog_6_method_5_code
def yX4_drawsIn : MethodName := ⟨RX4, "drawsIn", "(I)I"⟩
abbrev cX4_readLane : ByteArray := prog_6_method_6_code
def yX4_readLane : MethodName := ⟨RX4, "readLane", "()I"⟩
abbrev cX4_readDay : ByteArray := prog_6_method_7_code
def yX4_readDay : MethodName := ⟨RX4, "readDay", "(LHeatDown$Lane;)I"⟩
abbrev cX4_keepHour : ByteArray := prog_6_method_8_code
def yX4_keepHour : MethodName := ⟨RX4, "keepHour", "(III)V"⟩
abbrev cX4_kindBySign : ByteArray := prog_6_method_9_code
def yX4_kindBySign : MethodName := ⟨RX4, "kindBySign", "(I)I"⟩
def RX5 : String := "HeatDown$PlanSearch"
def TX5 : u_T := fun k => match k with
  | 0 => ("HeatDown$PlanSearch", "trial", "LHeatDown$Lane;", true)
  | 1 => ("HeatDown$PlanSearch", "worth", "I", false)
  | 2 => ("HeatDown$PlanSearch", "bestBrooks", "I", false)
  | 3 => ("HeatDown$PlanSearch", "bestDraws", "I", false)
  | 4 => ("HeatDown$PlanSearch", "valley", "LHeatDown$Valley;", true)
  | 5 => ("HeatDown$PlanSearch", "hour", "I", false)
  | 6 => ("HeatDown$PlanSearch", "brooks", "I", false)
  | _ => ("HeatDown$PlanSearch", "worthBehind", "[I", true)
def tyX5 : Nat → FieldType := fun k => match k with
  | 0 => .object "HeatDown$Lane"
  | 1 => .int
  | 2 => .int
  | 3 => .int
  | 4 => .object "HeatDown$Valley"
  | 5 => .int
  | 6 => .int
  | _ => .array .int
theorem nmX5 : ∀ a, a < 8 → ∀ b, b < 8 → a ≠ b → (TX5 a).2.1 ≠ (TX5 b).2.1 := by decide +kernel
theorem tyX5_ok : ∀ k, k < 8 → parseFieldDescriptor (TX5 k).2.2.1 = some (tyX5 k) := by decide +kernel
abbrev cX5_init : ByteArray := prog_7_method_1_code
def yX5_init : MethodName := ⟨RX5, "<init>", "(LHeatDown$Valley;)V"⟩
abbrev cX5_forgetPlans : ByteArray := prog_7_method_2_code
def yX5_forgetPlans : MethodName := ⟨RX5, "forgetPlans", "()V"⟩
abbrev cX5_improve : ByteArray := prog_7_method_3_code
def yX5_improve : MethodName := ⟨RX5, "improve", "(I)Z"⟩
abbrev cX5_sumWorthBehind : ByteArray := prog_7_method_4_code
def yX5_sumWorthBehind : MethodName := ⟨RX5, "sumWorthBehind", "()V"⟩
abbrev cX5_mayWin : ByteArray := prog_7_method_5_code
def yX5_mayWin : MethodName := ⟨RX5, "mayWin", "(I)Z"⟩
abbrev cX5_offer : ByteArray := prog_7_method_6_code
def yX5_offer : MethodName := ⟨RX5, "offer", "(II)V"⟩
abbrev cX5_descend : ByteArray := prog_7_method_7_code
def yX5_descend : MethodName := ⟨RX5, "descend", "(LHeatDown$PlanSearch;IIIII)V"⟩
def RX6 : String := "HeatDown$Valley"
def TX6 : u_T := fun k => match k with
  | 0 => ("HeatDown$Valley", "springValues", "[I", true)
  | 1 => ("HeatDown$Valley", "kindValues", "[I", true)
  | 2 => ("HeatDown$Valley", "lane", "LHeatDown$Lane;", true)
  | _ => ("HeatDown$Valley", "felt", "LHeatDown$Felt;", true)
def tyX6 : Nat → FieldType := fun k => match k with
  | 0 => .array .int
  | 1 => .array .int
  | 2 => .object "HeatDown$Lane"
  | _ => .object "HeatDown$Felt"
theorem nmX6 : ∀ a, a < 4 → ∀ b, b < 4 → a ≠ b → (TX6 a).2.1 ≠ (TX6 b).2.1 := by decide +kernel
theorem tyX6_ok : ∀ k, k < 4 → parseFieldDescriptor (TX6 k).2.2.1 = some (tyX6 k) := by decide +kernel
abbrev cX6_init : ByteArray := prog_8_method_1_code
def yX6_init : MethodName := ⟨RX6, "<init>", "()V"⟩
abbrev cX6_springValue : ByteArray := prog_8_method_2_code
def yX6_springValue : MethodName := ⟨RX6, "springValue", "(I)I"⟩
abbrev cX6_kindValue : ByteArray := prog_8_method_3_code
def yX6_kindValue : MethodName := ⟨RX6, "kindValue", "(II)I"⟩
abbrev cX6_isWanting : ByteArray := prog_8_method_4_code
def yX6_isWanting : MethodName := ⟨RX6, "isWanting", "(II)Z"⟩
abbrev cX6_heatBehindPipe : ByteArray := prog_8_method_5_code
def yX6_heatBehindPipe : MethodName := ⟨RX6, "heatBehindPipe", "(III)I"⟩
abbrev cX6_isHarmed : ByteArray := prog_8_method_6_code
def yX6_isHarmed : MethodName := ⟨RX6, "isHarmed", "(III)Z"⟩
abbrev cX6_isServed : ByteArray := prog_8_method_7_code
def yX6_isServed : MethodName := ⟨RX6, "isServed", "(IIII)Z"⟩
abbrev cX6_copyOf : ByteArray := prog_8_method_8_code
def yX6_copyOf : MethodName := ⟨RX6, "copyOf", "(LHeatDown$Valley;)V"⟩
def RX7 : String := "HeatDown"
def TX7 : u_T := fun k => match k with
  | 0 => ("HeatDown", "pad", "LHeatDown$Pad;", true)
  | 1 => ("HeatDown", "now", "LHeatDown$Valley;", true)
  | 2 => ("HeatDown", "imageZero", "LHeatDown$Valley;", true)
  | 3 => ("HeatDown", "imageOne", "LHeatDown$Valley;", true)
  | 4 => ("HeatDown", "keptImages", "I", false)
  | 5 => ("HeatDown", "course", "LHeatDown$Course;", true)
  | 6 => ("HeatDown", "plans", "LHeatDown$PlanSearch;", true)
  | 7 => ("HeatDown", "orders", "LHeatDown$OrderSearch;", true)
  | 8 => ("HeatDown", "fitting", "[I", true)
  | _ => ("HeatDown", "fittingTenths", "[I", true)
def tyX7 : Nat → FieldType := fun k => match k with
  | 0 => .object "HeatDown$Pad"
  | 1 => .object "HeatDown$Valley"
  | 2 => .object "HeatDown$Valley"
  | 3 => .object "HeatDown$Valley"
  | 4 => .int
  | 5 => .object "HeatDown$Course"
  | 6 => .object "HeatDown$PlanSearch"
  | 7 => .object "HeatDown$OrderSearch"
  | 8 => .array .int
  | _ => .array .int
theorem nmX7 : ∀ a, a < 10 → ∀ b, b < 10 → a ≠ b → (TX7 a).2.1 ≠ (TX7 b).2.1 := by decide +kernel
theorem tyX7_ok : ∀ k, k < 10 → parseFieldDescriptor (TX7 k).2.2.1 = some (tyX7 k) := by decide +kernel
abbrev cX7_init : ByteArray := prog_1_method_1_code
def yX7_init : MethodName := ⟨RX7, "<init>", "()V"⟩
abbrev cX7_spring : ByteArray := prog_1_method_2_code
def yX7_spring : MethodName := ⟨RX7, "spring", "(II)I"⟩
abbrev cX7_kind : ByteArray := prog_1_method_3_code
def yX7_kind : MethodName := ⟨RX7, "kind", "(III)I"⟩
abbrev cX7_say : ByteArray := prog_1_method_4_code
def yX7_say : MethodName := ⟨RX7, "say", "(I)I"⟩
abbrev cX7_wipe : ByteArray := prog_1_method_5_code
def yX7_wipe : MethodName := ⟨RX7, "wipe", "()I"⟩
abbrev cX7_fault : ByteArray := prog_1_method_6_code
def yX7_fault : MethodName := ⟨RX7, "fault", "(I)I"⟩
abbrev cX7_lane : ByteArray := prog_1_method_7_code
def yX7_lane : MethodName := ⟨RX7, "lane", "()I"⟩
abbrev cX7_house : ByteArray := prog_1_method_8_code
def yX7_house : MethodName := ⟨RX7, "house", "(II)I"⟩
abbrev cX7_at : ByteArray := prog_1_method_9_code
def yX7_at : MethodName := ⟨RX7, "at", "(IIIII)I"⟩
abbrev cX7_run : ByteArray := prog_1_method_10_code
def yX7_run : MethodName := ⟨RX7, "run", "(IIII)I"⟩
abbrev cX7_judge : ByteArray := prog_1_method_11_code
def yX7_judge : MethodName := ⟨RX7, "judge", "(I)I"⟩
abbrev cX7_best : ByteArray := prog_1_method_12_code
def yX7_best : MethodName := ⟨RX7, "best", "(II)I"⟩
abbrev cX7_moss : ByteArray := prog_1_method_13_code
def yX7_moss : MethodName := ⟨RX7, "moss", "(III)I"⟩
abbrev cX7_cools : ByteArray := prog_1_method_14_code
def yX7_cools : MethodName := ⟨RX7, "cools", "(III)I"⟩
abbrev cX7_put : ByteArray := prog_1_method_15_code
def yX7_put : MethodName := ⟨RX7, "put", "(III)I"⟩
abbrev cX7_where : ByteArray := prog_1_method_16_code
def yX7_where : MethodName := ⟨RX7, "where", "(III)I"⟩
abbrev cX7_order : ByteArray := prog_1_method_17_code
def yX7_order : MethodName := ⟨RX7, "order", "(II)I"⟩
abbrev cX7_felt : ByteArray := prog_1_method_18_code
def yX7_felt : MethodName := ⟨RX7, "felt", "(III)I"⟩
abbrev cX7_forget : ByteArray := prog_1_method_19_code
def yX7_forget : MethodName := ⟨RX7, "forget", "()I"⟩
abbrev cX7_fits : ByteArray := prog_1_method_20_code
def yX7_fits : MethodName := ⟨RX7, "fits", "(III)I"⟩
abbrev cX7_door : ByteArray := prog_1_method_21_code
def yX7_door : MethodName := ⟨RX7, "door", "(III)I"⟩
abbrev cX7_winter : ByteArray := prog_1_method_22_code
def yX7_winter : MethodName := ⟨RX7, "winter", "(III)I"⟩
abbrev cX7_image : ByteArray := prog_1_method_23_code
def yX7_image : MethodName := ⟨RX7, "image", "(I)I"⟩
abbrev cX7_restore : ByteArray := prog_1_method_24_code
def yX7_restore : MethodName := ⟨RX7, "restore", "(I)I"⟩
abbrev cX7_told : ByteArray := prog_1_method_25_code
def yX7_told : MethodName := ⟨RX7, "told", "(I)I"⟩
abbrev cX7_isNoHour : ByteArray := prog_1_method_26_code
def yX7_isNoHour : MethodName := ⟨RX7, "isNoHour", "(I)Z"⟩
abbrev cX7_isNoKind : ByteArray := prog_1_method_27_code
def yX7_isNoKind : MethodName := ⟨RX7, "isNoKind", "(I)Z"⟩
abbrev cX7_isNoHouse : ByteArray := prog_1_method_28_code
def yX7_isNoHouse : MethodName := ⟨RX7, "isNoHouse", "(I)Z"⟩
abbrev cX7_areNoBrooks : ByteArray := prog_1_method_29_code
def yX7_areNoBrooks : MethodName := ⟨RX7, "areNoBrooks", "(I)Z"⟩
abbrev cX7_areNoDraws : ByteArray := prog_1_method_30_code
def yX7_areNoDraws : MethodName := ⟨RX7, "areNoDraws", "(I)Z"⟩
abbrev cX7_imageOf : ByteArray := prog_1_method_31_code
def yX7_imageOf : MethodName := ⟨RX7, "imageOf", "(I)LHeatDown$Valley;"⟩
abbrev cX7_planAsItIs : ByteArray := prog_1_method_32_code
def yX7_planAsItIs : MethodName := ⟨RX7, "planAsItIs", "(I)V"⟩
abbrev cX7_searchMoss : ByteArray := prog_1_method_33_code
def yX7_searchMoss : MethodName := ⟨RX7, "searchMoss", "(II)I"⟩
abbrev cX7_searchPlace : ByteArray := prog_1_method_34_code
def yX7_searchPlace : MethodName := ⟨RX7, "searchPlace", "(II)I"⟩
abbrev cX7_gatherFitting : ByteArray := prog_1_method_35_code
def yX7_gatherFitting : MethodName := ⟨RX7, "gatherFitting", "(II)I"⟩
abbrev cX7_mostAlike : ByteArray := prog_1_method_36_code
def yX7_mostAlike : MethodName := ⟨RX7, "mostAlike", "(II)I"⟩
abbrev cX7_cell : ByteArray := prog_1_method_37_code
def yX7_cell : MethodName := ⟨RX7, "cell", "([II)I"⟩
abbrev cX7_setCell : ByteArray := prog_1_method_38_code
def yX7_setCell : MethodName := ⟨RX7, "setCell", "([III)V"⟩
abbrev cX7_exchange : ByteArray := prog_1_method_39_code
def yX7_exchange : MethodName := ⟨RX7, "exchange", "([III)I"⟩
abbrev cX7_copyRow : ByteArray := prog_1_method_40_code
def yX7_copyRow : MethodName := ⟨RX7, "copyRow", "([I[I)V"⟩
abbrev cX7_hasBit : ByteArray := prog_1_method_41_code
def yX7_hasBit : MethodName := ⟨RX7, "hasBit", "(II)Z"⟩
abbrev cX7_lowestBit : ByteArray := prog_1_method_42_code
def yX7_lowestBit : MethodName := ⟨RX7, "lowestBit", "(I)I"⟩
def RX8 : String := "HeatDownModel"
def TX8 : u_T := fun k => match k with
  | 0 => ("HeatDownModel", "springs", "[I", true)
  | 1 => ("HeatDownModel", "kinds", "[I", true)
  | 2 => ("HeatDownModel", "signs", "I", false)
  | 3 => ("HeatDownModel", "pad", "[I", true)
  | 4 => ("HeatDownModel", "houses", "I", false)
  | 5 => ("HeatDownModel", "house", "[I", true)
  | 6 => ("HeatDownModel", "brooks", "I", false)
  | 7 => ("HeatDownModel", "felts", "I", false)
  | 8 => ("HeatDownModel", "feeling", "[I", true)
  | 9 => ("HeatDownModel", "many", "I", false)
  | 10 => ("HeatDownModel", "tried", "[I", true)
  | 11 => ("HeatDownModel", "f", "[I", true)
  | 12 => ("HeatDownModel", "q", "[I", true)
  | 13 => ("HeatDownModel", "served", "I", false)
  | 14 => ("HeatDownModel", "harmed", "I", false)
  | 15 => ("HeatDownModel", "lost", "I", false)
  | 16 => ("HeatDownModel", "taken", "I", false)
  | 17 => ("HeatDownModel", "bestCode", "I", false)
  | 18 => ("HeatDownModel", "order", "[I", true)
  | 19 => ("HeatDownModel", "feels", "[I", true)
  | 20 => ("HeatDownModel", "plan", "[I", true)
  | 21 => ("HeatDownModel", "image", "[I", true)
  | _ => ("HeatDownModel", "isKept", "[Z", true)
def tyX8 : Nat → FieldType := fun k => match k with
  | 0 => .array .int
  | 1 => .array .int
  | 2 => .int
  | 3 => .array .int
  | 4 => .int
  | 5 => .array .int
  | 6 => .int
  | 7 => .int
  | 8 => .array .int
  | 9 => .int
  | 10 => .array .int
  | 11 => .array .int
  | 12 => .array .int
  | 13 => .int
  | 14 => .int
  | 15 => .int
  | 16 => .int
  | 17 => .int
  | 18 => .array .int
  | 19 => .array .int
  | 20 => .array .int
  | 21 => .array .int
  | _ => .array .boolean
theorem nmX8 : ∀ a, a < 23 → ∀ b, b < 23 → a ≠ b → (TX8 a).2.1 ≠ (TX8 b).2.1 := by decide +kernel
theorem tyX8_ok : ∀ k, k < 23 → parseFieldDescriptor (TX8 k).2.2.1 = some (tyX8 k) := by decide +kernel
abbrev cX8_init : ByteArray := prog_10_method_1_code
def yX8_init : MethodName := ⟨RX8, "<init>", "()V"⟩
abbrev cX8_layKind : ByteArray := prog_10_method_2_code
def yX8_layKind : MethodName := ⟨RX8, "layKind", "(IIIII)V"⟩
abbrev cX8_in : ByteArray := prog_10_method_3_code
def yX8_in : MethodName := ⟨RX8, "in", "(III)Z"⟩
abbrev cX8_has : ByteArray := prog_10_method_4_code
def yX8_has : MethodName := ⟨RX8, "has", "(II)Z"⟩
abbrev cX8_bits : ByteArray := prog_10_method_5_code
def yX8_bits : MethodName := ⟨RX8, "bits", "(I)I"⟩
abbrev cX8_spring : ByteArray := prog_10_method_6_code
def yX8_spring : MethodName := ⟨RX8, "spring", "(II)I"⟩
abbrev cX8_mostOf : ByteArray := prog_10_method_7_code
def yX8_mostOf : MethodName := ⟨RX8, "mostOf", "(I)I"⟩
abbrev cX8_kind : ByteArray := prog_10_method_8_code
def yX8_kind : MethodName := ⟨RX8, "kind", "(III)I"⟩
abbrev cX8_say : ByteArray := prog_10_method_9_code
def yX8_say : MethodName := ⟨RX8, "say", "(I)I"⟩
abbrev cX8_wipe : ByteArray := prog_10_method_10_code
def yX8_wipe : MethodName := ⟨RX8, "wipe", "()I"⟩
abbrev cX8_kindOf : ByteArray := prog_10_method_11_code
def yX8_kindOf : MethodName := ⟨RX8, "kindOf", "(I)I"⟩
abbrev cX8_laneFault : ByteArray := prog_10_method_12_code
def yX8_laneFault : MethodName := ⟨RX8, "laneFault", "()I"⟩
abbrev cX8_dayFault : ByteArray := prog_10_method_13_code
def yX8_dayFault : MethodName := ⟨RX8, "dayFault", "()I"⟩
abbrev cX8_fault : ByteArray := prog_10_method_14_code
def yX8_fault : MethodName := ⟨RX8, "fault", "(I)I"⟩
abbrev cX8_lane : ByteArray := prog_10_method_15_code
def yX8_lane : MethodName := ⟨RX8, "lane", "()I"⟩
abbrev cX8_house : ByteArray := prog_10_method_16_code
def yX8_house : MethodName := ⟨RX8, "house", "(II)I"⟩
abbrev cX8_asLane : ByteArray := prog_10_method_17_code
def yX8_asLane : MethodName := ⟨RX8, "asLane", "()V"⟩
abbrev cX8_go : ByteArray := prog_10_method_18_code
def yX8_go : MethodName := ⟨RX8, "go", "(IIII)V"⟩
abbrev cX8_areBits : ByteArray := prog_10_method_19_code
def yX8_areBits : MethodName := ⟨RX8, "areBits", "(III)Z"⟩
abbrev cX8_at : ByteArray := prog_10_method_20_code
def yX8_at : MethodName := ⟨RX8, "at", "(IIIII)I"⟩
abbrev cX8_run : ByteArray := prog_10_method_21_code
def yX8_run : MethodName := ⟨RX8, "run", "(IIII)I"⟩
abbrev cX8_judge : ByteArray := prog_10_method_22_code
def yX8_judge : MethodName := ⟨RX8, "judge", "(I)I"⟩
abbrev cX8_worthOf : ByteArray := prog_10_method_23_code
def yX8_worthOf : MethodName := ⟨RX8, "worthOf", "(I)I"⟩
abbrev cX8_layBest : ByteArray := prog_10_method_24_code
def yX8_layBest : MethodName := ⟨RX8, "layBest", "(I)I"⟩
abbrev cX8_best : ByteArray := prog_10_method_25_code
def yX8_best : MethodName := ⟨RX8, "best", "(II)I"⟩
abbrev cX8_moss : ByteArray := prog_10_method_26_code
def yX8_moss : MethodName := ⟨RX8, "moss", "(III)I"⟩
abbrev cX8_cools : ByteArray := prog_10_method_27_code
def yX8_cools : MethodName := ⟨RX8, "cools", "(III)I"⟩
abbrev cX8_putAt : ByteArray := prog_10_method_28_code
def yX8_putAt : MethodName := ⟨RX8, "putAt", "(II)V"⟩
abbrev cX8_put : ByteArray := prog_10_method_29_code
def yX8_put : MethodName := ⟨RX8, "put", "(III)I"⟩
abbrev cX8_where : ByteArray := prog_10_method_30_code
def yX8_where : MethodName := ⟨RX8, "where", "(III)I"⟩
abbrev cX8_nextOrder : ByteArray := prog_10_method_31_code
def yX8_nextOrder : MethodName := ⟨RX8, "nextOrder", "()Z"⟩
abbrev cX8_change : ByteArray := prog_10_method_32_code
def yX8_change : MethodName := ⟨RX8, "change", "(II)V"⟩
abbrev cX8_order : ByteArray := prog_10_method_33_code
def yX8_order : MethodName := ⟨RX8, "order", "(II)I"⟩
abbrev cX8_felt : ByteArray := prog_10_method_34_code
def yX8_felt : MethodName := ⟨RX8, "felt", "(III)I"⟩
abbrev cX8_forget : ByteArray := prog_10_method_35_code
def yX8_forget : MethodName := ⟨RX8, "forget", "()I"⟩
abbrev cX8_isFelt : ByteArray := prog_10_method_36_code
def yX8_isFelt : MethodName := ⟨RX8, "isFelt", "(III)Z"⟩
abbrev cX8_fits : ByteArray := prog_10_method_37_code
def yX8_fits : MethodName := ⟨RX8, "fits", "(III)I"⟩
abbrev cX8_door : ByteArray := prog_10_method_38_code
def yX8_door : MethodName := ⟨RX8, "door", "(III)I"⟩
abbrev cX8_winter : ByteArray := prog_10_method_39_code
def yX8_winter : MethodName := ⟨RX8, "winter", "(III)I"⟩
abbrev cX8_image : ByteArray := prog_10_method_40_code
def yX8_image : MethodName := ⟨RX8, "image", "(I)I"⟩
abbrev cX8_restore : ByteArray := prog_10_method_41_code
def yX8_restore : MethodName := ⟨RX8, "restore", "(I)I"⟩
abbrev cX8_told : ByteArray := prog_10_method_42_code
def yX8_told : MethodName := ⟨RX8, "told", "(I)I"⟩
def RJx8e188 : String := "java/lang/Cloneable"
def TJx8e188 : u_T := fun k => match k with
  | _ => ("", "", "", false)
def tyJx8e188 : Nat → FieldType := fun k => match k with
  | _ => .int
theorem nmJx8e188 : ∀ a, a < 0 → ∀ b, b < 0 → a ≠ b → (TJx8e188 a).2.1 ≠ (TJx8e188 b).2.1 := by decide +kernel
theorem tyJx8e188_ok : ∀ k, k < 0 → parseFieldDescriptor (TJx8e188 k).2.2.1 = some (tyJx8e188 k) := by decide +kernel
def RJ6 : String := "java/lang/Integer"
def TJ6 : u_T := fun k => match k with
  | _ => ("", "", "", false)
def tyJ6 : Nat → FieldType := fun k => match k with
  | _ => .int
theorem nmJ6 : ∀ a, a < 0 → ∀ b, b < 0 → a ≠ b → (TJ6 a).2.1 ≠ (TJ6 b).2.1 := by decide +kernel
theorem tyJ6_ok : ∀ k, k < 0 → parseFieldDescriptor (TJ6 k).2.2.1 = some (tyJ6 k) := by decide +kernel
abbrev cJ6_bitCount_0f7a4 : ByteArray := prog_12_method_49_code
def yJ6_bitCount_0f7a4 : MethodName := ⟨RJ6, "bitCount", "(I)I"⟩
def RJ9 : String := "java/lang/Math"
def TJ9 : u_T := fun k => match k with
  | _ => ("", "", "", false)
def tyJ9 : Nat → FieldType := fun k => match k with
  | _ => .int
theorem nmJ9 : ∀ a, a < 0 → ∀ b, b < 0 → a ≠ b → (TJ9 a).2.1 ≠ (TJ9 b).2.1 := by decide +kernel
theorem tyJ9_ok : ∀ k, k < 0 → parseFieldDescriptor (TJ9 k).2.2.1 = some (tyJ9 k) := by decide +kernel
abbrev cJ9_max_7cf53 : ByteArray := prog_13_method_65_code
def yJ9_max_7cf53 : MethodName := ⟨RJ9, "max", "(II)I"⟩
abbrev cJ9_min_7cf53 : ByteArray := prog_13_method_69_code
def yJ9_min_7cf53 : MethodName := ⟨RJ9, "min", "(II)I"⟩
def RL : String := "HeatDownLaw"
abbrev cL_law : ByteArray := code
def yL_law : MethodName := ⟨RL, "law", "([I)Z"⟩
abbrev vwCl : List vw_C := [(RX0, TX0, 8), (RX1, TX1, 4), (RX2, TX2, 5), (RX3, TX3, 5), (RX4, TX4, 5), (RX5, TX5, 8), (RX6, TX6, 4), (RX7, TX7, 10), (RX8, TX8, 23)]
theorem dX0_init_0 : decode cX0_init 0 = .ok (.aload_n 0, 1) := by decide +kernel
theorem dX0_init_1 : decode cX0_init 1 = .ok (.invokespecial 3, 3) := by decide +kernel
theorem dX0_init_4 : decode cX0_init 4 = .ok (.aload_n 0, 1) := by decide +kernel
theorem dX0_init_5 : decode cX0_init 5 = .ok (.iconst 0, 1) := by decide +kernel
theorem dX0_init_6 : decode cX0_init 6 = .ok (.putfield 9, 3) := by decide +kernel
theorem dX0_init_9 : decode cX0_init 9 = .ok (.aload_n 0, 1) := by decide +kernel
theorem dX0_init_10 : decode cX0_init 10 = .ok (.iconst 0, 1) := by decide +kernel
theorem dX0_init_11 : decode cX0_init 11 = .ok (.putfield 15, 3) := by decide +kernel
theorem dX0_init_14 : decode cX0_init 14 = .ok (.aload_n 0, 1) := by decide +kernel
theorem dX0_init_15 : decode cX0_init 15 = .ok (.iconst 0, 1) := by decide +kernel
theorem dX0_init_16 : decode cX0_init 16 = .ok (.putfield 18, 3) := by decide +kernel
theorem dX0_init_19 : decode cX0_init 19 = .ok (.aload_n 0, 1) := by decide +kernel
theorem dX0_init_20 : decode cX0_init 20 = .ok (.iconst 0, 1) := by decide +kernel
theorem dX0_init_21 : decode cX0_init 21 = .ok (.putfield 21, 3) := by decide +kernel
theorem dX0_init_24 : decode cX0_init 24 = .ok (.aload_n 0, 1) := by decide +kernel
theorem dX0_init_25 : decode cX0_init 25 = .ok (.iconst 0, 1) := by decide +kernel
theorem dX0_init_26 : decode cX0_init 26 = .ok (.putfield 24, 3) := by decide +kernel
theorem dX0_init_29 : decode cX0_init 29 = .ok (.aload_n 0, 1) := by decide +kernel
theorem dX0_init_30 : decode cX0_init 30 = .ok (.bipush 9, 2) := by decide +kernel
theorem dX0_init_32 : decode cX0_init 32 = .ok (.newarray .int, 2) := by decide +kernel
theorem dX0_init_34 : decode cX0_init 34 = .ok (.putfield 27, 3) := by decide +kernel
theorem dX0_init_37 : decode cX0_init 37 = .ok (.aload_n 0, 1) := by decide +kernel
theorem dX0_init_38 : decode cX0_init 38 = .ok (.bipush 9, 2) := by decide +kernel
theorem dX0_init_40 : decode cX0_init 40 = .ok (.newarray .int, 2) := by decide +kernel
theorem dX0_init_42 : decode cX0_init 42 = .ok (.putfield 31, 3) := by decide +kernel
theorem dX0_init_45 : decode cX0_init 45 = .ok (.aload_n 0, 1) := by decide +kernel
theorem dX0_init_46 : decode cX0_init 46 = .ok (.aload_n 1, 1) := by decide +kernel
theorem dX0_init_47 : decode cX0_init 47 = .ok (.putfield 34, 3) := by decide +kernel
theorem dX0_init_50 : decode cX0_init 50 = .ok (.return_, 1) := by decide +kernel
theorem dX1_init_0 : decode cX1_init 0 = .ok (.aload_n 0, 1) := by decide +kernel
theorem dX1_init_1 : decode cX1_init 1 = .ok (.invokespecial 3, 3) := by decide +kernel
theorem dX1_init_4 : decode cX1_init 4 = .ok (.aload_n 0, 1) := by decide +kernel
theorem dX1_init_5 : decode cX1_init 5 = .ok (.iconst 0, 1) := by decide +kernel
theorem dX1_init_6 : decode cX1_init 6 = .ok (.putfield 9, 3) := by decide +kernel
theorem dX1_init_9 : decode cX1_init 9 = .ok (.aload_n 0, 1) := by decide +kernel
theorem dX1_init_10 : decode cX1_init 10 = .ok (.bipush 6, 2) := by decide +kernel
theorem dX1_init_12 : decode cX1_init 12 = .ok (.newarray .int, 2) := by decide +kernel
theorem dX1_init_14 : decode cX1_init 14 = .ok (.putfield 15, 3) := by decide +kernel
theorem dX1_init_17 : decode cX1_init 17 = .ok (.aload_n 0, 1) := by decide +kernel
theorem dX1_init_18 : decode cX1_init 18 = .ok (.bipush 6, 2) := by decide +kernel
theorem dX1_init_20 : decode cX1_init 20 = .ok (.newarray .int, 2) := by decide +kernel
theorem dX1_init_22 : decode cX1_init 22 = .ok (.putfield 19, 3) := by decide +kernel
theorem dX1_init_25 : decode cX1_init 25 = .ok (.aload_n 0, 1) := by decide +kernel
theorem dX1_init_26 : decode cX1_init 26 = .ok (.bipush 6, 2) := by decide +kernel
theorem dX1_init_28 : decode cX1_init 28 = .ok (.newarray .int, 2) := by decide +kernel
theorem dX1_init_30 : decode cX1_init 30 = .ok (.putfield 22, 3) := by decide +kernel
theorem dX1_init_33 : decode cX1_init 33 = .ok (.return_, 1) := by decide +kernel
theorem dX2_init_0 : decode cX2_init 0 = .ok (.aload_n 0, 1) := by decide +kernel
theorem dX2_init_1 : decode cX2_init 1 = .ok (.invokespecial 3, 3) := by decide +kernel
theorem dX2_init_4 : decode cX2_init 4 = .ok (.aload_n 0, 1) := by decide +kernel
theorem dX2_init_5 : decode cX2_init 5 = .ok (.iconst 0, 1) := by decide +kernel
theorem dX2_init_6 : decode cX2_init 6 = .ok (.putfield 9, 3) := by decide +kernel
theorem dX2_init_9 : decode cX2_init 9 = .ok (.aload_n 0, 1) := by decide +kernel
theorem dX2_init_10 : decode cX2_init 10 = .ok (.iconst 0, 1) := by decide +kernel
theorem dX2_init_11 : decode cX2_init 11 = .ok (.putfield 15, 3) := by decide +kernel
theorem dX2_init_14 : decode cX2_init 14 = .ok (.aload_n 0, 1) := by decide +kernel
theorem dX2_init_15 : decode cX2_init 15 = .ok (.bipush 8, 2) := by decide +kernel
theorem dX2_init_17 : decode cX2_init 17 = .ok (.newarray .int, 2) := by decide +kernel
theorem dX2_init_19 : decode cX2_init 19 = .ok (.putfield 18, 3) := by decide +kernel
theorem dX2_init_22 : decode cX2_init 22 = .ok (.aload_n 0, 1) := by decide +kernel
theorem dX2_init_23 : decode cX2_init 23 = .ok (.bipush 8, 2) := by decide +kernel
theorem dX2_init_25 : decode cX2_init 25 = .ok (.newarray .int, 2) := by decide +kernel
theorem dX2_init_27 : decode cX2_init 27 = .ok (.putfield 22, 3) := by decide +kernel
theorem dX2_init_30 : decode cX2_init 30 = .ok (.aload_n 0, 1) := by decide +kernel
theorem dX2_init_31 : decode cX2_init 31 = .ok (.bipush 8, 2) := by decide +kernel
theorem dX2_init_33 : decode cX2_init 33 = .ok (.newarray .int, 2) := by decide +kernel
theorem dX2_init_35 : decode cX2_init 35 = .ok (.putfield 25, 3) := by decide +kernel
theorem dX2_init_38 : decode cX2_init 38 = .ok (.return_, 1) := by decide +kernel
theorem dX3_init_0 : decode cX3_init 0 = .ok (.aload_n 0, 1) := by decide +kernel
theorem dX3_init_1 : decode cX3_init 1 = .ok (.invokespecial 3, 3) := by decide +kernel
theorem dX3_init_4 : decode cX3_init 4 = .ok (.aload_n 0, 1) := by decide +kernel
theorem dX3_init_5 : decode cX3_init 5 = .ok (.bipush (-6), 2) := by decide +kernel
theorem dX3_init_7 : decode cX3_init 7 = .ok (.putfield 9, 3) := by decide +kernel
theorem dX3_init_10 : decode cX3_init 10 = .ok (.aload_n 0, 1) := by decide +kernel
theorem dX3_init_11 : decode cX3_init 11 = .ok (.bipush 7, 2) := by decide +kernel
theorem dX3_init_13 : decode cX3_init 13 = .ok (.newarray .int, 2) := by decide +kernel
theorem dX3_init_15 : decode cX3_init 15 = .ok (.putfield 15, 3) := by decide +kernel
theorem dX3_init_18 : decode cX3_init 18 = .ok (.aload_n 0, 1) := by decide +kernel
theorem dX3_init_19 : decode cX3_init 19 = .ok (.bipush 7, 2) := by decide +kernel
theorem dX3_init_21 : decode cX3_init 21 = .ok (.newarray .int, 2) := by decide +kernel
theorem dX3_init_23 : decode cX3_init 23 = .ok (.putfield 19, 3) := by decide +kernel
theorem dX3_init_26 : decode cX3_init 26 = .ok (.aload_n 0, 1) := by decide +kernel
theorem dX3_init_27 : decode cX3_init 27 = .ok (.iconst 0, 1) := by decide +kernel
theorem dX3_init_28 : decode cX3_init 28 = .ok (.putfield 22, 3) := by decide +kernel
theorem dX3_init_31 : decode cX3_init 31 = .ok (.aload_n 0, 1) := by decide +kernel
theorem dX3_init_32 : decode cX3_init 32 = .ok (.aload_n 1, 1) := by decide +kernel
theorem dX3_init_33 : decode cX3_init 33 = .ok (.putfield 25, 3) := by decide +kernel
theorem dX3_init_36 : decode cX3_init 36 = .ok (.return_, 1) := by decide +kernel
theorem dX4_init_0 : decode cX4_init 0 = .ok (.aload_n 0, 1) := by decide +kernel
theorem dX4_init_1 : decode cX4_init 1 = .ok (.invokespecial 3, 3) := by decide +kernel
theorem dX4_init_4 : decode cX4_init 4 = .ok (.aload_n 0, 1) := by decide +kernel
theorem dX4_init_5 : decode cX4_init 5 = .ok (.iconst 0, 1) := by decide +kernel
theorem dX4_init_6 : decode cX4_init 6 = .ok (.putfield 9, 3) := by decide +kernel
theorem dX4_init_9 : decode cX4_init 9 = .ok (.aload_n 0, 1) := by decide +kernel
theorem dX4_init_10 : decode cX4_init 10 = .ok (.new 15, 3) := by decide +kernel
theorem dX4_init_13 : decode cX4_init 13 = .ok (.dup, 1) := by decide +kernel
theorem dX4_init_14 : decode cX4_init 14 = .ok (.invokespecial 17, 3) := by decide +kernel
theorem dX4_init_17 : decode cX4_init 17 = .ok (.putfield 18, 3) := by decide +kernel
theorem dX4_init_20 : decode cX4_init 20 = .ok (.aload_n 0, 1) := by decide +kernel
theorem dX4_init_21 : decode cX4_init 21 = .ok (.bipush 48, 2) := by decide +kernel
theorem dX4_init_23 : decode cX4_init 23 = .ok (.newarray .int, 2) := by decide +kernel
theorem dX4_init_25 : decode cX4_init 25 = .ok (.putfield 22, 3) := by decide +kernel
theorem dX4_init_28 : decode cX4_init 28 = .ok (.aload_n 0, 1) := by decide +kernel
theorem dX4_init_29 : decode cX4_init 29 = .ok (.bipush 6, 2) := by decide +kernel
theorem dX4_init_31 : decode cX4_init 31 = .ok (.newarray .int, 2) := by decide +kernel
theorem dX4_init_33 : decode cX4_init 33 = .ok (.putfield 26, 3) := by decide +kernel
theorem dX4_init_36 : decode cX4_init 36 = .ok (.aload_n 0, 1) := by decide +kernel
theorem dX4_init_37 : decode cX4_init 37 = .ok (.bipush 6, 2) := by decide +kernel
theorem dX4_init_39 : decode cX4_init 39 = .ok (.newarray .int, 2) := by decide +kernel
theorem dX4_init_41 : decode cX4_init 41 = .ok (.putfield 29, 3) := by decide +kernel
theorem dX4_init_44 : decode cX4_init 44 = .ok (.return_, 1) := by decide +kernel
theorem dX5_init_0 : decode cX5_init 0 = .ok (.aload_n 0, 1) := by decide +kernel
theorem dX5_init_1 : decode cX5_init 1 = .ok (.invokespecial 3, 3) := by decide +kernel
theorem dX5_init_4 : decode cX5_init 4 = .ok (.aload_n 0, 1) := by decide +kernel
theorem dX5_init_5 : decode cX5_init 5 = .ok (.new 9, 3) := by decide +kernel
theorem dX5_init_8 : decode cX5_init 8 = .ok (.dup, 1) := by decide +kernel
theorem dX5_init_9 : decode cX5_init 9 = .ok (.invokespecial 11, 3) := by decide +kernel
theorem dX5_init_12 : decode cX5_init 12 = .ok (.putfield 12, 3) := by decide +kernel
theorem dX5_init_15 : decode cX5_init 15 = .ok (.aload_n 0, 1) := by decide +kernel
theorem dX5_init_16 : decode cX5_init 16 = .ok (.bipush (-6), 2) := by decide +kernel
theorem dX5_init_18 : decode cX5_init 18 = .ok (.putfield 18, 3) := by decide +kernel
theorem dX5_init_21 : decode cX5_init 21 = .ok (.aload_n 0, 1) := by decide +kernel
theorem dX5_init_22 : decode cX5_init 22 = .ok (.bipush (-6), 2) := by decide +kernel
theorem dX5_init_24 : decode cX5_init 24 = .ok (.putfield 22, 3) := by decide +kernel
theorem dX5_init_27 : decode cX5_init 27 = .ok (.aload_n 0, 1) := by decide +kernel
theorem dX5_init_28 : decode cX5_init 28 = .ok (.iconst 0, 1) := by decide +kernel
theorem dX5_init_29 : decode cX5_init 29 = .ok (.putfield 25, 3) := by decide +kernel
theorem dX5_init_32 : decode cX5_init 32 = .ok (.aload_n 0, 1) := by decide +kernel
theorem dX5_init_33 : decode cX5_init 33 = .ok (.iconst 0, 1) := by decide +kernel
theorem dX5_init_34 : decode cX5_init 34 = .ok (.putfield 28, 3) := by decide +kernel
theorem dX5_init_37 : decode cX5_init 37 = .ok (.aload_n 0, 1) := by decide +kernel
theorem dX5_init_38 : decode cX5_init 38 = .ok (.iconst 0, 1) := by decide +kernel
theorem dX5_init_39 : decode cX5_init 39 = .ok (.putfield 31, 3) := by decide +kernel
theorem dX5_init_42 : decode cX5_init 42 = .ok (.aload_n 0, 1) := by decide +kernel
theorem dX5_init_43 : decode cX5_init 43 = .ok (.bipush 9, 2) := by decide +kernel
theorem dX5_init_45 : decode cX5_init 45 = .ok (.newarray .int, 2) := by decide +kernel
theorem dX5_init_47 : decode cX5_init 47 = .ok (.putfield 34, 3) := by decide +kernel
theorem dX5_init_50 : decode cX5_init 50 = .ok (.aload_n 0, 1) := by decide +kernel
theorem dX5_init_51 : decode cX5_init 51 = .ok (.aload_n 1, 1) := by decide +kernel
theorem dX5_init_52 : decode cX5_init 52 = .ok (.putfield 38, 3) := by decide +kernel
theorem dX5_init_55 : decode cX5_init 55 = .ok (.return_, 1) := by decide +kernel
theorem dX6_init_0 : decode cX6_init 0 = .ok (.aload_n 0, 1) := by decide +kernel
theorem dX6_init_1 : decode cX6_init 1 = .ok (.invokespecial 3, 3) := by decide +kernel
theorem dX6_init_4 : decode cX6_init 4 = .ok (.aload_n 0, 1) := by decide +kernel
theorem dX6_init_5 : decode cX6_init 5 = .ok (.getstatic 9, 3) := by decide +kernel
theorem dX6_init_8 : decode cX6_init 8 = .ok (.invokevirtual 13, 3) := by decide +kernel
theorem dX6_init_11 : decode cX6_init 11 = .ok (.checkcast 14, 3) := by decide +kernel
theorem dX6_init_14 : decode cX6_init 14 = .ok (.putfield 18, 3) := by decide +kernel
theorem dX6_init_17 : decode cX6_init 17 = .ok (.aload_n 0, 1) := by decide +kernel
theorem dX6_init_18 : decode cX6_init 18 = .ok (.getstatic 23, 3) := by decide +kernel
theorem dX6_init_21 : decode cX6_init 21 = .ok (.invokevirtual 13, 3) := by decide +kernel
theorem dX6_init_24 : decode cX6_init 24 = .ok (.checkcast 14, 3) := by decide +kernel
theorem dX6_init_27 : decode cX6_init 27 = .ok (.putfield 26, 3) := by decide +kernel
theorem dX6_init_30 : decode cX6_init 30 = .ok (.aload_n 0, 1) := by decide +kernel
theorem dX6_init_31 : decode cX6_init 31 = .ok (.new 29, 3) := by decide +kernel
theorem dX6_init_34 : decode cX6_init 34 = .ok (.dup, 1) := by decide +kernel
theorem dX6_init_35 : decode cX6_init 35 = .ok (.invokespecial 31, 3) := by decide +kernel
theorem dX6_init_38 : decode cX6_init 38 = .ok (.putfield 32, 3) := by decide +kernel
theorem dX6_init_41 : decode cX6_init 41 = .ok (.aload_n 0, 1) := by decide +kernel
theorem dX6_init_42 : decode cX6_init 42 = .ok (.new 36, 3) := by decide +kernel
theorem dX6_init_45 : decode cX6_init 45 = .ok (.dup, 1) := by decide +kernel
theorem dX6_init_46 : decode cX6_init 46 = .ok (.invokespecial 38, 3) := by decide +kernel
theorem dX6_init_49 : decode cX6_init 49 = .ok (.putfield 39, 3) := by decide +kernel
theorem dX6_init_52 : decode cX6_init 52 = .ok (.return_, 1) := by decide +kernel
theorem dX7_init_0 : decode cX7_init 0 = .ok (.aload_n 0, 1) := by decide +kernel
theorem dX7_init_1 : decode cX7_init 1 = .ok (.invokespecial 1, 3) := by decide +kernel
theorem dX7_init_4 : decode cX7_init 4 = .ok (.aload_n 0, 1) := by decide +kernel
theorem dX7_init_5 : decode cX7_init 5 = .ok (.new 7, 3) := by decide +kernel
theorem dX7_init_8 : decode cX7_init 8 = .ok (.dup, 1) := by decide +kernel
theorem dX7_init_9 : decode cX7_init 9 = .ok (.invokespecial 9, 3) := by decide +kernel
theorem dX7_init_12 : decode cX7_init 12 = .ok (.putfield 10, 3) := by decide +kernel
theorem dX7_init_15 : decode cX7_init 15 = .ok (.aload_n 0, 1) := by decide +kernel
theorem dX7_init_16 : decode cX7_init 16 = .ok (.new 16, 3) := by decide +kernel
theorem dX7_init_19 : decode cX7_init 19 = .ok (.dup, 1) := by decide +kernel
theorem dX7_init_20 : decode cX7_init 20 = .ok (.invokespecial 18, 3) := by decide +kernel
theorem dX7_init_23 : decode cX7_init 23 = .ok (.putfield 19, 3) := by decide +kernel
theorem dX7_init_26 : decode cX7_init 26 = .ok (.aload_n 0, 1) := by decide +kernel
theorem dX7_init_27 : decode cX7_init 27 = .ok (.new 16, 3) := by decide +kernel
theorem dX7_init_30 : decode cX7_init 30 = .ok (.dup, 1) := by decide +kernel
theorem dX7_init_31 : decode cX7_init 31 = .ok (.invokespecial 18, 3) := by decide +kernel
theorem dX7_init_34 : decode cX7_init 34 = .ok (.putfield 23, 3) := by decide +kernel
theorem dX7_init_37 : decode cX7_init 37 = .ok (.aload_n 0, 1) := by decide +kernel
theorem dX7_init_38 : decode cX7_init 38 = .ok (.new 16, 3) := by decide +kernel
theorem dX7_init_41 : decode cX7_init 41 = .ok (.dup, 1) := by decide +kernel
theorem dX7_init_42 : decode cX7_init 42 = .ok (.invokespecial 18, 3) := by decide +kernel
theorem dX7_init_45 : decode cX7_init 45 = .ok (.putfield 26, 3) := by decide +kernel
theorem dX7_init_48 : decode cX7_init 48 = .ok (.aload_n 0, 1) := by decide +kernel
theorem dX7_init_49 : decode cX7_init 49 = .ok (.iconst 0, 1) := by decide +kernel
theorem dX7_init_50 : decode cX7_init 50 = .ok (.putfield 29, 3) := by decide +kernel
theorem dX7_init_53 : decode cX7_init 53 = .ok (.aload_n 0, 1) := by decide +kernel
theorem dX7_init_54 : decode cX7_init 54 = .ok (.new 33, 3) := by decide +kernel
theorem dX7_init_57 : decode cX7_init 57 = .ok (.dup, 1) := by decide +kernel
theorem dX7_init_58 : decode cX7_init 58 = .ok (.aload_n 0, 1) := by decide +kernel
theorem dX7_init_59 : decode cX7_init 59 = .ok (.getfield 19, 3) := by decide +kernel
theorem dX7_init_62 : decode cX7_init 62 = .ok (.invokespecial 35, 3) := by decide +kernel
theorem dX7_init_65 : decode cX7_init 65 = .ok (.putfield 38, 3) := by decide +kernel
theorem dX7_init_68 : decode cX7_init 68 = .ok (.aload_n 0, 1) := by decide +kernel
theorem dX7_init_69 : decode cX7_init 69 = .ok (.new 42, 3) := by decide +kernel
theorem dX7_init_72 : decode cX7_init 72 = .ok (.dup, 1) := by decide +kernel
theorem dX7_init_73 : decode cX7_init 73 = .ok (.aload_n 0, 1) := by decide +kernel
theorem dX7_init_74 : decode cX7_init 74 = .ok (.getfield 19, 3) := by decide +kernel
theorem dX7_init_77 : decode cX7_init 77 = .ok (.invokespecial 44, 3) := by decide +kernel
theorem dX7_init_80 : decode cX7_init 80 = .ok (.putfield 45, 3) := by decide +kernel
theorem dX7_init_83 : decode cX7_init 83 = .ok (.aload_n 0, 1) := by decide +kernel
theorem dX7_init_84 : decode cX7_init 84 = .ok (.new 49, 3) := by decide +kernel
theorem dX7_init_87 : decode cX7_init 87 = .ok (.dup, 1) := by decide +kernel
theorem dX7_init_88 : decode cX7_init 88 = .ok (.aload_n 0, 1) := by decide +kernel
theorem dX7_init_89 : decode cX7_init 89 = .ok (.getfield 19, 3) := by decide +kernel
theorem dX7_init_92 : decode cX7_init 92 = .ok (.invokespecial 51, 3) := by decide +kernel
theorem dX7_init_95 : decode cX7_init 95 = .ok (.putfield 52, 3) := by decide +kernel
theorem dX7_init_98 : decode cX7_init 98 = .ok (.aload_n 0, 1) := by decide +kernel
theorem dX7_init_99 : decode cX7_init 99 = .ok (.bipush 16, 2) := by decide +kernel
theorem dX7_init_101 : decode cX7_init 101 = .ok (.newarray .int, 2) := by decide +kernel
theorem dX7_init_103 : decode cX7_init 103 = .ok (.putfield 56, 3) := by decide +kernel
theorem dX7_init_106 : decode cX7_init 106 = .ok (.aload_n 0, 1) := by decide +kernel
theorem dX7_init_107 : decode cX7_init 107 = .ok (.sipush 128, 3) := by decide +kernel
theorem dX7_init_110 : decode cX7_init 110 = .ok (.newarray .int, 2) := by decide +kernel
theorem dX7_init_112 : decode cX7_init 112 = .ok (.putfield 60, 3) := by decide +kernel
theorem dX7_init_115 : decode cX7_init 115 = .ok (.aload_n 0, 1) := by decide +kernel
theorem dX7_init_116 : decode cX7_init 116 = .ok (.getfield 19, 3) := by decide +kernel
theorem dX7_init_119 : decode cX7_init 119 = .ok (.getfield 63, 3) := by decide +kernel
theorem dX7_init_122 : decode cX7_init 122 = .ok (.iconst 0, 1) := by decide +kernel
theorem dX7_init_123 : decode cX7_init 123 = .ok (.iconst 0, 1) := by decide +kernel
theorem dX7_init_124 : decode cX7_init 124 = .ok (.iconst 0, 1) := by decide +kernel
theorem dX7_init_125 : decode cX7_init 125 = .ok (.invokevirtual 67, 3) := by decide +kernel
theorem dX7_init_128 : decode cX7_init 128 = .ok (.return_, 1) := by decide +kernel
theorem dX8_init_0 : decode cX8_init 0 = .ok (.aload_n 0, 1) := by decide +kernel
theorem dX8_init_1 : decode cX8_init 1 = .ok (.invokespecial 1, 3) := by decide +kernel
theorem dX8_init_4 : decode cX8_init 4 = .ok (.aload_n 0, 1) := by decide +kernel
theorem dX8_init_5 : decode cX8_init 5 = .ok (.iconst 5, 1) := by decide +kernel
theorem dX8_init_6 : decode cX8_init 6 = .ok (.newarray .int, 2) := by decide +kernel
theorem dX8_init_8 : decode cX8_init 8 = .ok (.putfield 7, 3) := by decide +kernel
theorem dX8_init_11 : decode cX8_init 11 = .ok (.aload_n 0, 1) := by decide +kernel
theorem dX8_init_12 : decode cX8_init 12 = .ok (.bipush 30, 2) := by decide +kernel
theorem dX8_init_14 : decode cX8_init 14 = .ok (.newarray .int, 2) := by decide +kernel
theorem dX8_init_16 : decode cX8_init 16 = .ok (.putfield 13, 3) := by decide +kernel
theorem dX8_init_19 : decode cX8_init 19 = .ok (.aload_n 0, 1) := by decide +kernel
theorem dX8_init_20 : decode cX8_init 20 = .ok (.bipush 48, 2) := by decide +kernel
theorem dX8_init_22 : decode cX8_init 22 = .ok (.newarray .int, 2) := by decide +kernel
theorem dX8_init_24 : decode cX8_init 24 = .ok (.putfield 16, 3) := by decide +kernel
theorem dX8_init_27 : decode cX8_init 27 = .ok (.aload_n 0, 1) := by decide +kernel
theorem dX8_init_28 : decode cX8_init 28 = .ok (.iconst 1, 1) := by decide +kernel
theorem dX8_init_29 : decode cX8_init 29 = .ok (.putfield 19, 3) := by decide +kernel
theorem dX8_init_32 : decode cX8_init 32 = .ok (.aload_n 0, 1) := by decide +kernel
theorem dX8_init_33 : decode cX8_init 33 = .ok (.bipush 24, 2) := by decide +kernel
theorem dX8_init_35 : decode cX8_init 35 = .ok (.newarray .int, 2) := by decide +kernel
theorem dX8_init_37 : decode cX8_init 37 = .ok (.putfield 23, 3) := by decide +kernel
theorem dX8_init_40 : decode cX8_init 40 = .ok (.aload_n 0, 1) := by decide +kernel
theorem dX8_init_41 : decode cX8_init 41 = .ok (.bipush 18, 2) := by decide +kernel
theorem dX8_init_43 : decode cX8_init 43 = .ok (.newarray .int, 2) := by decide +kernel
theorem dX8_init_45 : decode cX8_init 45 = .ok (.putfield 26, 3) := by decide +kernel
theorem dX8_init_48 : decode cX8_init 48 = .ok (.aload_n 0, 1) := by decide +kernel
theorem dX8_init_49 : decode cX8_init 49 = .ok (.bipush 27, 2) := by decide +kernel
theorem dX8_init_51 : decode cX8_init 51 = .ok (.newarray .int, 2) := by decide +kernel
theorem dX8_init_53 : decode cX8_init 53 = .ok (.putfield 29, 3) := by decide +kernel
theorem dX8_init_56 : decode cX8_init 56 = .ok (.aload_n 0, 1) := by decide +kernel
theorem dX8_init_57 : decode cX8_init 57 = .ok (.bipush 10, 2) := by decide +kernel
theorem dX8_init_59 : decode cX8_init 59 = .ok (.newarray .int, 2) := by decide +kernel
theorem dX8_init_61 : decode cX8_init 61 = .ok (.putfield 32, 3) := by decide +kernel
theorem dX8_init_64 : decode cX8_init 64 = .ok (.aload_n 0, 1) := by decide +kernel
theorem dX8_init_65 : decode cX8_init 65 = .ok (.bipush 10, 2) := by decide +kernel
theorem dX8_init_67 : decode cX8_init 67 = .ok (.newarray .int, 2) := by decide +kernel
theorem dX8_init_69 : decode cX8_init 69 = .ok (.putfield 35, 3) := by decide +kernel
theorem dX8_init_72 : decode cX8_init 72 = .ok (.aload_n 0, 1) := by decide +kernel
theorem dX8_init_73 : decode cX8_init 73 = .ok (.bipush 8, 2) := by decide +kernel
theorem dX8_init_75 : decode cX8_init 75 = .ok (.newarray .int, 2) := by decide +kernel
theorem dX8_init_77 : decode cX8_init 77 = .ok (.putfield 38, 3) := by decide +kernel
theorem dX8_init_80 : decode cX8_init 80 = .ok (.aload_n 0, 1) := by decide +kernel
theorem dX8_init_81 : decode cX8_init 81 = .ok (.bipush 16, 2) := by decide +kernel
theorem dX8_init_83 : decode cX8_init 83 = .ok (.newarray .int, 2) := by decide +kernel
theorem dX8_init_85 : decode cX8_init 85 = .ok (.putfield 41, 3) := by decide +kernel
theorem dX8_init_88 : decode cX8_init 88 = .ok (.aload_n 0, 1) := by decide +kernel
theorem dX8_init_89 : decode cX8_init 89 = .ok (.bipush 6, 2) := by decide +kernel
theorem dX8_init_91 : decode cX8_init 91 = .ok (.newarray .int, 2) := by decide +kernel
theorem dX8_init_93 : decode cX8_init 93 = .ok (.putfield 44, 3) := by decide +kernel
theorem dX8_init_96 : decode cX8_init 96 = .ok (.aload_n 0, 1) := by decide +kernel
theorem dX8_init_97 : decode cX8_init 97 = .ok (.sipush 160, 3) := by decide +kernel
theorem dX8_init_100 : decode cX8_init 100 = .ok (.newarray .int, 2) := by decide +kernel
theorem dX8_init_102 : decode cX8_init 102 = .ok (.putfield 47, 3) := by decide +kernel
theorem dX8_init_105 : decode cX8_init 105 = .ok (.aload_n 0, 1) := by decide +kernel
theorem dX8_init_106 : decode cX8_init 106 = .ok (.iconst 2, 1) := by decide +kernel
theorem dX8_init_107 : decode cX8_init 107 = .ok (.newarray .boolean, 2) := by decide +kernel
theorem dX8_init_109 : decode cX8_init 109 = .ok (.putfield 50, 3) := by decide +kernel
theorem dX8_init_112 : decode cX8_init 112 = .ok (.aload_n 0, 1) := by decide +kernel
theorem dX8_init_113 : decode cX8_init 113 = .ok (.getfield 7, 3) := by decide +kernel
theorem dX8_init_116 : decode cX8_init 116 = .ok (.iconst 0, 1) := by decide +kernel
theorem dX8_init_117 : decode cX8_init 117 = .ok (.bipush 20, 2) := by decide +kernel
theorem dX8_init_119 : decode cX8_init 119 = .ok (.iastore, 1) := by decide +kernel
theorem dX8_init_120 : decode cX8_init 120 = .ok (.aload_n 0, 1) := by decide +kernel
theorem dX8_init_121 : decode cX8_init 121 = .ok (.getfield 7, 3) := by decide +kernel
theorem dX8_init_124 : decode cX8_init 124 = .ok (.iconst 1, 1) := by decide +kernel
theorem dX8_init_125 : decode cX8_init 125 = .ok (.sipush 800, 3) := by decide +kernel
theorem dX8_init_128 : decode cX8_init 128 = .ok (.iastore, 1) := by decide +kernel
theorem dX8_init_129 : decode cX8_init 129 = .ok (.aload_n 0, 1) := by decide +kernel
theorem dX8_init_130 : decode cX8_init 130 = .ok (.getfield 7, 3) := by decide +kernel
theorem dX8_init_133 : decode cX8_init 133 = .ok (.iconst 2, 1) := by decide +kernel
theorem dX8_init_134 : decode cX8_init 134 = .ok (.bipush 100, 2) := by decide +kernel
theorem dX8_init_136 : decode cX8_init 136 = .ok (.iastore, 1) := by decide +kernel
theorem dX8_init_137 : decode cX8_init 137 = .ok (.aload_n 0, 1) := by decide +kernel
theorem dX8_init_138 : decode cX8_init 138 = .ok (.getfield 7, 3) := by decide +kernel
theorem dX8_init_141 : decode cX8_init 141 = .ok (.iconst 3, 1) := by decide +kernel
theorem dX8_init_142 : decode cX8_init 142 = .ok (.iconst 5, 1) := by decide +kernel
theorem dX8_init_143 : decode cX8_init 143 = .ok (.iastore, 1) := by decide +kernel
theorem dX8_init_144 : decode cX8_init 144 = .ok (.aload_n 0, 1) := by decide +kernel
theorem dX8_init_145 : decode cX8_init 145 = .ok (.getfield 7, 3) := by decide +kernel
theorem dX8_init_148 : decode cX8_init 148 = .ok (.iconst 4, 1) := by decide +kernel
theorem dX8_init_149 : decode cX8_init 149 = .ok (.bipush 80, 2) := by decide +kernel
theorem dX8_init_151 : decode cX8_init 151 = .ok (.iastore, 1) := by decide +kernel
theorem dX8_init_152 : decode cX8_init 152 = .ok (.aload_n 0, 1) := by decide +kernel
theorem dX8_init_153 : decode cX8_init 153 = .ok (.iconst 0, 1) := by decide +kernel
theorem dX8_init_154 : decode cX8_init 154 = .ok (.sipush 380, 3) := by decide +kernel
theorem dX8_init_157 : decode cX8_init 157 = .ok (.sipush 1000, 3) := by decide +kernel
theorem dX8_init_160 : decode cX8_init 160 = .ok (.sipush 600, 3) := by decide +kernel
theorem dX8_init_163 : decode cX8_init 163 = .ok (.iconst 5, 1) := by decide +kernel
theorem dX8_init_164 : decode cX8_init 164 = .ok (.invokevirtual 54, 3) := by decide +kernel
theorem dX8_init_167 : decode cX8_init 167 = .ok (.aload_n 0, 1) := by decide +kernel
theorem dX8_init_168 : decode cX8_init 168 = .ok (.iconst 1, 1) := by decide +kernel
theorem dX8_init_169 : decode cX8_init 169 = .ok (.sipush 600, 3) := by decide +kernel
theorem dX8_init_172 : decode cX8_init 172 = .ok (.sipush 1000, 3) := by decide +kernel
theorem dX8_init_175 : decode cX8_init 175 = .ok (.sipush 1000, 3) := by decide +kernel
theorem dX8_init_178 : decode cX8_init 178 = .ok (.bipush 8, 2) := by decide +kernel
theorem dX8_init_180 : decode cX8_init 180 = .ok (.invokevirtual 54, 3) := by decide +kernel
theorem dX8_init_183 : decode cX8_init 183 = .ok (.aload_n 0, 1) := by decide +kernel
theorem dX8_init_184 : decode cX8_init 184 = .ok (.iconst 2, 1) := by decide +kernel
theorem dX8_init_185 : decode cX8_init 185 = .ok (.sipush 650, 3) := by decide +kernel
theorem dX8_init_188 : decode cX8_init 188 = .ok (.sipush 1000, 3) := by decide +kernel
theorem dX8_init_191 : decode cX8_init 191 = .ok (.sipush 900, 3) := by decide +kernel
theorem dX8_init_194 : decode cX8_init 194 = .ok (.bipush 9, 2) := by decide +kernel
theorem dX8_init_196 : decode cX8_init 196 = .ok (.invokevirtual 54, 3) := by decide +kernel
theorem dX8_init_199 : decode cX8_init 199 = .ok (.aload_n 0, 1) := by decide +kernel
theorem dX8_init_200 : decode cX8_init 200 = .ok (.iconst 3, 1) := by decide +kernel
theorem dX8_init_201 : decode cX8_init 201 = .ok (.sipush 150, 3) := by decide +kernel
theorem dX8_init_204 : decode cX8_init 204 = .ok (.sipush 350, 3) := by decide +kernel
theorem dX8_init_207 : decode cX8_init 207 = .ok (.sipush 200, 3) := by decide +kernel
theorem dX8_init_210 : decode cX8_init 210 = .ok (.iconst 3, 1) := by decide +kernel
theorem dX8_init_211 : decode cX8_init 211 = .ok (.invokevirtual 54, 3) := by decide +kernel
theorem dX8_init_214 : decode cX8_init 214 = .ok (.aload_n 0, 1) := by decide +kernel
theorem dX8_init_215 : decode cX8_init 215 = .ok (.iconst 4, 1) := by decide +kernel
theorem dX8_init_216 : decode cX8_init 216 = .ok (.sipush 200, 3) := by decide +kernel
theorem dX8_init_219 : decode cX8_init 219 = .ok (.sipush 300, 3) := by decide +kernel
theorem dX8_init_222 : decode cX8_init 222 = .ok (.bipush 100, 2) := by decide +kernel
theorem dX8_init_224 : decode cX8_init 224 = .ok (.bipush 6, 2) := by decide +kernel
theorem dX8_init_226 : decode cX8_init 226 = .ok (.invokevirtual 54, 3) := by decide +kernel
theorem dX8_init_229 : decode cX8_init 229 = .ok (.aload_n 0, 1) := by decide +kernel
theorem dX8_init_230 : decode cX8_init 230 = .ok (.iconst 5, 1) := by decide +kernel
theorem dX8_init_231 : decode cX8_init 231 = .ok (.sipush 500, 3) := by decide +kernel
theorem dX8_init_234 : decode cX8_init 234 = .ok (.sipush 1000, 3) := by decide +kernel
theorem dX8_init_237 : decode cX8_init 237 = .ok (.sipush 1200, 3) := by decide +kernel
theorem dX8_init_240 : decode cX8_init 240 = .ok (.iconst 4, 1) := by decide +kernel
theorem dX8_init_241 : decode cX8_init 241 = .ok (.invokevirtual 54, 3) := by decide +kernel
theorem dX8_init_244 : decode cX8_init 244 = .ok (.aload_n 0, 1) := by decide +kernel
theorem dX8_init_245 : decode cX8_init 245 = .ok (.getfield 23, 3) := by decide +kernel
theorem dX8_init_248 : decode cX8_init 248 = .ok (.iconst 2, 1) := by decide +kernel
theorem dX8_init_249 : decode cX8_init 249 = .ok (.bipush (-6), 2) := by decide +kernel
theorem dX8_init_251 : decode cX8_init 251 = .ok (.iastore, 1) := by decide +kernel
theorem dX8_init_252 : decode cX8_init 252 = .ok (.return_, 1) := by decide +kernel
theorem dL_law_0 : decode cL_law 0 = .ok (.new 7, 3) := by decide +kernel
theorem dL_law_3 : decode cL_law 3 = .ok (.dup, 1) := by decide +kernel
theorem dL_law_4 : decode cL_law 4 = .ok (.invokespecial 9, 3) := by decide +kernel
theorem dL_law_7 : decode cL_law 7 = .ok (.astore_n 1, 1) := by decide +kernel
theorem dL_law_8 : decode cL_law 8 = .ok (.new 10, 3) := by decide +kernel
theorem dL_law_11 : decode cL_law 11 = .ok (.dup, 1) := by decide +kernel
theorem dL_law_12 : decode cL_law 12 = .ok (.invokespecial 12, 3) := by decide +kernel
theorem dL_law_15 : decode cL_law 15 = .ok (.astore_n 2, 1) := by decide +kernel
theorem dL_law_16 : decode cL_law 16 = .ok (.iconst 0, 1) := by decide +kernel
theorem dL_law_17 : decode cL_law 17 = .ok (.istore_n 3, 1) := by decide +kernel
end
section
/-! the shapes of the objects (none: an int; else kind, length and how far behind the object the referred cell lies), the static tables, the layout -/
def mSh (c : Nat) : List (Option (Nat × Nat × Nat)) := match c with
  | 0 => [none, none, none, none, none, some (6, 0, 12), some (50, 9, 1), some (50, 9, 2)]
  | 1 => [none, some (50, 6, 1), some (50, 6, 2), some (50, 6, 3)]
  | 2 => [none, none, some (50, 8, 1), some (50, 8, 2), some (50, 8, 3)]
  | 3 => [none, some (50, 7, 1), some (6, 0, 3), some (50, 7, 2), none]
  | 4 => [none, some (2, 0, 1), some (50, 48, 5), some (50, 6, 6), some (50, 6, 7)]
  | 5 => [some (2, 0, 1), none, none, none, some (6, 0, 9), none, none, some (50, 9, 5)]
  | 6 => [some (50, 5, 1), some (50, 30, 2), some (2, 0, 3), some (1, 0, 7)]
  | 7 => [some (4, 0, 1), some (6, 0, 21), some (6, 0, 32), some (6, 0, 43), none, some (0, 0, 9), some (5, 0, 12), some (3, 0, 18), some (50, 16, 54), some (50, 128, 55)]
  | 8 => [some (50, 5, 1), some (50, 30, 2), none, some (50, 48, 3), none, some (50, 24, 4), none, none, some (50, 18, 5), none, some (50, 27, 6), some (50, 10, 7), some (50, 10, 8), none, none, none, none, none, some (50, 8, 9), some (50, 16, 10), some (50, 6, 11), some (50, 160, 12), some (52, 2, 13)]
  | _ => []
def mStT : List (String × String × Nat) := [("HeatDown", "SPRING_FIRST", 5), ("HeatDown", "SPRING_LOW", 5), ("HeatDown", "SPRING_HIGH", 5), ("HeatDown", "KIND_FIRST", 30), ("HeatDown", "KIND_HIGH", 5), ("HeatDown", "KIND_SIGNS", 6)]
def mLay : List (Nat × Nat) := [(8, 0), (50, 5), (50, 30), (50, 48), (50, 24), (50, 18), (50, 27), (50, 10), (50, 10), (50, 8), (50, 16), (50, 6), (50, 160), (52, 2), (7, 0), (4, 0), (2, 0), (50, 8), (50, 8), (50, 8), (50, 48), (50, 6), (50, 6), (0, 0), (50, 9), (50, 9), (5, 0), (2, 0), (50, 8), (50, 8), (50, 8), (50, 9), (3, 0), (50, 7), (50, 7), (6, 0), (50, 5), (50, 30), (2, 0), (50, 8), (50, 8), (50, 8), (1, 0), (50, 6), (50, 6), (50, 6), (6, 0), (50, 5), (50, 30), (2, 0), (50, 8), (50, 8), (50, 8), (1, 0), (50, 6), (50, 6), (50, 6), (6, 0), (50, 5), (50, 30), (2, 0), (50, 8), (50, 8), (50, 8), (1, 0), (50, 6), (50, 6), (50, 6), (50, 16), (50, 128)]
end
section
/-! THE SMALL MACHINE: a weakest precondition over decoded instructions, a memory of ints (cell, place), references as (kind, length, cell) -/
abbrev mV : Type := Option (Int32 ⊕ (Nat × Nat × Nat))
abbrev mI (x : Int32) : mV := some (.inl x)
abbrev mR (kd len id : Nat) : mV := some (.inr (kd, len, id))
abbrev mM : Type := Nat → Nat → Int32
def up (M : mM) (k j : Nat) (v : Int32) : mM := fun k' j' => if k' = k ∧ j' = j then v else M k' j'
abbrev mIns : Type := Nat × Instr × Nat × List Nat × Int32
abbrev mQ : Type := mV → mM → Prop
def p1 (st : List mV) (f : Int32 → List mV → Prop) : Prop := match st with
  | some (.inl x) :: r => f x r
  | _ => False
def p2 (st : List mV) (f : Int32 → Int32 → List mV → Prop) : Prop := match st with
  | some (.inl y) :: some (.inl x) :: r => f x y r
  | _ => False
def pR (st : List mV) (f : Nat → Nat → Nat → List mV → Prop) : Prop := match st with
  | some (.inr (kd, len, id)) :: r => f kd len id r
  | _ => False
def pIR (st : List mV) (f : Int32 → Nat → Nat → Nat → List mV → Prop) : Prop := match st with
  | some (.inl x) :: some (.inr (kd, len, id)) :: r => f x kd len id r
  | _ => False
def pIIR (st : List mV) (f : Int32 → Int32 → Nat → Nat → Nat → List mV → Prop) : Prop := match st with
  | some (.inl x) :: some (.inl i) :: some (.inr (kd, len, id)) :: r => f x i kd len id r
  | _ => False
def a1 (aux : List Nat) (f : Nat → Prop) : Prop := match aux with
  | [a] => f a
  | _ => False
def a2 (aux : List Nat) (f : Nat → Nat → Prop) : Prop := match aux with
  | [a, b] => f a b
  | _ => False
def a3 (aux : List Nat) (f : Nat → Nat → Nat → Prop) : Prop := match aux with
  | [a, b, c] => f a b c
  | _ => False
def ldI (ls : List mV) (i : Nat) (f : Int32 → Prop) : Prop := match ls[i]? with
  | some (some (.inl x)) => f x
  | _ => False
def ldR (ls : List mV) (i : Nat) (f : Nat → Nat → Nat → Prop) : Prop := match ls[i]? with
  | some (some (.inr (kd, len, id))) => f kd len id
  | _ => False
def sto (ls : List mV) (i : Nat) (v : mV) (f : List mV → Prop) : Prop := match ls[i]? with
  | some _ => f (ls.set i v)
  | none => False
def tk : Nat → List mV → List mV → (List mV → List mV → Prop) → Prop
  | 0, st, acc, f => f acc st
  | n + 1, v :: st, acc, f => tk n st (v :: acc) f
  | _ + 1, [], _, _ => False
def rv (ret : Nat) (v : mV) (f : List mV → Prop) : Prop := match ret, v with
  | 0, none => f []
  | 1, some (.inl x) => f [mI x]
  | 2, some (.inr (kd, len, id)) => f [mR kd len id]
  | _, _ => False
def tsw (x : Int32) : List Nat → Int → (Nat → Prop) → Prop
  | [], _, _ => True
  | t :: ts, n, f => (x.toInt = n → f t) ∧ tsw x ts (n + 1) f
def cc1 (c : Jvm.ClassFile.Cond) (x : Int32) (A B : Prop) : Prop := match c with
  | .eq => (x = 0 → A) ∧ (¬ x = 0 → B)
  | .ne => (¬ x = 0 → A) ∧ (x = 0 → B)
  | .lt => (x < 0 → A) ∧ (¬ x < 0 → B)
  | .ge => (0 ≤ x → A) ∧ (¬ 0 ≤ x → B)
  | .gt => (0 < x → A) ∧ (¬ 0 < x → B)
  | .le => (x ≤ 0 → A) ∧ (¬ x ≤ 0 → B)
def cc2 (c : Jvm.ClassFile.Cond) (x y : Int32) (A B : Prop) : Prop := match c with
  | .eq => (x = y → A) ∧ (¬ x = y → B)
  | .ne => (¬ x = y → A) ∧ (x = y → B)
  | .lt => (x < y → A) ∧ (¬ x < y → B)
  | .ge => (y ≤ x → A) ∧ (¬ y ≤ x → B)
  | .gt => (y < x → A) ∧ (¬ y < x → B)
  | .le => (x ≤ y → A) ∧ (¬ x ≤ y → B)
def gtf (ci j kd id : Nat) (M : mM) (f : mV → Prop) : Prop := if kd = ci then (match (mSh ci)[j]? with
  | some none => f (mI (M id j))
  | some (some (kd', len', off)) => f (mR kd' len' (id + off))
  | none => False) else False
def ptf (ci j kd id : Nat) (M : mM) (v : Int32) (f : mM → Prop) : Prop := if kd = ci then (match (mSh ci)[j]? with
  | some none => f (up M id j v)
  | _ => False) else False
def ald (kd len id : Nat) (i : Int32) (M : mM) (f : Int32 → Prop) : Prop := if kd = 50 then (vp_in i len ∧ f (M id i.toNatClampNeg)) else if kd = 51 then (vp_in i len ∧ f (M (1000 + id) i.toNatClampNeg)) else False
def ast (kd len id : Nat) (i v : Int32) (M : mM) (f : mM → Prop) : Prop := if kd = 50 then (vp_in i len ∧ f (up M id i.toNatClampNeg v)) else False
def bld (kd len id : Nat) (i : Int32) (M : mM) (f : Int32 → Prop) : Prop := if kd = 52 then (vp_in i len ∧ f (M id i.toNatClampNeg)) else False
def bst (kd len id : Nat) (i v : Int32) (M : mM) (f : mM → Prop) : Prop := if kd = 52 then (vp_in i len ∧ f (up M id i.toNatClampNeg (vp_nar .boolean v))) else False
def aln (kd len : Nat) (f : Int32 → Prop) : Prop := if kd = 50 then f (Int32.ofNat len) else if kd = 51 then f (Int32.ofNat len) else False
def ire (b : Nat) (x : Int32) (A : Prop) : Prop := match b with
  | 0 => A
  | 1 => (x = 0 ∨ x = 1) ∧ A
  | _ => False
def stp (K : Nat → List mV → List mV → mM → Prop) (Rt : mQ) (Cl : Nat → List mV → mM → mQ → Prop) (i : Instr) (aux : List Nat) (k : Int32) (nx : List mV → List mV → mM → Prop) (ls st : List mV) (M : mM) : Prop := match i with
  | .iconst _ => nx ls (mI k :: st) M
  | .bipush _ => nx ls (mI k :: st) M
  | .sipush _ => nx ls (mI k :: st) M
  | .ldc _ => nx ls (mI k :: st) M
  | .ldc_w _ => nx ls (mI k :: st) M
  | .iload_n n => ldI ls n fun x => nx ls (mI x :: st) M
  | .iload n => ldI ls n fun x => nx ls (mI x :: st) M
  | .aload_n n => ldR ls n fun kd len id => nx ls (mR kd len id :: st) M
  | .aload n => ldR ls n fun kd len id => nx ls (mR kd len id :: st) M
  | .istore_n n => p1 st fun x r => sto ls n (mI x) fun ls' => nx ls' r M
  | .istore n => p1 st fun x r => sto ls n (mI x) fun ls' => nx ls' r M
  | .astore_n n => pR st fun kd len id r => sto ls n (mR kd len id) fun ls' => nx ls' r M
  | .astore n => pR st fun kd len id r => sto ls n (mR kd len id) fun ls' => nx ls' r M
  | .iinc n _ => ldI ls n fun x => sto ls n (mI (x + k)) fun ls' => nx ls' st M
  | .iadd => p2 st fun x y r => nx ls (mI (x + y) :: r) M
  | .isub => p2 st fun x y r => nx ls (mI (x - y) :: r) M
  | .imul => p2 st fun x y r => nx ls (mI (x * y) :: r) M
  | .iand => p2 st fun x y r => nx ls (mI (x &&& y) :: r) M
  | .ior => p2 st fun x y r => nx ls (mI (x ||| y) :: r) M
  | .ixor => p2 st fun x y r => nx ls (mI (x ^^^ y) :: r) M
  | .ishl => p2 st fun x y r => nx ls (mI (x <<< (y &&& 31)) :: r) M
  | .ishr => p2 st fun x y r => nx ls (mI (x >>> (y &&& 31)) :: r) M
  | .iushr => p2 st fun x y r => nx ls (mI ((x.toUInt32 >>> (y.toUInt32 &&& Int32.toUInt32 31)).toInt32) :: r) M
  | .idiv => p2 st fun x y r => ¬ y = 0 ∧ nx ls (mI (x / y) :: r) M
  | .irem => p2 st fun x y r => ¬ y = 0 ∧ nx ls (mI (x - x / y * y) :: r) M
  | .pop => match st with
    | _ :: r => nx ls r M
    | _ => False
  | .dup => match st with
    | v :: r => nx ls (v :: v :: r) M
    | _ => False
  | .ifCond c _ => p1 st fun x r => a1 aux fun t => cc1 c x (K t ls r M) (nx ls r M)
  | .if_icmp c _ => p2 st fun x y r => a1 aux fun t => cc2 c x y (K t ls r M) (nx ls r M)
  | .goto _ => a1 aux fun t => K t ls st M
  | .nop => a1 aux fun t => K t ls st M
  | .tableswitch _ lo hi _ => p1 st fun x r => match aux with
    | d :: ts => (x.toInt < lo ∨ hi < x.toInt → K d ls r M) ∧ tsw x ts lo fun t => K t ls r M
    | _ => False
  | .getfield _ => pR st fun kd _ id r => a2 aux fun ci j => gtf ci j kd id M fun v => nx ls (v :: r) M
  | .putfield _ => p1 st fun v r1 => pR r1 fun kd _ id r => a2 aux fun ci j => ptf ci j kd id M v fun M' => nx ls r M'
  | .getstatic _ => a1 aux fun i => match mStT[i]? with
    | some q => nx ls (mR 51 q.2.2 i :: st) M
    | none => False
  | .iaload => pIR st fun i kd len id r => ald kd len id i M fun x => nx ls (mI x :: r) M
  | .iastore => pIIR st fun v i kd len id r => ast kd len id i v M fun M' => nx ls r M'
  | .baload => pIR st fun i kd len id r => bld kd len id i M fun x => nx ls (mI x :: r) M
  | .bastore => pIIR st fun v i kd len id r => bst kd len id i v M fun M' => nx ls r M'
  | .arraylength => pR st fun kd len _ r => aln kd len fun x => nx ls (mI x :: r) M
  | .invokestatic _ => a3 aux fun z n ret => tk n st [] fun as r => Cl z as M fun v M' => rv ret v fun w => nx ls (w ++ r) M'
  | .invokevirtual _ => a3 aux fun z n ret => tk n st [] fun as r => Cl z as M fun v M' => rv ret v fun w => nx ls (w ++ r) M'
  | .ireturn => a1 aux fun b => match st with
    | [some (.inl x)] => ire b x (Rt (mI x) M)
    | _ => False
  | .areturn => match st with
    | [some (.inr (kd, len, id))] => Rt (mR kd len id) M
    | _ => False
  | .return_ => match st with
    | [] => Rt none M
    | _ => False
  | _ => False
def bx (K : Nat → List mV → List mV → mM → Prop) (Rt : mQ) (Cl : Nat → List mV → mM → mQ → Prop) : List mIns → List mV → List mV → mM → Prop
  | [] => fun _ _ _ => False
  | q :: r => stp K Rt Cl q.2.1 q.2.2.2.1 q.2.2.2.2 (bx K Rt Cl r)
/-- from label t on the method comes to an end that Rt holds of: the least such family -/
def Wt (Cl : Nat → List mV → mM → mQ → Prop) (B : Nat → List mIns) (Rt : mQ) (t : Nat) (ls st : List mV) (M : mM) : Prop := ∀ X : Nat → List mV → List mV → mM → Prop, (∀ t ls st M, bx X Rt Cl (B t) ls st M → X t ls st M) → X t ls st M
def mBk (b : List (List mIns)) : Nat → List mIns := fun t => b.getD t []
def entL (n : Nat) (as : List mV) : List mV := as ++ List.replicate (n - as.length) none
/-- method z, called on as in memory M, comes to an end that k holds of, with calls at most d deep -/
def wpD (B : Nat → List (List mIns)) (nL : Nat → Nat) : Nat → Nat → List mV → mM → mQ → Prop
  | 0 => fun _ _ _ _ => False
  | d + 1 => fun z as M k => Wt (wpD B nL d) (mBk (B z)) k 0 (entL (nL z) as) [] M
/-! monotone -/
theorem p1_mono {st : List mV} {f g : Int32 → List mV → Prop} (h : ∀ x r, f x r → g x r) : p1 st f → p1 st g := by
  unfold p1; split
  · exact h _ _
  · exact id
theorem p2_mono {st : List mV} {f g : Int32 → Int32 → List mV → Prop} (h : ∀ x y r, f x y r → g x y r) : p2 st f → p2 st g := by
  unfold p2; split
  · exact h _ _ _
  · exact id
theorem pR_mono {st : List mV} {f g : Nat → Nat → Nat → List mV → Prop} (h : ∀ a b c r, f a b c r → g a b c r) : pR st f → pR st g := by
  unfold pR; split
  · exact h _ _ _ _
  · exact id
theorem pIR_mono {st : List mV} {f g : Int32 → Nat → Nat → Nat → List mV → Prop} (h : ∀ x a b c r, f x a b c r → g x a b c r) : pIR st f → pIR st g := by
  unfold pIR; split
  · exact h _ _ _ _ _
  · exact id
theorem pIIR_mono {st : List mV} {f g : Int32 → Int32 → Nat → Nat → Nat → List mV → Prop} (h : ∀ x i a b c r, f x i a b c r → g x i a b c r) : pIIR st f → pIIR st g := by
  unfold pIIR; split
  · exact h _ _ _ _ _ _
  · exact id
theorem a1_mono {aux : List Nat} {f g : Nat → Prop} (h : ∀ x, f x → g x) : a1 aux f → a1 aux g := by
  unfold a1; split
  · exact h _
  · exact id
theorem a2_mono {aux : List Nat} {f g : Nat → Nat → Prop} (h : ∀ x y, f x y → g x y) : a2 aux f → a2 aux g := by
  unfold a2; split
  · exact h _ _
  · exact id
theorem a3_mono {aux : List Nat} {f g : Nat → Nat → Nat → Prop} (h : ∀ x y z, f x y z → g x y z) : a3 aux f → a3 aux g := by
  unfold a3; split
  · exact h _ _ _
  · exact id
theorem ldI_mono {ls : List mV} {i : Nat} {f g : Int32 → Prop} (h : ∀ x, f x → g x) : ldI ls i f → ldI ls i g := by
  unfold ldI; split
  · exact h _
  · exact id
theorem ldR_mono {ls : List mV} {i : Nat} {f g : Nat → Nat → Nat → Prop} (h : ∀ x y z, f x y z → g x y z) : ldR ls i f → ldR ls i g := by
  unfold ldR; split
  · exact h _ _ _
  · exact id
theorem sto_mono {ls : List mV} {i : Nat} {v : mV} {f g : List mV → Prop} (h : ∀ x, f x → g x) : sto ls i v f → sto ls i v g := by
  unfold sto; split
  · exact h _
  · exact id
theorem tk_mono {f g : List mV → List mV → Prop} (h : ∀ x y, f x y → g x y) : ∀ (n : Nat) (st acc : List mV), tk n st acc f → tk n st acc g
  | 0, st, acc, k => h _ _ k
  | n + 1, v :: st, acc, k => tk_mono h n st (v :: acc) k
  | _ + 1, [], _, k => k
theorem rv_mono {ret : Nat} {v : mV} {f g : List mV → Prop} (h : ∀ x, f x → g x) : rv ret v f → rv ret v g := by
  unfold rv; split
  · exact h _
  · exact h _
  · exact h _
  · exact id
theorem tsw_mono {x : Int32} {f g : Nat → Prop} (h : ∀ x, f x → g x) : ∀ (ts : List Nat) (n : Int), tsw x ts n f → tsw x ts n g
  | [], _, _ => trivial
  | t :: ts, n, k => ⟨fun e => h _ (k.1 e), tsw_mono h ts (n + 1) k.2⟩
theorem cc1_mono {c : Jvm.ClassFile.Cond} {x : Int32} {A B A' B' : Prop} (h : A → A') (h' : B → B') : cc1 c x A B → cc1 c x A' B' := by
  unfold cc1; cases c <;> exact fun k => ⟨fun e => h (k.1 e), fun e => h' (k.2 e)⟩
theorem cc2_mono {c : Jvm.ClassFile.Cond} {x y : Int32} {A B A' B' : Prop} (h : A → A') (h' : B → B') : cc2 c x y A B → cc2 c x y A' B' := by
  unfold cc2; cases c <;> exact fun k => ⟨fun e => h (k.1 e), fun e => h' (k.2 e)⟩
theorem gtf_mono {ci j kd id : Nat} {M : mM} {f g : mV → Prop} (h : ∀ x, f x → g x) : gtf ci j kd id M f → gtf ci j kd id M g := by
  unfold gtf; split
  · split
    · exact h _
    · exact h _
    · exact fun k => k
  · exact fun k => k
theorem ptf_mono {ci j kd id : Nat} {M : mM} {v : Int32} {f g : mM → Prop} (h : ∀ x, f x → g x) : ptf ci j kd id M v f → ptf ci j kd id M v g := by
  unfold ptf; split
  · split
    · exact h _
    · exact fun k => k
  · exact fun k => k
theorem ald_mono {kd len id : Nat} {i : Int32} {M : mM} {f g : Int32 → Prop} (h : ∀ x, f x → g x) : ald kd len id i M f → ald kd len id i M g := by
  unfold ald; split
  · exact fun k => ⟨k.1, h _ k.2⟩
  · split
    · exact fun k => ⟨k.1, h _ k.2⟩
    · exact fun k => k
theorem bld_mono {kd len id : Nat} {i : Int32} {M : mM} {f g : Int32 → Prop} (h : ∀ x, f x → g x) : bld kd len id i M f → bld kd len id i M g := by
  unfold bld; split
  · exact fun k => ⟨k.1, h _ k.2⟩
  · exact fun k => k
theorem ast_mono {kd len id : Nat} {i v : Int32} {M : mM} {f g : mM → Prop} (h : ∀ x, f x → g x) : ast kd len id i v M f → ast kd len id i v M g := by
  unfold ast; split
  · exact fun k => ⟨k.1, h _ k.2⟩
  · exact fun k => k
theorem bst_mono {kd len id : Nat} {i v : Int32} {M : mM} {f g : mM → Prop} (h : ∀ x, f x → g x) : bst kd len id i v M f → bst kd len id i v M g := by
  unfold bst; split
  · exact fun k => ⟨k.1, h _ k.2⟩
  · exact fun k => k
theorem aln_mono {kd len : Nat} {f g : Int32 → Prop} (h : ∀ x, f x → g x) : aln kd len f → aln kd len g := by
  unfold aln; split
  · exact h _
  · split
    · exact h _
    · exact fun k => k
theorem ire_mono {b : Nat} {x : Int32} {A B : Prop} (h : A → B) : ire b x A → ire b x B := by
  unfold ire; split
  · exact h
  · exact fun k => ⟨k.1, h k.2⟩
  · exact fun k => k
theorem stp_mono {K K' : Nat → List mV → List mV → mM → Prop} {Rt Rt' : mQ} {Cl Cl' : Nat → List mV → mM → mQ → Prop} {nx nx' : List mV → List mV → mM → Prop} (hK : ∀ t ls st M, K t ls st M → K' t ls st M) (hR : ∀ v M, Rt v M → Rt' v M)
    (hC : ∀ z as M (k k' : mQ), (∀ v M, k v M → k' v M) → Cl z as M k → Cl' z as M k') (hn : ∀ ls st M, nx ls st M → nx' ls st M) (i : Instr) (aux : List Nat) (k : Int32) (ls st : List mV) (M : mM) : stp K Rt Cl i aux k nx ls st M → stp K' Rt' Cl' i aux k nx' ls st M := by
  unfold stp
  split
  case h_1 => exact hn _ _ _
  case h_2 => exact hn _ _ _
  case h_3 => exact hn _ _ _
  case h_4 => exact hn _ _ _
  case h_5 => exact hn _ _ _
  case h_6 => exact ldI_mono fun _ => hn _ _ _
  case h_7 => exact ldI_mono fun _ => hn _ _ _
  case h_8 => exact ldR_mono fun _ _ _ => hn _ _ _
  case h_9 => exact ldR_mono fun _ _ _ => hn _ _ _
  case h_10 => exact p1_mono fun _ _ => sto_mono fun _ => hn _ _ _
  case h_11 => exact p1_mono fun _ _ => sto_mono fun _ => hn _ _ _
  case h_12 => exact pR_mono fun _ _ _ _ => sto_mono fun _ => hn _ _ _
  case h_13 => exact pR_mono fun _ _ _ _ => sto_mono fun _ => hn _ _ _
  case h_14 => exact ldI_mono fun _ => sto_mono fun _ => hn _ _ _
  case h_24 => exact p2_mono fun _ _ _ h => ⟨h.1, hn _ _ _ h.2⟩
  case h_25 => exact p2_mono fun _ _ _ h => ⟨h.1, hn _ _ _ h.2⟩
  case h_26 =>
    split
    · exact hn _ _ _
    · exact fun h => h
  case h_27 =>
    split
    · exact hn _ _ _
    · exact fun h => h
  case h_28 => exact p1_mono fun _ _ => a1_mono fun _ => cc1_mono (hK _ _ _ _) (hn _ _ _)
  case h_29 => exact p2_mono fun _ _ _ => a1_mono fun _ => cc2_mono (hK _ _ _ _) (hn _ _ _)
  case h_30 => exact a1_mono fun _ => hK _ _ _ _
  case h_31 => exact a1_mono fun _ => hK _ _ _ _
  case h_32 =>
    refine p1_mono fun _ _ => ?_
    split
    · exact fun h => ⟨fun e => hK _ _ _ _ (h.1 e), tsw_mono (fun _ => hK _ _ _ _) _ _ h.2⟩
    · exact fun h => h
  case h_33 => exact pR_mono fun _ _ _ _ => a2_mono fun _ _ => gtf_mono fun _ => hn _ _ _
  case h_34 => exact p1_mono fun _ _ => pR_mono fun _ _ _ _ => a2_mono fun _ _ => ptf_mono fun _ => hn _ _ _
  case h_35 =>
    refine a1_mono fun _ => ?_
    split
    · exact hn _ _ _
    · exact fun h => h
  case h_36 => exact pIR_mono fun _ _ _ _ _ => ald_mono fun _ => hn _ _ _
  case h_37 => exact pIIR_mono fun _ _ _ _ _ _ => ast_mono fun _ => hn _ _ _
  case h_38 => exact pIR_mono fun _ _ _ _ _ => bld_mono fun _ => hn _ _ _
  case h_39 => exact pIIR_mono fun _ _ _ _ _ _ => bst_mono fun _ => hn _ _ _
  case h_40 => exact pR_mono fun _ _ _ _ => aln_mono fun _ => hn _ _ _
  case h_41 => exact a3_mono fun _ _ _ => tk_mono (fun _ _ => hC _ _ _ _ _ fun _ _ => rv_mono fun _ => hn _ _ _) _ _ _
  case h_42 => exact a3_mono fun _ _ _ => tk_mono (fun _ _ => hC _ _ _ _ _ fun _ _ => rv_mono fun _ => hn _ _ _) _ _ _
  case h_43 =>
    refine a1_mono fun _ => ?_
    split
    · exact ire_mono (hR _ _)
    · exact fun h => h
  case h_44 =>
    split
    · exact hR _ _
    · exact fun h => h
  case h_45 =>
    split
    · exact hR _ _
    · exact fun h => h
  case h_46 => exact fun h => h
  all_goals exact p2_mono fun _ _ _ => hn _ _ _
theorem bx_mono {K K' : Nat → List mV → List mV → mM → Prop} {Rt Rt' : mQ} {Cl Cl' : Nat → List mV → mM → mQ → Prop} (hK : ∀ t ls st M, K t ls st M → K' t ls st M) (hR : ∀ v M, Rt v M → Rt' v M)
    (hC : ∀ z as M (k k' : mQ), (∀ v M, k v M → k' v M) → Cl z as M k → Cl' z as M k') : ∀ (b : List mIns) (ls st : List mV) (M : mM), bx K Rt Cl b ls st M → bx K' Rt' Cl' b ls st M
  | [], _, _, _, h => h
  | q :: r, ls, st, M, h => stp_mono hK hR hC (bx_mono hK hR hC r) _ _ _ _ _ _ h
/-- a call says more, if more is known of its end -/
def ClM (Cl : Nat → List mV → mM → mQ → Prop) : Prop := ∀ z as M (k k' : mQ), (∀ v M, k v M → k' v M) → Cl z as M k → Cl z as M k'
theorem Wt.blk {Cl : Nat → List mV → mM → mQ → Prop} (hC : ClM Cl) {B : Nat → List mIns} {Rt : mQ} {t : Nat} {ls st : List mV} {M : mM} (h : bx (Wt Cl B Rt) Rt Cl (B t) ls st M) : Wt Cl B Rt t ls st M :=
  fun X hX => hX _ _ _ _ (bx_mono (fun _ _ _ _ k => k X hX) (fun _ _ k => k) hC _ _ _ _ h)
theorem Wt.mono {Cl Cl' : Nat → List mV → mM → mQ → Prop} (hC : ∀ z as M (k k' : mQ), (∀ v M, k v M → k' v M) → Cl z as M k → Cl' z as M k') {B : Nat → List mIns} {Rt Rt' : mQ} (hR : ∀ v M, Rt v M → Rt' v M) {t : Nat} {ls st : List mV} {M : mM} (h : Wt Cl B Rt t ls st M) : Wt Cl' B Rt' t ls st M :=
  fun X hX => h X (fun t ls st M k => hX _ _ _ _ (bx_mono (fun _ _ _ _ k => k) hR hC _ _ _ _ k))
theorem wpD_mono (B : Nat → List (List mIns)) (nL : Nat → Nat) : ∀ d, ClM (wpD B nL d)
  | 0 => fun _ _ _ _ _ _ h => h
  | d + 1 => fun _ _ _ _ _ hk h => Wt.mono (wpD_mono B nL d) hk h
theorem wpD_succ (B : Nat → List (List mIns)) (nL : Nat → Nat) : ∀ d z as M k, wpD B nL d z as M k → wpD B nL (d + 1) z as M k
  | 0 => fun _ _ _ _ h => h.elim
  | d + 1 => fun _ _ _ _ h => Wt.mono (fun z as M k k' hk h => wpD_succ B nL d _ _ _ _ (wpD_mono B nL d z as M k k' hk h)) (fun _ _ h => h) h
theorem wpD_le (B : Nat → List (List mIns)) (nL : Nat → Nat) {d d' : Nat} (hd : d ≤ d') {z : Nat} {as : List mV} {M : mM} {k : mQ} (h : wpD B nL d z as M k) : wpD B nL d' z as M k := by
  obtain ⟨n, rfl⟩ := Nat.le.dest hd
  clear hd
  induction n with
  | zero => exact h
  | succ n ih => exact wpD_succ B nL _ _ _ _ _ ih
end
