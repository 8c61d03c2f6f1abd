section
/-- a private method of a class that the tables say can be made, by its rows of tables_1 -/
def lw_okq (q : MethodName × Nat) : Prop := (q.1.cls ≠ "java/lang/invoke/MethodHandle" ∧ q.1.cls ≠ "java/lang/invoke/VarHandle") ∧ Cond.instantiable q.1.cls q.2 ∈ tables_1 ∧ Cond.privateMethod q.1 ∈ tables_1 ∧ Cond.instanceMethod q.1 ∈ tables_1
theorem lw_p0 : lw_okq (⟨"TideWheels", "change", "(III)I"⟩, 8) := ⟨⟨by decide +kernel, by decide +kernel⟩, List.mem_of_getElem? (i := 16) (by decide +kernel), List.mem_of_getElem? (i := 252) (by decide +kernel), List.mem_of_getElem? (i := 253) (by decide +kernel)⟩
theorem lw_p1 : lw_okq (⟨"TideWheels", "firstOtherwise", "(LTideWheels$Sheet;I)I"⟩, 8) := ⟨⟨by decide +kernel, by decide +kernel⟩, List.mem_of_getElem? (i := 16) (by decide +kernel), List.mem_of_getElem? (i := 378) (by decide +kernel), List.mem_of_getElem? (i := 379) (by decide +kernel)⟩
theorem lw_p2 : lw_okq (⟨"TideWheels", "wrongBy", "(ILTideWheels$Sheet;I)I"⟩, 8) := ⟨⟨by decide +kernel, by decide +kernel⟩, List.mem_of_getElem? (i := 16) (by decide +kernel), List.mem_of_getElem? (i := 382) (by decide +kernel), List.mem_of_getElem? (i := 383) (by decide +kernel)⟩
theorem lw_p3 : lw_okq (⟨"TideWheels", "think", "(LTideWheels$Wheel;II)V"⟩, 8) := ⟨⟨by decide +kernel, by decide +kernel⟩, List.mem_of_getElem? (i := 16) (by decide +kernel), List.mem_of_getElem? (i := 386) (by decide +kernel), List.mem_of_getElem? (i := 387) (by decide +kernel)⟩
theorem lw_p4 : lw_okq (⟨"TideWheels", "isAllSo", "(LTideWheels$Sheet;I)Z"⟩, 8) := ⟨⟨by decide +kernel, by decide +kernel⟩, List.mem_of_getElem? (i := 16) (by decide +kernel), List.mem_of_getElem? (i := 397) (by decide +kernel), List.mem_of_getElem? (i := 398) (by decide +kernel)⟩
theorem lw_p5 : lw_okq (⟨"TideWheels", "hasHighs", "(LTideWheels$Sheet;II)Z"⟩, 8) := ⟨⟨by decide +kernel, by decide +kernel⟩, List.mem_of_getElem? (i := 16) (by decide +kernel), List.mem_of_getElem? (i := 405) (by decide +kernel), List.mem_of_getElem? (i := 406) (by decide +kernel)⟩
theorem lw_p6 : lw_okq (⟨"TideWheels", "levelByLot", "(II)J"⟩, 8) := ⟨⟨by decide +kernel, by decide +kernel⟩, List.mem_of_getElem? (i := 16) (by decide +kernel), List.mem_of_getElem? (i := 455) (by decide +kernel), List.mem_of_getElem? (i := 456) (by decide +kernel)⟩
theorem lw_p7 : lw_okq (⟨"TideWheels", "doClause", "(II)I"⟩, 8) := ⟨⟨by decide +kernel, by decide +kernel⟩, List.mem_of_getElem? (i := 16) (by decide +kernel), List.mem_of_getElem? (i := 586) (by decide +kernel), List.mem_of_getElem? (i := 587) (by decide +kernel)⟩
theorem lw_p8 : lw_okq (⟨"TideWheels", "partFrom", "(LTideWheels$Sheet;I)I"⟩, 8) := ⟨⟨by decide +kernel, by decide +kernel⟩, List.mem_of_getElem? (i := 16) (by decide +kernel), List.mem_of_getElem? (i := 613) (by decide +kernel), List.mem_of_getElem? (i := 614) (by decide +kernel)⟩
theorem lw_p9 : lw_okq (⟨"TideWheelsModel", "lays", "(III)V"⟩, 18) := ⟨⟨by decide +kernel, by decide +kernel⟩, List.mem_of_getElem? (i := 647) (by decide +kernel), List.mem_of_getElem? (i := 723) (by decide +kernel), List.mem_of_getElem? (i := 724) (by decide +kernel)⟩
theorem lw_p10 : lw_okq (⟨"TideWheelsModel", "isPart", "(I)Z"⟩, 18) := ⟨⟨by decide +kernel, by decide +kernel⟩, List.mem_of_getElem? (i := 647) (by decide +kernel), List.mem_of_getElem? (i := 735) (by decide +kernel), List.mem_of_getElem? (i := 736) (by decide +kernel)⟩
theorem lw_p11 : lw_okq (⟨"TideWheelsModel", "at", "(II)I"⟩, 18) := ⟨⟨by decide +kernel, by decide +kernel⟩, List.mem_of_getElem? (i := 647) (by decide +kernel), List.mem_of_getElem? (i := 741) (by decide +kernel), List.mem_of_getElem? (i := 742) (by decide +kernel)⟩
theorem lw_p12 : lw_okq (⟨"TideWheelsModel", "becomes", "(III)I"⟩, 18) := ⟨⟨by decide +kernel, by decide +kernel⟩, List.mem_of_getElem? (i := 647) (by decide +kernel), List.mem_of_getElem? (i := 758) (by decide +kernel), List.mem_of_getElem? (i := 759) (by decide +kernel)⟩
theorem lw_p13 : lw_okq (⟨"TideWheelsModel", "jamOf", "(I)I"⟩, 18) := ⟨⟨by decide +kernel, by decide +kernel⟩, List.mem_of_getElem? (i := 647) (by decide +kernel), List.mem_of_getElem? (i := 787) (by decide +kernel), List.mem_of_getElem? (i := 788) (by decide +kernel)⟩
theorem lw_p14 : lw_okq (⟨"TideWheelsModel", "speedAbove", "(I)J"⟩, 18) := ⟨⟨by decide +kernel, by decide +kernel⟩, List.mem_of_getElem? (i := 647) (by decide +kernel), List.mem_of_getElem? (i := 802) (by decide +kernel), List.mem_of_getElem? (i := 803) (by decide +kernel)⟩
theorem lw_p15 : lw_okq (⟨"TideWheelsModel", "speedBelow", "(I)J"⟩, 18) := ⟨⟨by decide +kernel, by decide +kernel⟩, List.mem_of_getElem? (i := 647) (by decide +kernel), List.mem_of_getElem? (i := 806) (by decide +kernel), List.mem_of_getElem? (i := 807) (by decide +kernel)⟩
def lw_privs_1 : List (MethodName × Nat) := [(⟨"TideWheels", "change", "(III)I"⟩, 8), (⟨"TideWheels", "firstOtherwise", "(LTideWheels$Sheet;I)I"⟩, 8), (⟨"TideWheels", "wrongBy", "(ILTideWheels$Sheet;I)I"⟩, 8), (⟨"TideWheels", "think", "(LTideWheels$Wheel;II)V"⟩, 8), (⟨"TideWheels", "isAllSo", "(LTideWheels$Sheet;I)Z"⟩, 8), (⟨"TideWheels", "hasHighs", "(LTideWheels$Sheet;II)Z"⟩, 8), (⟨"TideWheels", "levelByLot", "(II)J"⟩, 8), (⟨"TideWheels", "doClause", "(II)I"⟩, 8), (⟨"TideWheels", "partFrom", "(LTideWheels$Sheet;I)I"⟩, 8), (⟨"TideWheelsModel", "lays", "(III)V"⟩, 18), (⟨"TideWheelsModel", "isPart", "(I)Z"⟩, 18), (⟨"TideWheelsModel", "at", "(II)I"⟩, 18), (⟨"TideWheelsModel", "becomes", "(III)I"⟩, 18), (⟨"TideWheelsModel", "jamOf", "(I)I"⟩, 18), (⟨"TideWheelsModel", "speedAbove", "(I)J"⟩, 18), (⟨"TideWheelsModel", "speedBelow", "(I)J"⟩, 18)]
theorem lw_r1 : ∀ q ∈ lw_privs_1, lw_okq q := List.forall_mem_cons.mpr ⟨lw_p0, List.forall_mem_cons.mpr ⟨lw_p1, List.forall_mem_cons.mpr ⟨lw_p2, List.forall_mem_cons.mpr ⟨lw_p3, List.forall_mem_cons.mpr ⟨lw_p4, List.forall_mem_cons.mpr ⟨lw_p5, List.forall_mem_cons.mpr ⟨lw_p6, List.forall_mem_cons.mpr ⟨lw_p7, List.forall_mem_cons.mpr ⟨lw_p8, List.forall_mem_cons.mpr ⟨lw_p9, List.forall_mem_cons.mpr ⟨lw_p10, List.forall_mem_cons.mpr ⟨lw_p11, List.forall_mem_cons.mpr ⟨lw_p12, List.forall_mem_cons.mpr ⟨lw_p13, List.forall_mem_cons.mpr ⟨lw_p14, List.forall_mem_cons.mpr ⟨lw_p15, fun _ h => absurd h List.not_mem_nil⟩⟩⟩⟩⟩⟩⟩⟩⟩⟩⟩⟩⟩⟩⟩⟩
theorem lw_p16 : lw_okq (⟨"TideWheelsModel", "sumAt", "(I)J"⟩, 18) := ⟨⟨by decide +kernel, by decide +kernel⟩, List.mem_of_getElem? (i := 647) (by decide +kernel), List.mem_of_getElem? (i := 828) (by decide +kernel), List.mem_of_getElem? (i := 829) (by decide +kernel)⟩
theorem lw_p17 : lw_okq (⟨"TideWheelsModel", "heightBy", "(II)J"⟩, 18) := ⟨⟨by decide +kernel, by decide +kernel⟩, List.mem_of_getElem? (i := 647) (by decide +kernel), List.mem_of_getElem? (i := 832) (by decide +kernel), List.mem_of_getElem? (i := 833) (by decide +kernel)⟩
theorem lw_p18 : lw_okq (⟨"TideWheelsModel", "placeOf", "(II)I"⟩, 18) := ⟨⟨by decide +kernel, by decide +kernel⟩, List.mem_of_getElem? (i := 647) (by decide +kernel), List.mem_of_getElem? (i := 836) (by decide +kernel), List.mem_of_getElem? (i := 837) (by decide +kernel)⟩
theorem lw_p19 : lw_okq (⟨"TideWheelsModel", "wayOf", "(II)J"⟩, 18) := ⟨⟨by decide +kernel, by decide +kernel⟩, List.mem_of_getElem? (i := 647) (by decide +kernel), List.mem_of_getElem? (i := 840) (by decide +kernel), List.mem_of_getElem? (i := 841) (by decide +kernel)⟩
theorem lw_p20 : lw_okq (⟨"TideWheelsModel", "shapeOf", "(II)I"⟩, 18) := ⟨⟨by decide +kernel, by decide +kernel⟩, List.mem_of_getElem? (i := 647) (by decide +kernel), List.mem_of_getElem? (i := 846) (by decide +kernel), List.mem_of_getElem? (i := 847) (by decide +kernel)⟩
theorem lw_p21 : lw_okq (⟨"TideWheelsModel", "looks", "(IIII)V"⟩, 18) := ⟨⟨by decide +kernel, by decide +kernel⟩, List.mem_of_getElem? (i := 647) (by decide +kernel), List.mem_of_getElem? (i := 872) (by decide +kernel), List.mem_of_getElem? (i := 873) (by decide +kernel)⟩
theorem lw_p22 : lw_okq (⟨"TideWheelsModel", "firstOther", "(II)I"⟩, 18) := ⟨⟨by decide +kernel, by decide +kernel⟩, List.mem_of_getElem? (i := 647) (by decide +kernel), List.mem_of_getElem? (i := 890) (by decide +kernel), List.mem_of_getElem? (i := 891) (by decide +kernel)⟩
theorem lw_p23 : lw_okq (⟨"TideWheelsModel", "itemOf", "(II)J"⟩, 18) := ⟨⟨by decide +kernel, by decide +kernel⟩, List.mem_of_getElem? (i := 647) (by decide +kernel), List.mem_of_getElem? (i := 894) (by decide +kernel), List.mem_of_getElem? (i := 895) (by decide +kernel)⟩
theorem lw_p24 : lw_okq (⟨"TideWheelsModel", "wrongBy", "(IIII)I"⟩, 18) := ⟨⟨by decide +kernel, by decide +kernel⟩, List.mem_of_getElem? (i := 647) (by decide +kernel), List.mem_of_getElem? (i := 898) (by decide +kernel), List.mem_of_getElem? (i := 899) (by decide +kernel)⟩
theorem lw_p25 : lw_okq (⟨"TideWheelsModel", "areHighs", "(IIII)Z"⟩, 18) := ⟨⟨by decide +kernel, by decide +kernel⟩, List.mem_of_getElem? (i := 647) (by decide +kernel), List.mem_of_getElem? (i := 906) (by decide +kernel), List.mem_of_getElem? (i := 907) (by decide +kernel)⟩
theorem lw_p26 : lw_okq (⟨"TideWheelsModel", "areAlike", "(II)Z"⟩, 18) := ⟨⟨by decide +kernel, by decide +kernel⟩, List.mem_of_getElem? (i := 647) (by decide +kernel), List.mem_of_getElem? (i := 933) (by decide +kernel), List.mem_of_getElem? (i := 934) (by decide +kernel)⟩
theorem lw_p27 : lw_okq (⟨"TideWheelsModel", "byLot", "(II)J"⟩, 18) := ⟨⟨by decide +kernel, by decide +kernel⟩, List.mem_of_getElem? (i := 647) (by decide +kernel), List.mem_of_getElem? (i := 942) (by decide +kernel), List.mem_of_getElem? (i := 943) (by decide +kernel)⟩
theorem lw_p28 : lw_okq (⟨"TideWheelsModel", "goes", "(Z)I"⟩, 18) := ⟨⟨by decide +kernel, by decide +kernel⟩, List.mem_of_getElem? (i := 647) (by decide +kernel), List.mem_of_getElem? (i := 963) (by decide +kernel), List.mem_of_getElem? (i := 964) (by decide +kernel)⟩
theorem lw_p29 : lw_okq (⟨"TideWheelsModel", "clause", "()I"⟩, 18) := ⟨⟨by decide +kernel, by decide +kernel⟩, List.mem_of_getElem? (i := 647) (by decide +kernel), List.mem_of_getElem? (i := 967) (by decide +kernel), List.mem_of_getElem? (i := 968) (by decide +kernel)⟩
theorem lw_p30 : lw_okq (⟨"TideWheelsModel", "skips", "()V"⟩, 18) := ⟨⟨by decide +kernel, by decide +kernel⟩, List.mem_of_getElem? (i := 647) (by decide +kernel), List.mem_of_getElem? (i := 971) (by decide +kernel), List.mem_of_getElem? (i := 972) (by decide +kernel)⟩
theorem lw_p31 : lw_okq (⟨"TideWheelsModel", "byteAt", "(I)I"⟩, 18) := ⟨⟨by decide +kernel, by decide +kernel⟩, List.mem_of_getElem? (i := 647) (by decide +kernel), List.mem_of_getElem? (i := 975) (by decide +kernel), List.mem_of_getElem? (i := 976) (by decide +kernel)⟩
def lw_privs_2 : List (MethodName × Nat) := [(⟨"TideWheelsModel", "sumAt", "(I)J"⟩, 18), (⟨"TideWheelsModel", "heightBy", "(II)J"⟩, 18), (⟨"TideWheelsModel", "placeOf", "(II)I"⟩, 18), (⟨"TideWheelsModel", "wayOf", "(II)J"⟩, 18), (⟨"TideWheelsModel", "shapeOf", "(II)I"⟩, 18), (⟨"TideWheelsModel", "looks", "(IIII)V"⟩, 18), (⟨"TideWheelsModel", "firstOther", "(II)I"⟩, 18), (⟨"TideWheelsModel", "itemOf", "(II)J"⟩, 18), (⟨"TideWheelsModel", "wrongBy", "(IIII)I"⟩, 18), (⟨"TideWheelsModel", "areHighs", "(IIII)Z"⟩, 18), (⟨"TideWheelsModel", "areAlike", "(II)Z"⟩, 18), (⟨"TideWheelsModel", "byLot", "(II)J"⟩, 18), (⟨"TideWheelsModel", "goes", "(Z)I"⟩, 18), (⟨"TideWheelsModel", "clause", "()I"⟩, 18), (⟨"TideWheelsModel", "skips", "()V"⟩, 18), (⟨"TideWheelsModel", "byteAt", "(I)I"⟩, 18)]
theorem lw_r2 : ∀ q ∈ lw_privs_2, lw_okq q := List.forall_mem_cons.mpr ⟨lw_p16, List.forall_mem_cons.mpr ⟨lw_p17, List.forall_mem_cons.mpr ⟨lw_p18, List.forall_mem_cons.mpr ⟨lw_p19, List.forall_mem_cons.mpr ⟨lw_p20, List.forall_mem_cons.mpr ⟨lw_p21, List.forall_mem_cons.mpr ⟨lw_p22, List.forall_mem_cons.mpr ⟨lw_p23, List.forall_mem_cons.mpr ⟨lw_p24, List.forall_mem_cons.mpr ⟨lw_p25, List.forall_mem_cons.mpr ⟨lw_p26, List.forall_mem_cons.mpr ⟨lw_p27, List.forall_mem_cons.mpr ⟨lw_p28, List.forall_mem_cons.mpr ⟨lw_p29, List.forall_mem_cons.mpr ⟨lw_p30, List.forall_mem_cons.mpr ⟨lw_p31, fun _ h => absurd h List.not_mem_nil⟩⟩⟩⟩⟩⟩⟩⟩⟩⟩⟩⟩⟩⟩⟩⟩
theorem lw_p32 : lw_okq (⟨"TideWheelsModel", "wordHere", "()I"⟩, 18) := ⟨⟨by decide +kernel, by decide +kernel⟩, List.mem_of_getElem? (i := 647) (by decide +kernel), List.mem_of_getElem? (i := 985) (by decide +kernel), List.mem_of_getElem? (i := 986) (by decide +kernel)⟩
theorem lw_p33 : lw_okq (⟨"TideWheelsModel", "numberHere", "()I"⟩, 18) := ⟨⟨by decide +kernel, by decide +kernel⟩, List.mem_of_getElem? (i := 647) (by decide +kernel), List.mem_of_getElem? (i := 994) (by decide +kernel), List.mem_of_getElem? (i := 995) (by decide +kernel)⟩
theorem lw_p34 : lw_okq (⟨"TideWheelsModel", "isDone", "(I)Z"⟩, 18) := ⟨⟨by decide +kernel, by decide +kernel⟩, List.mem_of_getElem? (i := 647) (by decide +kernel), List.mem_of_getElem? (i := 998) (by decide +kernel), List.mem_of_getElem? (i := 999) (by decide +kernel)⟩
theorem lw_p35 : lw_okq (⟨"TideWheelsModel", "pairsOfAll", "()I"⟩, 18) := ⟨⟨by decide +kernel, by decide +kernel⟩, List.mem_of_getElem? (i := 647) (by decide +kernel), List.mem_of_getElem? (i := 1024) (by decide +kernel), List.mem_of_getElem? (i := 1025) (by decide +kernel)⟩
theorem lw_p36 : lw_okq (⟨"TideWheelsModel", "jammed", "()I"⟩, 18) := ⟨⟨by decide +kernel, by decide +kernel⟩, List.mem_of_getElem? (i := 647) (by decide +kernel), List.mem_of_getElem? (i := 1028) (by decide +kernel), List.mem_of_getElem? (i := 1029) (by decide +kernel)⟩
def lw_privs_3 : List (MethodName × Nat) := [(⟨"TideWheelsModel", "wordHere", "()I"⟩, 18), (⟨"TideWheelsModel", "numberHere", "()I"⟩, 18), (⟨"TideWheelsModel", "isDone", "(I)Z"⟩, 18), (⟨"TideWheelsModel", "pairsOfAll", "()I"⟩, 18), (⟨"TideWheelsModel", "jammed", "()I"⟩, 18)]
theorem lw_r3 : ∀ q ∈ lw_privs_3, lw_okq q := List.forall_mem_cons.mpr ⟨lw_p32, List.forall_mem_cons.mpr ⟨lw_p33, List.forall_mem_cons.mpr ⟨lw_p34, List.forall_mem_cons.mpr ⟨lw_p35, List.forall_mem_cons.mpr ⟨lw_p36, fun _ h => absurd h List.not_mem_nil⟩⟩⟩⟩⟩
def lw_privs : List (MethodName × Nat) := lw_privs_1 ++ (lw_privs_2 ++ (lw_privs_3))
def lw_tbl : List Cond := k2_sels lw_privs ++ tables_1
theorem lw_privs_ok : ∀ q ∈ lw_privs, lw_okq q := by
  show ∀ q ∈ lw_privs_1 ++ (lw_privs_2 ++ (lw_privs_3)), lw_okq q
  exact List.forall_mem_append.mpr ⟨lw_r1, List.forall_mem_append.mpr ⟨lw_r2, lw_r3⟩⟩
def RX0 : String := "TideWheels$Flow"
def TX0 : u_T := fun k => match k with
  | 0 => ("TideWheels$Flow", "level", "J", false)
  | _ => ("TideWheels$Flow", "way", "I", false)
def tyX0 : Nat → FieldType := fun k => match k with
  | 0 => .long
  | _ => .int
abbrev wsX00 : List Cond := u_ws RX0 TX0 2
theorem nmX0 : ∀ a, a < 2 → ∀ b, b < 2 → a ≠ b → (TX0 a).2.1 ≠ (TX0 b).2.1 := by decide +kernel
theorem tyX0_ok : ∀ k, k < 2 → parseFieldDescriptor (TX0 k).2.2.1 = some (tyX0 k) := by decide +kernel
abbrev cX0_init : ByteArray := prog_2_method_1_code
def yX0_init : MethodName := ⟨RX0, "<init>", "()V"⟩
abbrev cX0_start : ByteArray := prog_2_method_2_code
def yX0_start : MethodName := ⟨RX0, "start", "(J)V"⟩
abbrev cX0_step : ByteArray := prog_2_method_3_code
def yX0_step : MethodName := ⟨RX0, "step", "(J)I"⟩
def RX1 : String := "TideWheels$Sheet"
def TX1 : u_T := fun k => match k with
  | 0 => ("TideWheels$Sheet", "row", "[J", true)
  | 1 => ("TideWheels$Sheet", "sort", "I", false)
  | _ => ("TideWheels$Sheet", "size", "I", false)
def tyX1 : Nat → FieldType := fun k => match k with
  | 0 => .array .long
  | 1 => .int
  | _ => .int
abbrev wsX10 : List Cond := u_ws RX1 TX1 3
theorem nmX1 : ∀ a, a < 3 → ∀ b, b < 3 → a ≠ b → (TX1 a).2.1 ≠ (TX1 b).2.1 := by decide +kernel
theorem tyX1_ok : ∀ k, k < 3 → parseFieldDescriptor (TX1 k).2.2.1 = some (tyX1 k) := by decide +kernel
abbrev cX1_init : ByteArray := prog_3_method_1_code
def yX1_init : MethodName := ⟨RX1, "<init>", "()V"⟩
abbrev cX1_isMissing : ByteArray := prog_3_method_2_code
def yX1_isMissing : MethodName := ⟨RX1, "isMissing", "()Z"⟩
abbrev cX1_canTell : ByteArray := prog_3_method_3_code
def yX1_canTell : MethodName := ⟨RX1, "canTell", "()Z"⟩
abbrev cX1_begin : ByteArray := prog_3_method_4_code
def yX1_begin : MethodName := ⟨RX1, "begin", "(II)V"⟩
abbrev cX1_holds : ByteArray := prog_3_method_5_code
def yX1_holds : MethodName := ⟨RX1, "holds", "(JI)Z"⟩
abbrev cX1_write : ByteArray := prog_3_method_6_code
def yX1_write : MethodName := ⟨RX1, "write", "(IJ)V"⟩
def RX2 : String := "TideWheels$Tape"
def TX2 : u_T := fun k => match k with
  | 0 => ("TideWheels$Tape", "bytes", "[I", true)
  | 1 => ("TideWheels$Tape", "size", "I", false)
  | 2 => ("TideWheels$Tape", "sort", "I", false)
  | 3 => ("TideWheels$Tape", "from", "I", false)
  | 4 => ("TideWheels$Tape", "to", "I", false)
  | 5 => ("TideWheels$Tape", "said", "[I", true)
  | 6 => ("TideWheels$Tape", "saidSize", "I", false)
  | _ => ("TideWheels$Tape", "clauses", "I", false)
def tyX2 : Nat → FieldType := fun k => match k with
  | 0 => .array .int
  | 1 => .int
  | 2 => .int
  | 3 => .int
  | 4 => .int
  | 5 => .array .int
  | 6 => .int
  | _ => .int
abbrev wsX20 : List Cond := u_ws RX2 TX2 8
theorem nmX2 : ∀ a, a < 8 → ∀ b, b < 8 → a ≠ b → (TX2 a).2.1 ≠ (TX2 b).2.1 := by decide +kernel
theorem tyX2_ok : ∀ k, k < 8 → parseFieldDescriptor (TX2 k).2.2.1 = some (tyX2 k) := by decide +kernel
abbrev cX2_init : ByteArray := prog_4_method_1_code
def yX2_init : MethodName := ⟨RX2, "<init>", "()V"⟩
abbrev cX2_addByte : ByteArray := prog_4_method_2_code
def yX2_addByte : MethodName := ⟨RX2, "addByte", "(I)V"⟩
abbrev cX2_byteAt : ByteArray := prog_4_method_3_code
def yX2_byteAt : MethodName := ⟨RX2, "byteAt", "(I)I"⟩
abbrev cX2_sortAt : ByteArray := prog_4_method_4_code
def yX2_sortAt : MethodName := ⟨RX2, "sortAt", "(I)I"⟩
abbrev cX2_behind : ByteArray := prog_4_method_5_code
def yX2_behind : MethodName := ⟨RX2, "behind", "(II)I"⟩
abbrev cX2_next : ByteArray := prog_4_method_6_code
def yX2_next : MethodName := ⟨RX2, "next", "()I"⟩
abbrev cX2_findFault : ByteArray := prog_4_method_7_code
def yX2_findFault : MethodName := ⟨RX2, "findFault", "()I"⟩
abbrev cX2_readClause : ByteArray := prog_4_method_8_code
def yX2_readClause : MethodName := ⟨RX2, "readClause", "()Z"⟩
abbrev cX2_wordRead : ByteArray := prog_4_method_9_code
def yX2_wordRead : MethodName := ⟨RX2, "wordRead", "()I"⟩
abbrev cX2_isSpelt : ByteArray := prog_4_method_10_code
def yX2_isSpelt : MethodName := ⟨RX2, "isSpelt", "(Ljava/lang/String;)Z"⟩
abbrev cX2_numberRead : ByteArray := prog_4_method_11_code
def yX2_numberRead : MethodName := ⟨RX2, "numberRead", "()I"⟩
abbrev cX2_say : ByteArray := prog_4_method_12_code
def yX2_say : MethodName := ⟨RX2, "say", "(I)V"⟩
abbrev cX2_saidAt : ByteArray := prog_4_method_13_code
def yX2_saidAt : MethodName := ⟨RX2, "saidAt", "(I)I"⟩
def RX3 : String := "TideWheels$Wheel"
def TX3 : u_T := fun k => match k with
  | 0 => ("TideWheels$Wheel", "traits", "[I", true)
  | 1 => ("TideWheels$Wheel", "a", "[I", true)
  | 2 => ("TideWheels$Wheel", "b", "[I", true)
  | 3 => ("TideWheels$Wheel", "pairs", "I", false)
  | 4 => ("TideWheels$Wheel", "above", "J", false)
  | _ => ("TideWheels$Wheel", "below", "J", false)
def tyX3 : Nat → FieldType := fun k => match k with
  | 0 => .array .int
  | 1 => .array .int
  | 2 => .array .int
  | 3 => .int
  | 4 => .long
  | _ => .long
abbrev wsX30 : List Cond := u_ws RX3 TX3 6
theorem nmX3 : ∀ a, a < 6 → ∀ b, b < 6 → a ≠ b → (TX3 a).2.1 ≠ (TX3 b).2.1 := by decide +kernel
theorem tyX3_ok : ∀ k, k < 6 → parseFieldDescriptor (TX3 k).2.2.1 = some (tyX3 k) := by decide +kernel
abbrev cX3_init : ByteArray := prog_5_method_1_code
def yX3_init : MethodName := ⟨RX3, "<init>", "()V"⟩
abbrev cX3_become : ByteArray := prog_5_method_2_code
def yX3_become : MethodName := ⟨RX3, "become", "(LTideWheels$Wheel;)V"⟩
abbrev cX3_addPair : ByteArray := prog_5_method_3_code
def yX3_addPair : MethodName := ⟨RX3, "addPair", "(II)I"⟩
abbrev cX3_toothOf : ByteArray := prog_5_method_4_code
def yX3_toothOf : MethodName := ⟨RX3, "toothOf", "([II)I"⟩
abbrev cX3_isA : ByteArray := prog_5_method_5_code
def yX3_isA : MethodName := ⟨RX3, "isA", "(I)Z"⟩
abbrev cX3_jammed : ByteArray := prog_5_method_6_code
def yX3_jammed : MethodName := ⟨RX3, "jammed", "()I"⟩
abbrev cX3_tune : ByteArray := prog_5_method_7_code
def yX3_tune : MethodName := ⟨RX3, "tune", "(I)V"⟩
abbrev cX3_isAsFastAs : ByteArray := prog_5_method_8_code
def yX3_isAsFastAs : MethodName := ⟨RX3, "isAsFastAs", "(LTideWheels$Wheel;)Z"⟩
abbrev cX3_wayAt : ByteArray := prog_5_method_9_code
def yX3_wayAt : MethodName := ⟨RX3, "wayAt", "(I)J"⟩
abbrev cX3_spot : ByteArray := prog_5_method_10_code
def yX3_spot : MethodName := ⟨RX3, "spot", "(I)I"⟩
abbrev cX3_shapeAt : ByteArray := prog_5_method_11_code
def yX3_shapeAt : MethodName := ⟨RX3, "shapeAt", "(I)I"⟩
abbrev cX3_swing : ByteArray := prog_5_method_12_code
def yX3_swing : MethodName := ⟨RX3, "swing", "(I)J"⟩
def RX4 : String := "TideWheels$Works"
def TX4 : u_T := fun k => match k with
  | 0 => ("TideWheels$Works", "wheels", "[LTideWheels$Wheel;", true)
  | 1 => ("TideWheels$Works", "parts", "I", false)
  | 2 => ("TideWheels$Works", "shaft", "I", false)
  | _ => ("TideWheels$Works", "tick", "I", false)
def tyX4 : Nat → FieldType := fun k => match k with
  | 0 => .array (.object "TideWheels$Wheel")
  | 1 => .int
  | 2 => .int
  | _ => .int
abbrev wsX40 : List Cond := u_ws RX4 TX4 4
theorem nmX4 : ∀ a, a < 4 → ∀ b, b < 4 → a ≠ b → (TX4 a).2.1 ≠ (TX4 b).2.1 := by decide +kernel
theorem tyX4_ok : ∀ k, k < 4 → parseFieldDescriptor (TX4 k).2.2.1 = some (tyX4 k) := by decide +kernel
abbrev cX4_init : ByteArray := prog_6_method_1_code
def yX4_init : MethodName := ⟨RX4, "<init>", "()V"⟩
abbrev cX4_become : ByteArray := prog_6_method_2_code
def yX4_become : MethodName := ⟨RX4, "become", "(LTideWheels$Works;)V"⟩
abbrev cX4_wheelOf : ByteArray := prog_6_method_3_code
def yX4_wheelOf : MethodName := ⟨RX4, "wheelOf", "(I)LTideWheels$Wheel;"⟩
abbrev cX4_addWheel : ByteArray := prog_6_method_4_code
def yX4_addWheel : MethodName := ⟨RX4, "addWheel", "(IIII)I"⟩
abbrev cX4_goAt : ByteArray := prog_6_method_5_code
def yX4_goAt : MethodName := ⟨RX4, "goAt", "(I)V"⟩
abbrev cX4_level : ByteArray := prog_6_method_6_code
def yX4_level : MethodName := ⟨RX4, "level", "(I)J"⟩
abbrev cX4_likeOnes : ByteArray := prog_6_method_7_code
def yX4_likeOnes : MethodName := ⟨RX4, "likeOnes", "(LTideWheels$Wheel;)I"⟩
abbrev cX4_groups : ByteArray := prog_6_method_8_code
def yX4_groups : MethodName := ⟨RX4, "groups", "()I"⟩
abbrev cX4_pairsOfAll : ByteArray := prog_6_method_9_code
def yX4_pairsOfAll : MethodName := ⟨RX4, "pairsOfAll", "()I"⟩
abbrev cX4_jams : ByteArray := prog_6_method_10_code
def yX4_jams : MethodName := ⟨RX4, "jams", "()I"⟩
def RX5 : String := "TideWheels"
def TX5 : u_T := fun k => match k with
  | 0 => ("TideWheels", "works", "LTideWheels$Works;", true)
  | 1 => ("TideWheels", "kept", "LTideWheels$Works;", true)
  | 2 => ("TideWheels", "isKept", "Z", false)
  | 3 => ("TideWheels", "sheets", "[LTideWheels$Sheet;", true)
  | 4 => ("TideWheels", "tape", "LTideWheels$Tape;", true)
  | 5 => ("TideWheels", "thought", "LTideWheels$Wheel;", true)
  | 6 => ("TideWheels", "rest", "[J", true)
  | _ => ("TideWheels", "flow", "LTideWheels$Flow;", true)
def tyX5 : Nat → FieldType := fun k => match k with
  | 0 => .object "TideWheels$Works"
  | 1 => .object "TideWheels$Works"
  | 2 => .boolean
  | 3 => .array (.object "TideWheels$Sheet")
  | 4 => .object "TideWheels$Tape"
  | 5 => .object "TideWheels$Wheel"
  | 6 => .array .long
  | _ => .object "TideWheels$Flow"
abbrev wsX50 : List Cond := u_ws RX5 TX5 8
theorem nmX5 : ∀ a, a < 8 → ∀ b, b < 8 → a ≠ b → (TX5 a).2.1 ≠ (TX5 b).2.1 := by decide +kernel
theorem tyX5_ok : ∀ k, k < 8 → parseFieldDescriptor (TX5 k).2.2.1 = some (tyX5 k) := by decide +kernel
abbrev cX5_init : ByteArray := prog_1_method_1_code
def yX5_init : MethodName := ⟨RX5, "<init>", "()V"⟩
abbrev cX5_part : ByteArray := prog_1_method_2_code
def yX5_part : MethodName := ⟨RX5, "part", "(IIII)I"⟩
abbrev cX5_drop : ByteArray := prog_1_method_3_code
def yX5_drop : MethodName := ⟨RX5, "drop", "()I"⟩
abbrev cX5_gear : ByteArray := prog_1_method_4_code
def yX5_gear : MethodName := ⟨RX5, "gear", "(III)I"⟩
abbrev cX5_ungear : ByteArray := prog_1_method_5_code
def yX5_ungear : MethodName := ⟨RX5, "ungear", "(I)I"⟩
abbrev cX5_shaft : ByteArray := prog_1_method_6_code
def yX5_shaft : MethodName := ⟨RX5, "shaft", "(I)I"⟩
abbrev cX5_set : ByteArray := prog_1_method_7_code
def yX5_set : MethodName := ⟨RX5, "set", "(III)I"⟩
abbrev cX5_kind : ByteArray := prog_1_method_8_code
def yX5_kind : MethodName := ⟨RX5, "kind", "(II)I"⟩
abbrev cX5_of : ByteArray := prog_1_method_9_code
def yX5_of : MethodName := ⟨RX5, "of", "(II)I"⟩
abbrev cX5_taken : ByteArray := prog_1_method_10_code
def yX5_taken : MethodName := ⟨RX5, "taken", "(II)I"⟩
abbrev cX5_jam : ByteArray := prog_1_method_11_code
def yX5_jam : MethodName := ⟨RX5, "jam", "(II)I"⟩
abbrev cX5_speed : ByteArray := prog_1_method_12_code
def yX5_speed : MethodName := ⟨RX5, "speed", "(II)J"⟩
abbrev cX5_turn : ByteArray := prog_1_method_13_code
def yX5_turn : MethodName := ⟨RX5, "turn", "(I)I"⟩
abbrev cX5_height : ByteArray := prog_1_method_14_code
def yX5_height : MethodName := ⟨RX5, "height", "()J"⟩
abbrev cX5_heightAt : ByteArray := prog_1_method_15_code
def yX5_heightAt : MethodName := ⟨RX5, "heightAt", "(I)J"⟩
abbrev cX5_heightOf : ByteArray := prog_1_method_16_code
def yX5_heightOf : MethodName := ⟨RX5, "heightOf", "(II)J"⟩
abbrev cX5_place : ByteArray := prog_1_method_17_code
def yX5_place : MethodName := ⟨RX5, "place", "(II)I"⟩
abbrev cX5_waters : ByteArray := prog_1_method_18_code
def yX5_waters : MethodName := ⟨RX5, "waters", "(III)I"⟩
abbrev cX5_water : ByteArray := prog_1_method_19_code
def yX5_water : MethodName := ⟨RX5, "water", "(IIII)I"⟩
abbrev cX5_tells : ByteArray := prog_1_method_20_code
def yX5_tells : MethodName := ⟨RX5, "tells", "(III)I"⟩
abbrev cX5_refound : ByteArray := prog_1_method_21_code
def yX5_refound : MethodName := ⟨RX5, "refound", "(IIIII)I"⟩
abbrev cX5_film : ByteArray := prog_1_method_22_code
def yX5_film : MethodName := ⟨RX5, "film", "(III)I"⟩
abbrev cX5_nearest : ByteArray := prog_1_method_23_code
def yX5_nearest : MethodName := ⟨RX5, "nearest", "(II)I"⟩
abbrev cX5_off : ByteArray := prog_1_method_24_code
def yX5_off : MethodName := ⟨RX5, "off", "(IIII)J"⟩
abbrev cX5_alike : ByteArray := prog_1_method_25_code
def yX5_alike : MethodName := ⟨RX5, "alike", "(I)I"⟩
abbrev cX5_drawn : ByteArray := prog_1_method_26_code
def yX5_drawn : MethodName := ⟨RX5, "drawn", "(II)J"⟩
abbrev cX5_chance : ByteArray := prog_1_method_27_code
def yX5_chance : MethodName := ⟨RX5, "chance", "(IIIII)I"⟩
abbrev cX5_feed : ByteArray := prog_1_method_28_code
def yX5_feed : MethodName := ⟨RX5, "feed", "(IIIIII)I"⟩
abbrev cX5_text : ByteArray := prog_1_method_29_code
def yX5_text : MethodName := ⟨RX5, "text", "()I"⟩
abbrev cX5_image : ByteArray := prog_1_method_30_code
def yX5_image : MethodName := ⟨RX5, "image", "()I"⟩
abbrev cX5_back : ByteArray := prog_1_method_31_code
def yX5_back : MethodName := ⟨RX5, "back", "()I"⟩
abbrev cX5_load : ByteArray := prog_1_method_32_code
def yX5_load : MethodName := ⟨RX5, "load", "(IIII)I"⟩
abbrev cX5_count : ByteArray := prog_1_method_33_code
def yX5_count : MethodName := ⟨RX5, "count", "(I)I"⟩
abbrev cX5_sheet : ByteArray := prog_1_method_34_code
def yX5_sheet : MethodName := ⟨RX5, "sheet", "(III)I"⟩
abbrev cX5_put : ByteArray := prog_1_method_35_code
def yX5_put : MethodName := ⟨RX5, "put", "(IIJ)I"⟩
abbrev cX5_item : ByteArray := prog_1_method_36_code
def yX5_item : MethodName := ⟨RX5, "item", "(II)J"⟩
abbrev cX5_copy : ByteArray := prog_1_method_37_code
def yX5_copy : MethodName := ⟨RX5, "copy", "(IIIII)I"⟩
abbrev cX5_within : ByteArray := prog_1_method_38_code
def yX5_within : MethodName := ⟨RX5, "within", "(III)Z"⟩
abbrev cX5_allows : ByteArray := prog_1_method_39_code
def yX5_allows : MethodName := ⟨RX5, "allows", "(II)Z"⟩
abbrev cX5_isTeeth : ByteArray := prog_1_method_40_code
def yX5_isTeeth : MethodName := ⟨RX5, "isTeeth", "(I)Z"⟩
abbrev cX5_isTick : ByteArray := prog_1_method_41_code
def yX5_isTick : MethodName := ⟨RX5, "isTick", "(I)Z"⟩
abbrev cX5_isByte : ByteArray := prog_1_method_42_code
def yX5_isByte : MethodName := ⟨RX5, "isByte", "(I)Z"⟩
abbrev cX5_isSheet : ByteArray := prog_1_method_43_code
def yX5_isSheet : MethodName := ⟨RX5, "isSheet", "(I)Z"⟩
abbrev cX5_misfit : ByteArray := prog_1_method_44_code
def yX5_misfit : MethodName := ⟨RX5, "misfit", "(II)I"⟩
abbrev cX5_cut : ByteArray := prog_1_method_45_code
def yX5_cut : MethodName := ⟨RX5, "cut", "(JJ)J"⟩
abbrev cX5_greatestDivisor : ByteArray := prog_1_method_46_code
def yX5_greatestDivisor : MethodName := ⟨RX5, "greatestDivisor", "(JJ)J"⟩
abbrev cX5_lowest : ByteArray := prog_1_method_47_code
def yX5_lowest : MethodName := ⟨RX5, "lowest", "(JJI)J"⟩
abbrev cX5_change : ByteArray := prog_1_method_48_code
def yX5_change : MethodName := ⟨RX5, "change", "(III)I"⟩
abbrev cX5_think : ByteArray := prog_1_method_49_code
def yX5_think : MethodName := ⟨RX5, "think", "(LTideWheels$Wheel;II)V"⟩
abbrev cX5_firstOtherwise : ByteArray := prog_1_method_50_code
def yX5_firstOtherwise : MethodName := ⟨RX5, "firstOtherwise", "(LTideWheels$Sheet;I)I"⟩
abbrev cX5_wrongBy : ByteArray := prog_1_method_51_code
def yX5_wrongBy : MethodName := ⟨RX5, "wrongBy", "(ILTideWheels$Sheet;I)I"⟩
abbrev cX5_isAllSo : ByteArray := prog_1_method_52_code
def yX5_isAllSo : MethodName := ⟨RX5, "isAllSo", "(LTideWheels$Sheet;I)Z"⟩
abbrev cX5_hasHighs : ByteArray := prog_1_method_53_code
def yX5_hasHighs : MethodName := ⟨RX5, "hasHighs", "(LTideWheels$Sheet;II)Z"⟩
abbrev cX5_levelByLot : ByteArray := prog_1_method_54_code
def yX5_levelByLot : MethodName := ⟨RX5, "levelByLot", "(II)J"⟩
abbrev cX5_doClause : ByteArray := prog_1_method_55_code
def yX5_doClause : MethodName := ⟨RX5, "doClause", "(II)I"⟩
abbrev cX5_numbersOf : ByteArray := prog_1_method_56_code
def yX5_numbersOf : MethodName := ⟨RX5, "numbersOf", "(I)I"⟩
abbrev cX5_spellingOf : ByteArray := prog_1_method_57_code
def yX5_spellingOf : MethodName := ⟨RX5, "spellingOf", "(I)Ljava/lang/String;"⟩
abbrev cX5_partFrom : ByteArray := prog_1_method_58_code
def yX5_partFrom : MethodName := ⟨RX5, "partFrom", "(LTideWheels$Sheet;I)I"⟩
def RX6 : String := "TideWheelsModel"
def TX6 : u_T := fun k => match k with
  | 0 => ("TideWheelsModel", "s", "[I", true)
  | 1 => ("TideWheelsModel", "image", "[I", true)
  | 2 => ("TideWheelsModel", "hasImage", "Z", false)
  | 3 => ("TideWheelsModel", "found", "I", false)
  | 4 => ("TideWheelsModel", "bestTick", "I", false)
  | 5 => ("TideWheelsModel", "kth", "I", false)
  | 6 => ("TideWheelsModel", "sorts", "[I", true)
  | 7 => ("TideWheelsModel", "sizes", "[I", true)
  | 8 => ("TideWheelsModel", "items", "[J", true)
  | 9 => ("TideWheelsModel", "others", "[J", true)
  | 10 => ("TideWheelsModel", "phases", "[I", true)
  | 11 => ("TideWheelsModel", "tape", "[I", true)
  | 12 => ("TideWheelsModel", "taped", "I", false)
  | 13 => ("TideWheelsModel", "here", "I", false)
  | 14 => ("TideWheelsModel", "end", "I", false)
  | 15 => ("TideWheelsModel", "numbers", "[I", true)
  | 16 => ("TideWheelsModel", "words", "Ljava/lang/String;", true)
  | _ => ("TideWheelsModel", "moved", "[J", true)
def tyX6 : Nat → FieldType := fun k => match k with
  | 0 => .array .int
  | 1 => .array .int
  | 2 => .boolean
  | 3 => .int
  | 4 => .int
  | 5 => .int
  | 6 => .array .int
  | 7 => .array .int
  | 8 => .array .long
  | 9 => .array .long
  | 10 => .array .int
  | 11 => .array .int
  | 12 => .int
  | 13 => .int
  | 14 => .int
  | 15 => .array .int
  | 16 => .object "java/lang/String"
  | _ => .array .long
abbrev wsX60 : List Cond := u_ws RX6 TX6 18
theorem nmX6 : ∀ a, a < 18 → ∀ b, b < 18 → a ≠ b → (TX6 a).2.1 ≠ (TX6 b).2.1 := by decide +kernel
theorem tyX6_ok : ∀ k, k < 18 → parseFieldDescriptor (TX6 k).2.2.1 = some (tyX6 k) := by decide +kernel
abbrev cX6_init : ByteArray := prog_8_method_1_code
def yX6_init : MethodName := ⟨RX6, "<init>", "()V"⟩
abbrev cX6_isIn : ByteArray := prog_8_method_2_code
def yX6_isIn : MethodName := ⟨RX6, "isIn", "(JJJ)Z"⟩
abbrev cX6_isPart : ByteArray := prog_8_method_3_code
def yX6_isPart : MethodName := ⟨RX6, "isPart", "(I)Z"⟩
abbrev cX6_at : ByteArray := prog_8_method_4_code
def yX6_at : MethodName := ⟨RX6, "at", "(II)I"⟩
abbrev cX6_lays : ByteArray := prog_8_method_5_code
def yX6_lays : MethodName := ⟨RX6, "lays", "(III)V"⟩
abbrev cX6_isLine : ByteArray := prog_8_method_6_code
def yX6_isLine : MethodName := ⟨RX6, "isLine", "(I)Z"⟩
abbrev cX6_mayBe : ByteArray := prog_8_method_7_code
def yX6_mayBe : MethodName := ⟨RX6, "mayBe", "(II)Z"⟩
abbrev cX6_part : ByteArray := prog_8_method_8_code
def yX6_part : MethodName := ⟨RX6, "part", "(IIII)I"⟩
abbrev cX6_drop : ByteArray := prog_8_method_9_code
def yX6_drop : MethodName := ⟨RX6, "drop", "()I"⟩
abbrev cX6_gear : ByteArray := prog_8_method_10_code
def yX6_gear : MethodName := ⟨RX6, "gear", "(III)I"⟩
abbrev cX6_ungear : ByteArray := prog_8_method_11_code
def yX6_ungear : MethodName := ⟨RX6, "ungear", "(I)I"⟩
abbrev cX6_shaft : ByteArray := prog_8_method_12_code
def yX6_shaft : MethodName := ⟨RX6, "shaft", "(I)I"⟩
abbrev cX6_becomes : ByteArray := prog_8_method_13_code
def yX6_becomes : MethodName := ⟨RX6, "becomes", "(III)I"⟩
abbrev cX6_set : ByteArray := prog_8_method_14_code
def yX6_set : MethodName := ⟨RX6, "set", "(III)I"⟩
abbrev cX6_kind : ByteArray := prog_8_method_15_code
def yX6_kind : MethodName := ⟨RX6, "kind", "(II)I"⟩
abbrev cX6_of : ByteArray := prog_8_method_16_code
def yX6_of : MethodName := ⟨RX6, "of", "(II)I"⟩
abbrev cX6_above : ByteArray := prog_8_method_17_code
def yX6_above : MethodName := ⟨RX6, "above", "(I)I"⟩
abbrev cX6_taken : ByteArray := prog_8_method_18_code
def yX6_taken : MethodName := ⟨RX6, "taken", "(II)I"⟩
abbrev cX6_why : ByteArray := prog_8_method_19_code
def yX6_why : MethodName := ⟨RX6, "why", "(II)I"⟩
abbrev cX6_jamOf : ByteArray := prog_8_method_20_code
def yX6_jamOf : MethodName := ⟨RX6, "jamOf", "(I)I"⟩
abbrev cX6_jam : ByteArray := prog_8_method_21_code
def yX6_jam : MethodName := ⟨RX6, "jam", "(II)I"⟩
abbrev cX6_divisor : ByteArray := prog_8_method_22_code
def yX6_divisor : MethodName := ⟨RX6, "divisor", "(JJ)J"⟩
abbrev cX6_lowest : ByteArray := prog_8_method_23_code
def yX6_lowest : MethodName := ⟨RX6, "lowest", "(JJI)J"⟩
abbrev cX6_speedAbove : ByteArray := prog_8_method_24_code
def yX6_speedAbove : MethodName := ⟨RX6, "speedAbove", "(I)J"⟩
abbrev cX6_speedBelow : ByteArray := prog_8_method_25_code
def yX6_speedBelow : MethodName := ⟨RX6, "speedBelow", "(I)J"⟩
abbrev cX6_speed : ByteArray := prog_8_method_26_code
def yX6_speed : MethodName := ⟨RX6, "speed", "(II)J"⟩
abbrev cX6_wayOf : ByteArray := prog_8_method_27_code
def yX6_wayOf : MethodName := ⟨RX6, "wayOf", "(II)J"⟩
abbrev cX6_placeOf : ByteArray := prog_8_method_28_code
def yX6_placeOf : MethodName := ⟨RX6, "placeOf", "(II)I"⟩
abbrev cX6_shapeOf : ByteArray := prog_8_method_29_code
def yX6_shapeOf : MethodName := ⟨RX6, "shapeOf", "(II)I"⟩
abbrev cX6_heightBy : ByteArray := prog_8_method_30_code
def yX6_heightBy : MethodName := ⟨RX6, "heightBy", "(II)J"⟩
abbrev cX6_sumAt : ByteArray := prog_8_method_31_code
def yX6_sumAt : MethodName := ⟨RX6, "sumAt", "(I)J"⟩
abbrev cX6_isTick : ByteArray := prog_8_method_32_code
def yX6_isTick : MethodName := ⟨RX6, "isTick", "(I)Z"⟩
abbrev cX6_turn : ByteArray := prog_8_method_33_code
def yX6_turn : MethodName := ⟨RX6, "turn", "(I)I"⟩
abbrev cX6_height : ByteArray := prog_8_method_34_code
def yX6_height : MethodName := ⟨RX6, "height", "()J"⟩
abbrev cX6_heightAt : ByteArray := prog_8_method_35_code
def yX6_heightAt : MethodName := ⟨RX6, "heightAt", "(I)J"⟩
abbrev cX6_heightOf : ByteArray := prog_8_method_36_code
def yX6_heightOf : MethodName := ⟨RX6, "heightOf", "(II)J"⟩
abbrev cX6_place : ByteArray := prog_8_method_37_code
def yX6_place : MethodName := ⟨RX6, "place", "(II)I"⟩
abbrev cX6_looks : ByteArray := prog_8_method_38_code
def yX6_looks : MethodName := ⟨RX6, "looks", "(IIII)V"⟩
abbrev cX6_areWaters : ByteArray := prog_8_method_39_code
def yX6_areWaters : MethodName := ⟨RX6, "areWaters", "(III)Z"⟩
abbrev cX6_waters : ByteArray := prog_8_method_40_code
def yX6_waters : MethodName := ⟨RX6, "waters", "(III)I"⟩
abbrev cX6_water : ByteArray := prog_8_method_41_code
def yX6_water : MethodName := ⟨RX6, "water", "(IIII)I"⟩
abbrev cX6_isSheet : ByteArray := prog_8_method_42_code
def yX6_isSheet : MethodName := ⟨RX6, "isSheet", "(I)Z"⟩
abbrev cX6_itemOf : ByteArray := prog_8_method_43_code
def yX6_itemOf : MethodName := ⟨RX6, "itemOf", "(II)J"⟩
abbrev cX6_firstOther : ByteArray := prog_8_method_44_code
def yX6_firstOther : MethodName := ⟨RX6, "firstOther", "(II)I"⟩
abbrev cX6_wrongBy : ByteArray := prog_8_method_45_code
def yX6_wrongBy : MethodName := ⟨RX6, "wrongBy", "(IIII)I"⟩
abbrev cX6_tells : ByteArray := prog_8_method_46_code
def yX6_tells : MethodName := ⟨RX6, "tells", "(III)I"⟩
abbrev cX6_areHighs : ByteArray := prog_8_method_47_code
def yX6_areHighs : MethodName := ⟨RX6, "areHighs", "(IIII)Z"⟩
abbrev cX6_refound : ByteArray := prog_8_method_48_code
def yX6_refound : MethodName := ⟨RX6, "refound", "(IIIII)I"⟩
abbrev cX6_film : ByteArray := prog_8_method_49_code
def yX6_film : MethodName := ⟨RX6, "film", "(III)I"⟩
abbrev cX6_nearest : ByteArray := prog_8_method_50_code
def yX6_nearest : MethodName := ⟨RX6, "nearest", "(II)I"⟩
abbrev cX6_off : ByteArray := prog_8_method_51_code
def yX6_off : MethodName := ⟨RX6, "off", "(IIII)J"⟩
abbrev cX6_areAlike : ByteArray := prog_8_method_52_code
def yX6_areAlike : MethodName := ⟨RX6, "areAlike", "(II)Z"⟩
abbrev cX6_alike : ByteArray := prog_8_method_53_code
def yX6_alike : MethodName := ⟨RX6, "alike", "(I)I"⟩
abbrev cX6_byLot : ByteArray := prog_8_method_54_code
def yX6_byLot : MethodName := ⟨RX6, "byLot", "(II)J"⟩
abbrev cX6_drawn : ByteArray := prog_8_method_55_code
def yX6_drawn : MethodName := ⟨RX6, "drawn", "(II)J"⟩
abbrev cX6_chance : ByteArray := prog_8_method_56_code
def yX6_chance : MethodName := ⟨RX6, "chance", "(IIIII)I"⟩
abbrev cX6_isByte : ByteArray := prog_8_method_57_code
def yX6_isByte : MethodName := ⟨RX6, "isByte", "(I)Z"⟩
abbrev cX6_feed : ByteArray := prog_8_method_58_code
def yX6_feed : MethodName := ⟨RX6, "feed", "(IIIIII)I"⟩
abbrev cX6_byteAt : ByteArray := prog_8_method_59_code
def yX6_byteAt : MethodName := ⟨RX6, "byteAt", "(I)I"⟩
abbrev cX6_isLetter : ByteArray := prog_8_method_60_code
def yX6_isLetter : MethodName := ⟨RX6, "isLetter", "(I)Z"⟩
abbrev cX6_isDigit : ByteArray := prog_8_method_61_code
def yX6_isDigit : MethodName := ⟨RX6, "isDigit", "(I)Z"⟩
abbrev cX6_skips : ByteArray := prog_8_method_62_code
def yX6_skips : MethodName := ⟨RX6, "skips", "()V"⟩
abbrev cX6_wordHere : ByteArray := prog_8_method_63_code
def yX6_wordHere : MethodName := ⟨RX6, "wordHere", "()I"⟩
abbrev cX6_manyOf : ByteArray := prog_8_method_64_code
def yX6_manyOf : MethodName := ⟨RX6, "manyOf", "(I)I"⟩
abbrev cX6_numberHere : ByteArray := prog_8_method_65_code
def yX6_numberHere : MethodName := ⟨RX6, "numberHere", "()I"⟩
abbrev cX6_clause : ByteArray := prog_8_method_66_code
def yX6_clause : MethodName := ⟨RX6, "clause", "()I"⟩
abbrev cX6_isDone : ByteArray := prog_8_method_67_code
def yX6_isDone : MethodName := ⟨RX6, "isDone", "(I)Z"⟩
abbrev cX6_goes : ByteArray := prog_8_method_68_code
def yX6_goes : MethodName := ⟨RX6, "goes", "(Z)I"⟩
abbrev cX6_text : ByteArray := prog_8_method_69_code
def yX6_text : MethodName := ⟨RX6, "text", "()I"⟩
abbrev cX6_image : ByteArray := prog_8_method_70_code
def yX6_image : MethodName := ⟨RX6, "image", "()I"⟩
abbrev cX6_back : ByteArray := prog_8_method_71_code
def yX6_back : MethodName := ⟨RX6, "back", "()I"⟩
abbrev cX6_load : ByteArray := prog_8_method_72_code
def yX6_load : MethodName := ⟨RX6, "load", "(IIII)I"⟩
abbrev cX6_pairsOfAll : ByteArray := prog_8_method_73_code
def yX6_pairsOfAll : MethodName := ⟨RX6, "pairsOfAll", "()I"⟩
abbrev cX6_jammed : ByteArray := prog_8_method_74_code
def yX6_jammed : MethodName := ⟨RX6, "jammed", "()I"⟩
abbrev cX6_count : ByteArray := prog_8_method_75_code
def yX6_count : MethodName := ⟨RX6, "count", "(I)I"⟩
abbrev cX6_sheet : ByteArray := prog_8_method_76_code
def yX6_sheet : MethodName := ⟨RX6, "sheet", "(III)I"⟩
abbrev cX6_put : ByteArray := prog_8_method_77_code
def yX6_put : MethodName := ⟨RX6, "put", "(IIJ)I"⟩
abbrev cX6_item : ByteArray := prog_8_method_78_code
def yX6_item : MethodName := ⟨RX6, "item", "(II)J"⟩
abbrev cX6_copy : ByteArray := prog_8_method_79_code
def yX6_copy : MethodName := ⟨RX6, "copy", "(IIIII)I"⟩
def RJ13 : String := "java/lang/Long"
def TJ13 : u_T := fun k => match k with
  | _ => ("", "", "", false)
def tyJ13 : Nat → FieldType := fun k => match k with
  | _ => .int
abbrev wsJ130 : List Cond := u_ws RJ13 TJ13 0
theorem nmJ13 : ∀ a, a < 0 → ∀ b, b < 0 → a ≠ b → (TJ13 a).2.1 ≠ (TJ13 b).2.1 := by decide +kernel
theorem tyJ13_ok : ∀ k, k < 0 → parseFieldDescriptor (TJ13 k).2.2.1 = some (tyJ13 k) := by decide +kernel
abbrev cJ13_compare_74951 : ByteArray := prog_9_method_42_code
def yJ13_compare_74951 : MethodName := ⟨RJ13, "compare", "(JJ)I"⟩
def RJ9 : String := "java/lang/Math"
def TJ9 : u_T := fun k => match k with
  | _ => ("", "", "", false)
def tyJ9 : Nat → FieldType := fun k => match k with
  | _ => .int
abbrev wsJ90 : List Cond := u_ws RJ9 TJ9 0
theorem nmJ9 : ∀ a, a < 0 → ∀ b, b < 0 → a ≠ b → (TJ9 a).2.1 ≠ (TJ9 b).2.1 := by decide +kernel
theorem tyJ9_ok : ∀ k, k < 0 → parseFieldDescriptor (TJ9 k).2.2.1 = some (tyJ9 k) := by decide +kernel
abbrev cJ9_abs_067f4 : ByteArray := prog_10_method_61_code
def yJ9_abs_067f4 : MethodName := ⟨RJ9, "abs", "(J)J"⟩
abbrev cJ9_max_7cf53 : ByteArray := prog_10_method_65_code
def yJ9_max_7cf53 : MethodName := ⟨RJ9, "max", "(II)I"⟩
abbrev cJ9_min_7cf53 : ByteArray := prog_10_method_69_code
def yJ9_min_7cf53 : MethodName := ⟨RJ9, "min", "(II)I"⟩
def RJ0 : String := "java/lang/String"
def TJ0 : u_T := fun k => match k with
  | _ => ("", "", "", false)
def tyJ0 : Nat → FieldType := fun k => match k with
  | _ => .int
abbrev wsJ00 : List Cond := u_ws RJ0 TJ0 0
theorem nmJ0 : ∀ a, a < 0 → ∀ b, b < 0 → a ≠ b → (TJ0 a).2.1 ≠ (TJ0 b).2.1 := by decide +kernel
theorem tyJ0_ok : ∀ k, k < 0 → parseFieldDescriptor (TJ0 k).2.2.1 = some (tyJ0 k) := by decide +kernel
abbrev cJ0_length_8abf5 : ByteArray := prog_11_method_54_code
def yJ0_length_8abf5 : MethodName := ⟨RJ0, "length", "()I"⟩
abbrev cJ0_charAt_5068e : ByteArray := prog_11_method_56_code
def yJ0_charAt_5068e : MethodName := ⟨RJ0, "charAt", "(I)C"⟩
abbrev cJ0_coder_7d493 : ByteArray := prog_11_method_152_code
def yJ0_coder_7d493 : MethodName := ⟨RJ0, "coder", "()B"⟩
abbrev cJ0_isLatin1_aae02 : ByteArray := prog_11_method_154_code
def yJ0_isLatin1_aae02 : MethodName := ⟨RJ0, "isLatin1", "()Z"⟩
abbrev cJ0_checkIndex_df160 : ByteArray := prog_11_method_155_code
def yJ0_checkIndex_df160 : MethodName := ⟨RJ0, "checkIndex", "(II)V"⟩
def RJ1 : String := "java/lang/StringLatin1"
def TJ1 : u_T := fun k => match k with
  | _ => ("", "", "", false)
def tyJ1 : Nat → FieldType := fun k => match k with
  | _ => .int
abbrev wsJ10 : List Cond := u_ws RJ1 TJ1 0
theorem nmJ1 : ∀ a, a < 0 → ∀ b, b < 0 → a ≠ b → (TJ1 a).2.1 ≠ (TJ1 b).2.1 := by decide +kernel
theorem tyJ1_ok : ∀ k, k < 0 → parseFieldDescriptor (TJ1 k).2.2.1 = some (tyJ1 k) := by decide +kernel
abbrev cJ1_charAt_3b067 : ByteArray := prog_12_method_2_code
def yJ1_charAt_3b067 : MethodName := ⟨RJ1, "charAt", "([BI)C"⟩
def RJ2 : String := "java/lang/StringUTF16"
def TJ2 : u_T := fun k => match k with
  | _ => ("", "", "", false)
def tyJ2 : Nat → FieldType := fun k => match k with
  | _ => .int
abbrev wsJ20 : List Cond := u_ws RJ2 TJ2 0
theorem nmJ2 : ∀ a, a < 0 → ∀ b, b < 0 → a ≠ b → (TJ2 a).2.1 ≠ (TJ2 b).2.1 := by decide +kernel
theorem tyJ2_ok : ∀ k, k < 0 → parseFieldDescriptor (TJ2 k).2.2.1 = some (tyJ2 k) := by decide +kernel
abbrev cJ2_getChar_3b067 : ByteArray := prog_13_method_5_code
def yJ2_getChar_3b067 : MethodName := ⟨RJ2, "getChar", "([BI)C"⟩
abbrev cJ2_length_9d52b : ByteArray := prog_13_method_6_code
def yJ2_length_9d52b : MethodName := ⟨RJ2, "length", "([B)I"⟩
abbrev cJ2_charAt_3b067 : ByteArray := prog_13_method_83_code
def yJ2_charAt_3b067 : MethodName := ⟨RJ2, "charAt", "([BI)C"⟩
abbrev cJ2_checkIndex_2214a : ByteArray := prog_13_method_91_code
def yJ2_checkIndex_2214a : MethodName := ⟨RJ2, "checkIndex", "(I[B)V"⟩
def RJ10 : String := "java/lang/System"
def TJ10 : u_T := fun k => match k with
  | _ => ("", "", "", false)
def tyJ10 : Nat → FieldType := fun k => match k with
  | _ => .int
abbrev wsJ100 : List Cond := u_ws RJ10 TJ10 0
theorem nmJ10 : ∀ a, a < 0 → ∀ b, b < 0 → a ≠ b → (TJ10 a).2.1 ≠ (TJ10 b).2.1 := by decide +kernel
theorem tyJ10_ok : ∀ k, k < 0 → parseFieldDescriptor (TJ10 k).2.2.1 = some (tyJ10 k) := by decide +kernel
def RJ3 : String := "jdk/internal/util/Preconditions"
def TJ3 : u_T := fun k => match k with
  | _ => ("", "", "", false)
def tyJ3 : Nat → FieldType := fun k => match k with
  | _ => .int
abbrev wsJ30 : List Cond := u_ws RJ3 TJ3 0
theorem nmJ3 : ∀ a, a < 0 → ∀ b, b < 0 → a ≠ b → (TJ3 a).2.1 ≠ (TJ3 b).2.1 := by decide +kernel
theorem tyJ3_ok : ∀ k, k < 0 → parseFieldDescriptor (TJ3 k).2.2.1 = some (tyJ3 k) := by decide +kernel
abbrev cJ3_checkIndex_8e157 : ByteArray := prog_15_method_11_code
def yJ3_checkIndex_8e157 : MethodName := ⟨RJ3, "checkIndex", "(IILjava/util/function/BiFunction;)I"⟩
def RL : String := "TideWheelsLaw"
abbrev cL_law : ByteArray := code
def yL_law : MethodName := ⟨RL, "law", "([I)Z"⟩
theorem dX0_init_0 : decode cX0_init 0 = .ok (.aload_n 0, 1) := by decide +kernel
theorem dX0_init_1 : decode cX0_init 1 = .ok (.invokespecial 1, 3) := by decide +kernel
theorem dX0_init_4 : decode cX0_init 4 = .ok (.aload_n 0, 1) := by decide +kernel
theorem dX0_init_5 : decode cX0_init 5 = .ok (.lconst 0, 1) := by decide +kernel
theorem dX0_init_6 : decode cX0_init 6 = .ok (.putfield 7, 3) := by decide +kernel
theorem dX0_init_9 : decode cX0_init 9 = .ok (.aload_n 0, 1) := by decide +kernel
theorem dX0_init_10 : decode cX0_init 10 = .ok (.iconst 0, 1) := by decide +kernel
theorem dX0_init_11 : decode cX0_init 11 = .ok (.putfield 13, 3) := by decide +kernel
theorem dX0_init_14 : decode cX0_init 14 = .ok (.return_, 1) := by decide +kernel
theorem dX0_start_0 : decode cX0_start 0 = .ok (.aload_n 0, 1) := by decide +kernel
theorem dX0_start_1 : decode cX0_start 1 = .ok (.lload_n 1, 1) := by decide +kernel
theorem dX0_start_2 : decode cX0_start 2 = .ok (.putfield 7, 3) := by decide +kernel
theorem dX0_start_5 : decode cX0_start 5 = .ok (.aload_n 0, 1) := by decide +kernel
theorem dX0_start_6 : decode cX0_start 6 = .ok (.iconst 0, 1) := by decide +kernel
theorem dX0_start_7 : decode cX0_start 7 = .ok (.putfield 13, 3) := by decide +kernel
theorem dX0_start_10 : decode cX0_start 10 = .ok (.return_, 1) := by decide +kernel
theorem dX0_step_0 : decode cX0_step 0 = .ok (.lload_n 1, 1) := by decide +kernel
theorem dX0_step_1 : decode cX0_step 1 = .ok (.aload_n 0, 1) := by decide +kernel
theorem dX0_step_2 : decode cX0_step 2 = .ok (.getfield 7, 3) := by decide +kernel
theorem dX0_step_5 : decode cX0_step 5 = .ok (.lcmp, 1) := by decide +kernel
theorem dX0_step_6 : decode cX0_step 6 = .ok (.ifCond .le 7, 3) := by decide +kernel
theorem dX0_step_9 : decode cX0_step 9 = .ok (.iconst 1, 1) := by decide +kernel
theorem dX0_step_10 : decode cX0_step 10 = .ok (.goto 17, 3) := by decide +kernel
theorem dX0_step_13 : decode cX0_step 13 = .ok (.lload_n 1, 1) := by decide +kernel
theorem dX0_step_14 : decode cX0_step 14 = .ok (.aload_n 0, 1) := by decide +kernel
theorem dX0_step_15 : decode cX0_step 15 = .ok (.getfield 7, 3) := by decide +kernel
theorem dX0_step_18 : decode cX0_step 18 = .ok (.lcmp, 1) := by decide +kernel
theorem dX0_step_19 : decode cX0_step 19 = .ok (.ifCond .ge 7, 3) := by decide +kernel
theorem dX0_step_22 : decode cX0_step 22 = .ok (.iconst (-1), 1) := by decide +kernel
theorem dX0_step_23 : decode cX0_step 23 = .ok (.goto 4, 3) := by decide +kernel
theorem dX0_step_26 : decode cX0_step 26 = .ok (.iconst 0, 1) := by decide +kernel
theorem dX0_step_27 : decode cX0_step 27 = .ok (.istore_n 3, 1) := by decide +kernel
theorem dX0_step_28 : decode cX0_step 28 = .ok (.aload_n 0, 1) := by decide +kernel
theorem dX0_step_29 : decode cX0_step 29 = .ok (.lload_n 1, 1) := by decide +kernel
theorem dX0_step_30 : decode cX0_step 30 = .ok (.putfield 7, 3) := by decide +kernel
theorem dX0_step_33 : decode cX0_step 33 = .ok (.iload_n 3, 1) := by decide +kernel
theorem dX0_step_34 : decode cX0_step 34 = .ok (.ifCond .ne 5, 3) := by decide +kernel
theorem dX0_step_37 : decode cX0_step 37 = .ok (.iconst 0, 1) := by decide +kernel
theorem dX0_step_38 : decode cX0_step 38 = .ok (.ireturn, 1) := by decide +kernel
theorem dX0_step_39 : decode cX0_step 39 = .ok (.aload_n 0, 1) := by decide +kernel
theorem dX0_step_40 : decode cX0_step 40 = .ok (.getfield 13, 3) := by decide +kernel
theorem dX0_step_43 : decode cX0_step 43 = .ok (.istore 4, 2) := by decide +kernel
theorem dX0_step_45 : decode cX0_step 45 = .ok (.aload_n 0, 1) := by decide +kernel
theorem dX0_step_46 : decode cX0_step 46 = .ok (.iload_n 3, 1) := by decide +kernel
theorem dX0_step_47 : decode cX0_step 47 = .ok (.putfield 13, 3) := by decide +kernel
theorem dX0_step_50 : decode cX0_step 50 = .ok (.iload 4, 2) := by decide +kernel
theorem dX0_step_52 : decode cX0_step 52 = .ok (.iload_n 3, 1) := by decide +kernel
theorem dX0_step_53 : decode cX0_step 53 = .ok (.if_icmp .ne 7, 3) := by decide +kernel
theorem dX0_step_56 : decode cX0_step 56 = .ok (.iconst 0, 1) := by decide +kernel
theorem dX0_step_57 : decode cX0_step 57 = .ok (.goto 5, 3) := by decide +kernel
theorem dX0_step_60 : decode cX0_step 60 = .ok (.iload 4, 2) := by decide +kernel
theorem dX0_step_62 : decode cX0_step 62 = .ok (.ireturn, 1) := by decide +kernel
theorem dX1_init_0 : decode cX1_init 0 = .ok (.aload_n 0, 1) := by decide +kernel
theorem dX1_init_1 : decode cX1_init 1 = .ok (.invokespecial 3, 3) := by decide +kernel
theorem dX1_init_4 : decode cX1_init 4 = .ok (.aload_n 0, 1) := by decide +kernel
theorem dX1_init_5 : decode cX1_init 5 = .ok (.bipush 40, 2) := by decide +kernel
theorem dX1_init_7 : decode cX1_init 7 = .ok (.newarray .long, 2) := by decide +kernel
theorem dX1_init_9 : decode cX1_init 9 = .ok (.putfield 9, 3) := by decide +kernel
theorem dX1_init_12 : decode cX1_init 12 = .ok (.aload_n 0, 1) := by decide +kernel
theorem dX1_init_13 : decode cX1_init 13 = .ok (.iconst (-1), 1) := by decide +kernel
theorem dX1_init_14 : decode cX1_init 14 = .ok (.putfield 15, 3) := by decide +kernel
theorem dX1_init_17 : decode cX1_init 17 = .ok (.aload_n 0, 1) := by decide +kernel
theorem dX1_init_18 : decode cX1_init 18 = .ok (.iconst 0, 1) := by decide +kernel
theorem dX1_init_19 : decode cX1_init 19 = .ok (.putfield 19, 3) := by decide +kernel
theorem dX1_init_22 : decode cX1_init 22 = .ok (.return_, 1) := by decide +kernel
theorem dX1_isMissing_0 : decode cX1_isMissing 0 = .ok (.aload_n 0, 1) := by decide +kernel
theorem dX1_isMissing_1 : decode cX1_isMissing 1 = .ok (.getfield 15, 3) := by decide +kernel
theorem dX1_isMissing_4 : decode cX1_isMissing 4 = .ok (.iconst (-1), 1) := by decide +kernel
theorem dX1_isMissing_5 : decode cX1_isMissing 5 = .ok (.if_icmp .ne 7, 3) := by decide +kernel
theorem dX1_isMissing_8 : decode cX1_isMissing 8 = .ok (.iconst 1, 1) := by decide +kernel
theorem dX1_isMissing_9 : decode cX1_isMissing 9 = .ok (.goto 4, 3) := by decide +kernel
theorem dX1_isMissing_12 : decode cX1_isMissing 12 = .ok (.iconst 0, 1) := by decide +kernel
theorem dX1_isMissing_13 : decode cX1_isMissing 13 = .ok (.ireturn, 1) := by decide +kernel
theorem dX1_canTell_0 : decode cX1_canTell 0 = .ok (.aload_n 0, 1) := by decide +kernel
theorem dX1_canTell_1 : decode cX1_canTell 1 = .ok (.invokevirtual 22, 3) := by decide +kernel
theorem dX1_canTell_4 : decode cX1_canTell 4 = .ok (.ifCond .ne 16, 3) := by decide +kernel
theorem dX1_canTell_7 : decode cX1_canTell 7 = .ok (.aload_n 0, 1) := by decide +kernel
theorem dX1_canTell_8 : decode cX1_canTell 8 = .ok (.getfield 19, 3) := by decide +kernel
theorem dX1_canTell_11 : decode cX1_canTell 11 = .ok (.bipush 8, 2) := by decide +kernel
theorem dX1_canTell_13 : decode cX1_canTell 13 = .ok (.if_icmp .gt 7, 3) := by decide +kernel
theorem dX1_canTell_16 : decode cX1_canTell 16 = .ok (.iconst 1, 1) := by decide +kernel
theorem dX1_canTell_17 : decode cX1_canTell 17 = .ok (.goto 4, 3) := by decide +kernel
theorem dX1_canTell_20 : decode cX1_canTell 20 = .ok (.iconst 0, 1) := by decide +kernel
theorem dX1_canTell_21 : decode cX1_canTell 21 = .ok (.ireturn, 1) := by decide +kernel
theorem dX1_begin_0 : decode cX1_begin 0 = .ok (.aload_n 0, 1) := by decide +kernel
theorem dX1_begin_1 : decode cX1_begin 1 = .ok (.iload_n 1, 1) := by decide +kernel
theorem dX1_begin_2 : decode cX1_begin 2 = .ok (.putfield 15, 3) := by decide +kernel
theorem dX1_begin_5 : decode cX1_begin 5 = .ok (.aload_n 0, 1) := by decide +kernel
theorem dX1_begin_6 : decode cX1_begin 6 = .ok (.iload_n 2, 1) := by decide +kernel
theorem dX1_begin_7 : decode cX1_begin 7 = .ok (.putfield 19, 3) := by decide +kernel
theorem dX1_begin_10 : decode cX1_begin 10 = .ok (.iconst 0, 1) := by decide +kernel
theorem dX1_begin_11 : decode cX1_begin 11 = .ok (.istore_n 3, 1) := by decide +kernel
theorem dX1_begin_12 : decode cX1_begin 12 = .ok (.iload_n 3, 1) := by decide +kernel
theorem dX1_begin_13 : decode cX1_begin 13 = .ok (.aload_n 0, 1) := by decide +kernel
theorem dX1_begin_14 : decode cX1_begin 14 = .ok (.getfield 9, 3) := by decide +kernel
theorem dX1_begin_17 : decode cX1_begin 17 = .ok (.arraylength, 1) := by decide +kernel
theorem dX1_begin_18 : decode cX1_begin 18 = .ok (.if_icmp .ge 16, 3) := by decide +kernel
theorem dX1_begin_21 : decode cX1_begin 21 = .ok (.aload_n 0, 1) := by decide +kernel
theorem dX1_begin_22 : decode cX1_begin 22 = .ok (.getfield 9, 3) := by decide +kernel
theorem dX1_begin_25 : decode cX1_begin 25 = .ok (.iload_n 3, 1) := by decide +kernel
theorem dX1_begin_26 : decode cX1_begin 26 = .ok (.lconst 0, 1) := by decide +kernel
theorem dX1_begin_27 : decode cX1_begin 27 = .ok (.lastore, 1) := by decide +kernel
theorem dX1_begin_28 : decode cX1_begin 28 = .ok (.iinc 3 1, 3) := by decide +kernel
theorem dX1_begin_31 : decode cX1_begin 31 = .ok (.goto (-19), 3) := by decide +kernel
theorem dX1_begin_34 : decode cX1_begin 34 = .ok (.return_, 1) := by decide +kernel
theorem dX1_holds_0 : decode cX1_holds 0 = .ok (.lload_n 1, 1) := by decide +kernel
theorem dX1_holds_1 : decode cX1_holds 1 = .ok (.lconst 0, 1) := by decide +kernel
theorem dX1_holds_2 : decode cX1_holds 2 = .ok (.lcmp, 1) := by decide +kernel
theorem dX1_holds_3 : decode cX1_holds 3 = .ok (.ifCond .lt 24, 3) := by decide +kernel
theorem dX1_holds_6 : decode cX1_holds 6 = .ok (.iload_n 3, 1) := by decide +kernel
theorem dX1_holds_7 : decode cX1_holds 7 = .ok (.ifCond .lt 20, 3) := by decide +kernel
theorem dX1_holds_10 : decode cX1_holds 10 = .ok (.lload_n 1, 1) := by decide +kernel
theorem dX1_holds_11 : decode cX1_holds 11 = .ok (.iload_n 3, 1) := by decide +kernel
theorem dX1_holds_12 : decode cX1_holds 12 = .ok (.i2l, 1) := by decide +kernel
theorem dX1_holds_13 : decode cX1_holds 13 = .ok (.ladd, 1) := by decide +kernel
theorem dX1_holds_14 : decode cX1_holds 14 = .ok (.aload_n 0, 1) := by decide +kernel
theorem dX1_holds_15 : decode cX1_holds 15 = .ok (.getfield 19, 3) := by decide +kernel
theorem dX1_holds_18 : decode cX1_holds 18 = .ok (.i2l, 1) := by decide +kernel
theorem dX1_holds_19 : decode cX1_holds 19 = .ok (.lcmp, 1) := by decide +kernel
theorem dX1_holds_20 : decode cX1_holds 20 = .ok (.ifCond .gt 7, 3) := by decide +kernel
theorem dX1_holds_23 : decode cX1_holds 23 = .ok (.iconst 1, 1) := by decide +kernel
theorem dX1_holds_24 : decode cX1_holds 24 = .ok (.goto 4, 3) := by decide +kernel
theorem dX1_holds_27 : decode cX1_holds 27 = .ok (.iconst 0, 1) := by decide +kernel
theorem dX1_holds_28 : decode cX1_holds 28 = .ok (.ireturn, 1) := by decide +kernel
theorem dX1_write_0 : decode cX1_write 0 = .ok (.aload_n 0, 1) := by decide +kernel
theorem dX1_write_1 : decode cX1_write 1 = .ok (.iload_n 1, 1) := by decide +kernel
theorem dX1_write_2 : decode cX1_write 2 = .ok (.i2l, 1) := by decide +kernel
theorem dX1_write_3 : decode cX1_write 3 = .ok (.iconst 1, 1) := by decide +kernel
theorem dX1_write_4 : decode cX1_write 4 = .ok (.invokevirtual 26, 3) := by decide +kernel
theorem dX1_write_7 : decode cX1_write 7 = .ok (.ifCond .eq 24, 3) := by decide +kernel
theorem dX1_write_10 : decode cX1_write 10 = .ok (.aload_n 0, 1) := by decide +kernel
theorem dX1_write_11 : decode cX1_write 11 = .ok (.getfield 9, 3) := by decide +kernel
theorem dX1_write_14 : decode cX1_write 14 = .ok (.iload_n 1, 1) := by decide +kernel
theorem dX1_write_15 : decode cX1_write 15 = .ok (.aload_n 0, 1) := by decide +kernel
theorem dX1_write_16 : decode cX1_write 16 = .ok (.getfield 15, 3) := by decide +kernel
theorem dX1_write_19 : decode cX1_write 19 = .ok (.iconst 1, 1) := by decide +kernel
theorem dX1_write_20 : decode cX1_write 20 = .ok (.if_icmp .ne 9, 3) := by decide +kernel
theorem dX1_write_23 : decode cX1_write 23 = .ok (.lload_n 2, 1) := by decide +kernel
theorem dX1_write_24 : decode cX1_write 24 = .ok (.l2i, 1) := by decide +kernel
theorem dX1_write_25 : decode cX1_write 25 = .ok (.i2l, 1) := by decide +kernel
theorem dX1_write_26 : decode cX1_write 26 = .ok (.goto 4, 3) := by decide +kernel
theorem dX1_write_29 : decode cX1_write 29 = .ok (.lload_n 2, 1) := by decide +kernel
theorem dX1_write_30 : decode cX1_write 30 = .ok (.lastore, 1) := by decide +kernel
theorem dX1_write_31 : decode cX1_write 31 = .ok (.return_, 1) := by decide +kernel
theorem dX2_init_0 : decode cX2_init 0 = .ok (.aload_n 0, 1) := by decide +kernel
theorem dX2_init_1 : decode cX2_init 1 = .ok (.invokespecial 3, 3) := by decide +kernel
theorem dX2_init_4 : decode cX2_init 4 = .ok (.aload_n 0, 1) := by decide +kernel
theorem dX2_init_5 : decode cX2_init 5 = .ok (.bipush 60, 2) := by decide +kernel
theorem dX2_init_7 : decode cX2_init 7 = .ok (.newarray .int, 2) := by decide +kernel
theorem dX2_init_9 : decode cX2_init 9 = .ok (.putfield 9, 3) := by decide +kernel
theorem dX2_init_12 : decode cX2_init 12 = .ok (.aload_n 0, 1) := by decide +kernel
theorem dX2_init_13 : decode cX2_init 13 = .ok (.iconst 0, 1) := by decide +kernel
theorem dX2_init_14 : decode cX2_init 14 = .ok (.putfield 15, 3) := by decide +kernel
theorem dX2_init_17 : decode cX2_init 17 = .ok (.aload_n 0, 1) := by decide +kernel
theorem dX2_init_18 : decode cX2_init 18 = .ok (.iconst 0, 1) := by decide +kernel
theorem dX2_init_19 : decode cX2_init 19 = .ok (.putfield 19, 3) := by decide +kernel
theorem dX2_init_22 : decode cX2_init 22 = .ok (.aload_n 0, 1) := by decide +kernel
theorem dX2_init_23 : decode cX2_init 23 = .ok (.iconst 0, 1) := by decide +kernel
theorem dX2_init_24 : decode cX2_init 24 = .ok (.putfield 22, 3) := by decide +kernel
theorem dX2_init_27 : decode cX2_init 27 = .ok (.aload_n 0, 1) := by decide +kernel
theorem dX2_init_28 : decode cX2_init 28 = .ok (.iconst 0, 1) := by decide +kernel
theorem dX2_init_29 : decode cX2_init 29 = .ok (.putfield 25, 3) := by decide +kernel
theorem dX2_init_32 : decode cX2_init 32 = .ok (.aload_n 0, 1) := by decide +kernel
theorem dX2_init_33 : decode cX2_init 33 = .ok (.bipush 60, 2) := by decide +kernel
theorem dX2_init_35 : decode cX2_init 35 = .ok (.newarray .int, 2) := by decide +kernel
theorem dX2_init_37 : decode cX2_init 37 = .ok (.putfield 28, 3) := by decide +kernel
theorem dX2_init_40 : decode cX2_init 40 = .ok (.aload_n 0, 1) := by decide +kernel
theorem dX2_init_41 : decode cX2_init 41 = .ok (.iconst 0, 1) := by decide +kernel
theorem dX2_init_42 : decode cX2_init 42 = .ok (.putfield 31, 3) := by decide +kernel
theorem dX2_init_45 : decode cX2_init 45 = .ok (.aload_n 0, 1) := by decide +kernel
theorem dX2_init_46 : decode cX2_init 46 = .ok (.iconst 0, 1) := by decide +kernel
theorem dX2_init_47 : decode cX2_init 47 = .ok (.putfield 34, 3) := by decide +kernel
theorem dX2_init_50 : decode cX2_init 50 = .ok (.return_, 1) := by decide +kernel
theorem dX2_addByte_0 : decode cX2_addByte 0 = .ok (.aload_n 0, 1) := by decide +kernel
theorem dX2_addByte_1 : decode cX2_addByte 1 = .ok (.getfield 15, 3) := by decide +kernel
theorem dX2_addByte_4 : decode cX2_addByte 4 = .ok (.aload_n 0, 1) := by decide +kernel
theorem dX2_addByte_5 : decode cX2_addByte 5 = .ok (.getfield 9, 3) := by decide +kernel
theorem dX2_addByte_8 : decode cX2_addByte 8 = .ok (.arraylength, 1) := by decide +kernel
theorem dX2_addByte_9 : decode cX2_addByte 9 = .ok (.if_icmp .ge 23, 3) := by decide +kernel
theorem dX2_addByte_12 : decode cX2_addByte 12 = .ok (.aload_n 0, 1) := by decide +kernel
theorem dX2_addByte_13 : decode cX2_addByte 13 = .ok (.getfield 9, 3) := by decide +kernel
theorem dX2_addByte_16 : decode cX2_addByte 16 = .ok (.aload_n 0, 1) := by decide +kernel
theorem dX2_addByte_17 : decode cX2_addByte 17 = .ok (.getfield 15, 3) := by decide +kernel
theorem dX2_addByte_20 : decode cX2_addByte 20 = .ok (.iload_n 1, 1) := by decide +kernel
theorem dX2_addByte_21 : decode cX2_addByte 21 = .ok (.iastore, 1) := by decide +kernel
theorem dX2_addByte_22 : decode cX2_addByte 22 = .ok (.aload_n 0, 1) := by decide +kernel
theorem dX2_addByte_23 : decode cX2_addByte 23 = .ok (.dup, 1) := by decide +kernel
theorem dX2_addByte_24 : decode cX2_addByte 24 = .ok (.getfield 15, 3) := by decide +kernel
theorem dX2_addByte_27 : decode cX2_addByte 27 = .ok (.iconst 1, 1) := by decide +kernel
theorem dX2_addByte_28 : decode cX2_addByte 28 = .ok (.iadd, 1) := by decide +kernel
theorem dX2_addByte_29 : decode cX2_addByte 29 = .ok (.putfield 15, 3) := by decide +kernel
theorem dX2_addByte_32 : decode cX2_addByte 32 = .ok (.return_, 1) := by decide +kernel
theorem dX2_byteAt_0 : decode cX2_byteAt 0 = .ok (.iload_n 1, 1) := by decide +kernel
theorem dX2_byteAt_1 : decode cX2_byteAt 1 = .ok (.ifCond .lt 20, 3) := by decide +kernel
theorem dX2_byteAt_4 : decode cX2_byteAt 4 = .ok (.iload_n 1, 1) := by decide +kernel
theorem dX2_byteAt_5 : decode cX2_byteAt 5 = .ok (.aload_n 0, 1) := by decide +kernel
theorem dX2_byteAt_6 : decode cX2_byteAt 6 = .ok (.getfield 15, 3) := by decide +kernel
theorem dX2_byteAt_9 : decode cX2_byteAt 9 = .ok (.if_icmp .ge 12, 3) := by decide +kernel
theorem dX2_byteAt_12 : decode cX2_byteAt 12 = .ok (.aload_n 0, 1) := by decide +kernel
theorem dX2_byteAt_13 : decode cX2_byteAt 13 = .ok (.getfield 9, 3) := by decide +kernel
theorem dX2_byteAt_16 : decode cX2_byteAt 16 = .ok (.iload_n 1, 1) := by decide +kernel
theorem dX2_byteAt_17 : decode cX2_byteAt 17 = .ok (.iaload, 1) := by decide +kernel
theorem dX2_byteAt_18 : decode cX2_byteAt 18 = .ok (.goto 4, 3) := by decide +kernel
theorem dX2_byteAt_21 : decode cX2_byteAt 21 = .ok (.iconst (-1), 1) := by decide +kernel
theorem dX2_byteAt_22 : decode cX2_byteAt 22 = .ok (.ireturn, 1) := by decide +kernel
theorem dX2_sortAt_0 : decode cX2_sortAt 0 = .ok (.aload_n 0, 1) := by decide +kernel
theorem dX2_sortAt_1 : decode cX2_sortAt 1 = .ok (.iload_n 1, 1) := by decide +kernel
theorem dX2_sortAt_2 : decode cX2_sortAt 2 = .ok (.invokevirtual 37, 3) := by decide +kernel
theorem dX2_sortAt_5 : decode cX2_sortAt 5 = .ok (.istore_n 2, 1) := by decide +kernel
theorem dX2_sortAt_6 : decode cX2_sortAt 6 = .ok (.iload_n 2, 1) := by decide +kernel
theorem dX2_sortAt_7 : decode cX2_sortAt 7 = .ok (.iconst (-1), 1) := by decide +kernel
theorem dX2_sortAt_8 : decode cX2_sortAt 8 = .ok (.if_icmp .ne 5, 3) := by decide +kernel
theorem dX2_sortAt_11 : decode cX2_sortAt 11 = .ok (.iconst 0, 1) := by decide +kernel
theorem dX2_sortAt_12 : decode cX2_sortAt 12 = .ok (.ireturn, 1) := by decide +kernel
theorem dX2_sortAt_13 : decode cX2_sortAt 13 = .ok (.iload_n 2, 1) := by decide +kernel
theorem dX2_sortAt_14 : decode cX2_sortAt 14 = .ok (.bipush 32, 2) := by decide +kernel
theorem dX2_sortAt_16 : decode cX2_sortAt 16 = .ok (.if_icmp .eq 9, 3) := by decide +kernel
theorem dX2_sortAt_19 : decode cX2_sortAt 19 = .ok (.iload_n 2, 1) := by decide +kernel
theorem dX2_sortAt_20 : decode cX2_sortAt 20 = .ok (.bipush 10, 2) := by decide +kernel
theorem dX2_sortAt_22 : decode cX2_sortAt 22 = .ok (.if_icmp .ne 5, 3) := by decide +kernel
theorem dX2_sortAt_25 : decode cX2_sortAt 25 = .ok (.iconst 1, 1) := by decide +kernel
theorem dX2_sortAt_26 : decode cX2_sortAt 26 = .ok (.ireturn, 1) := by decide +kernel
theorem dX2_sortAt_27 : decode cX2_sortAt 27 = .ok (.iload_n 2, 1) := by decide +kernel
theorem dX2_sortAt_28 : decode cX2_sortAt 28 = .ok (.bipush 59, 2) := by decide +kernel
theorem dX2_sortAt_30 : decode cX2_sortAt 30 = .ok (.if_icmp .ne 5, 3) := by decide +kernel
theorem dX2_sortAt_33 : decode cX2_sortAt 33 = .ok (.iconst 4, 1) := by decide +kernel
theorem dX2_sortAt_34 : decode cX2_sortAt 34 = .ok (.ireturn, 1) := by decide +kernel
theorem dX2_sortAt_35 : decode cX2_sortAt 35 = .ok (.iload_n 2, 1) := by decide +kernel
theorem dX2_sortAt_36 : decode cX2_sortAt 36 = .ok (.bipush 48, 2) := by decide +kernel
theorem dX2_sortAt_38 : decode cX2_sortAt 38 = .ok (.bipush 57, 2) := by decide +kernel
theorem dX2_sortAt_40 : decode cX2_sortAt 40 = .ok (.invokestatic 41, 3) := by decide +kernel
theorem dX2_sortAt_43 : decode cX2_sortAt 43 = .ok (.ifCond .eq 5, 3) := by decide +kernel
theorem dX2_sortAt_46 : decode cX2_sortAt 46 = .ok (.iconst 3, 1) := by decide +kernel
theorem dX2_sortAt_47 : decode cX2_sortAt 47 = .ok (.ireturn, 1) := by decide +kernel
theorem dX2_sortAt_48 : decode cX2_sortAt 48 = .ok (.iload_n 2, 1) := by decide +kernel
theorem dX2_sortAt_49 : decode cX2_sortAt 49 = .ok (.bipush 97, 2) := by decide +kernel
theorem dX2_sortAt_51 : decode cX2_sortAt 51 = .ok (.bipush 122, 2) := by decide +kernel
theorem dX2_sortAt_53 : decode cX2_sortAt 53 = .ok (.invokestatic 41, 3) := by decide +kernel
theorem dX2_sortAt_56 : decode cX2_sortAt 56 = .ok (.ifCond .eq 7, 3) := by decide +kernel
theorem dX2_sortAt_59 : decode cX2_sortAt 59 = .ok (.iconst 2, 1) := by decide +kernel
theorem dX2_sortAt_60 : decode cX2_sortAt 60 = .ok (.goto 4, 3) := by decide +kernel
theorem dX2_sortAt_63 : decode cX2_sortAt 63 = .ok (.iconst 5, 1) := by decide +kernel
theorem dX2_sortAt_64 : decode cX2_sortAt 64 = .ok (.ireturn, 1) := by decide +kernel
theorem dX2_behind_0 : decode cX2_behind 0 = .ok (.iload_n 1, 1) := by decide +kernel
theorem dX2_behind_1 : decode cX2_behind 1 = .ok (.istore_n 3, 1) := by decide +kernel
theorem dX2_behind_2 : decode cX2_behind 2 = .ok (.iload_n 3, 1) := by decide +kernel
theorem dX2_behind_3 : decode cX2_behind 3 = .ok (.aload_n 0, 1) := by decide +kernel
theorem dX2_behind_4 : decode cX2_behind 4 = .ok (.getfield 15, 3) := by decide +kernel
theorem dX2_behind_7 : decode cX2_behind 7 = .ok (.if_icmp .ge 18, 3) := by decide +kernel
theorem dX2_behind_10 : decode cX2_behind 10 = .ok (.aload_n 0, 1) := by decide +kernel
theorem dX2_behind_11 : decode cX2_behind 11 = .ok (.iload_n 3, 1) := by decide +kernel
theorem dX2_behind_12 : decode cX2_behind 12 = .ok (.invokevirtual 45, 3) := by decide +kernel
theorem dX2_behind_15 : decode cX2_behind 15 = .ok (.iload_n 2, 1) := by decide +kernel
theorem dX2_behind_16 : decode cX2_behind 16 = .ok (.if_icmp .ne 9, 3) := by decide +kernel
theorem dX2_behind_19 : decode cX2_behind 19 = .ok (.iinc 3 1, 3) := by decide +kernel
theorem dX2_behind_22 : decode cX2_behind 22 = .ok (.goto (-20), 3) := by decide +kernel
theorem dX2_behind_25 : decode cX2_behind 25 = .ok (.iload_n 3, 1) := by decide +kernel
theorem dX2_behind_26 : decode cX2_behind 26 = .ok (.ireturn, 1) := by decide +kernel
theorem dX2_next_0 : decode cX2_next 0 = .ok (.aload_n 0, 1) := by decide +kernel
theorem dX2_next_1 : decode cX2_next 1 = .ok (.aload_n 0, 1) := by decide +kernel
theorem dX2_next_2 : decode cX2_next 2 = .ok (.aload_n 0, 1) := by decide +kernel
theorem dX2_next_3 : decode cX2_next 3 = .ok (.getfield 25, 3) := by decide +kernel
theorem dX2_next_6 : decode cX2_next 6 = .ok (.iconst 1, 1) := by decide +kernel
theorem dX2_next_7 : decode cX2_next 7 = .ok (.invokevirtual 48, 3) := by decide +kernel
theorem dX2_next_10 : decode cX2_next 10 = .ok (.putfield 22, 3) := by decide +kernel
theorem dX2_next_13 : decode cX2_next 13 = .ok (.aload_n 0, 1) := by decide +kernel
theorem dX2_next_14 : decode cX2_next 14 = .ok (.aload_n 0, 1) := by decide +kernel
theorem dX2_next_15 : decode cX2_next 15 = .ok (.aload_n 0, 1) := by decide +kernel
theorem dX2_next_16 : decode cX2_next 16 = .ok (.getfield 22, 3) := by decide +kernel
theorem dX2_next_19 : decode cX2_next 19 = .ok (.invokevirtual 45, 3) := by decide +kernel
theorem dX2_next_22 : decode cX2_next 22 = .ok (.putfield 19, 3) := by decide +kernel
theorem dX2_next_25 : decode cX2_next 25 = .ok (.aload_n 0, 1) := by decide +kernel
theorem dX2_next_26 : decode cX2_next 26 = .ok (.aload_n 0, 1) := by decide +kernel
theorem dX2_next_27 : decode cX2_next 27 = .ok (.getfield 19, 3) := by decide +kernel
theorem dX2_next_30 : decode cX2_next 30 = .ok (.iconst 4, 1) := by decide +kernel
theorem dX2_next_31 : decode cX2_next 31 = .ok (.if_icmp .ne 12, 3) := by decide +kernel
theorem dX2_next_34 : decode cX2_next 34 = .ok (.aload_n 0, 1) := by decide +kernel
theorem dX2_next_35 : decode cX2_next 35 = .ok (.getfield 22, 3) := by decide +kernel
theorem dX2_next_38 : decode cX2_next 38 = .ok (.iconst 1, 1) := by decide +kernel
theorem dX2_next_39 : decode cX2_next 39 = .ok (.iadd, 1) := by decide +kernel
theorem dX2_next_40 : decode cX2_next 40 = .ok (.goto 15, 3) := by decide +kernel
theorem dX2_next_43 : decode cX2_next 43 = .ok (.aload_n 0, 1) := by decide +kernel
theorem dX2_next_44 : decode cX2_next 44 = .ok (.aload_n 0, 1) := by decide +kernel
theorem dX2_next_45 : decode cX2_next 45 = .ok (.getfield 22, 3) := by decide +kernel
theorem dX2_next_48 : decode cX2_next 48 = .ok (.aload_n 0, 1) := by decide +kernel
theorem dX2_next_49 : decode cX2_next 49 = .ok (.getfield 19, 3) := by decide +kernel
theorem dX2_next_52 : decode cX2_next 52 = .ok (.invokevirtual 48, 3) := by decide +kernel
theorem dX2_next_55 : decode cX2_next 55 = .ok (.putfield 25, 3) := by decide +kernel
theorem dX2_next_58 : decode cX2_next 58 = .ok (.aload_n 0, 1) := by decide +kernel
theorem dX2_next_59 : decode cX2_next 59 = .ok (.getfield 19, 3) := by decide +kernel
theorem dX2_next_62 : decode cX2_next 62 = .ok (.ireturn, 1) := by decide +kernel
theorem dX2_findFault_0 : decode cX2_findFault 0 = .ok (.aload_n 0, 1) := by decide +kernel
theorem dX2_findFault_1 : decode cX2_findFault 1 = .ok (.iconst 0, 1) := by decide +kernel
theorem dX2_findFault_2 : decode cX2_findFault 2 = .ok (.putfield 25, 3) := by decide +kernel
theorem dX2_findFault_5 : decode cX2_findFault 5 = .ok (.aload_n 0, 1) := by decide +kernel
theorem dX2_findFault_6 : decode cX2_findFault 6 = .ok (.iconst 0, 1) := by decide +kernel
theorem dX2_findFault_7 : decode cX2_findFault 7 = .ok (.putfield 31, 3) := by decide +kernel
theorem dX2_findFault_10 : decode cX2_findFault 10 = .ok (.aload_n 0, 1) := by decide +kernel
theorem dX2_findFault_11 : decode cX2_findFault 11 = .ok (.iconst 0, 1) := by decide +kernel
theorem dX2_findFault_12 : decode cX2_findFault 12 = .ok (.putfield 34, 3) := by decide +kernel
theorem dX2_findFault_15 : decode cX2_findFault 15 = .ok (.aload_n 0, 1) := by decide +kernel
theorem dX2_findFault_16 : decode cX2_findFault 16 = .ok (.invokevirtual 52, 3) := by decide +kernel
theorem dX2_findFault_19 : decode cX2_findFault 19 = .ok (.istore_n 1, 1) := by decide +kernel
theorem dX2_findFault_20 : decode cX2_findFault 20 = .ok (.iconst 0, 1) := by decide +kernel
theorem dX2_findFault_21 : decode cX2_findFault 21 = .ok (.istore_n 2, 1) := by decide +kernel
theorem dX2_findFault_22 : decode cX2_findFault 22 = .ok (.iload_n 2, 1) := by decide +kernel
theorem dX2_findFault_23 : decode cX2_findFault 23 = .ok (.bipush 60, 2) := by decide +kernel
theorem dX2_findFault_25 : decode cX2_findFault 25 = .ok (.if_icmp .ge 26, 3) := by decide +kernel
theorem dX2_findFault_28 : decode cX2_findFault 28 = .ok (.iload_n 1, 1) := by decide +kernel
theorem dX2_findFault_29 : decode cX2_findFault 29 = .ok (.ifCond .eq 22, 3) := by decide +kernel
theorem dX2_findFault_32 : decode cX2_findFault 32 = .ok (.aload_n 0, 1) := by decide +kernel
theorem dX2_findFault_33 : decode cX2_findFault 33 = .ok (.invokevirtual 56, 3) := by decide +kernel
theorem dX2_findFault_36 : decode cX2_findFault 36 = .ok (.iconst 4, 1) := by decide +kernel
theorem dX2_findFault_37 : decode cX2_findFault 37 = .ok (.if_icmp .ne 14, 3) := by decide +kernel
theorem dX2_findFault_40 : decode cX2_findFault 40 = .ok (.aload_n 0, 1) := by decide +kernel
theorem dX2_findFault_41 : decode cX2_findFault 41 = .ok (.invokevirtual 52, 3) := by decide +kernel
theorem dX2_findFault_44 : decode cX2_findFault 44 = .ok (.istore_n 1, 1) := by decide +kernel
theorem dX2_findFault_45 : decode cX2_findFault 45 = .ok (.iinc 2 1, 3) := by decide +kernel
theorem dX2_findFault_48 : decode cX2_findFault 48 = .ok (.goto (-26), 3) := by decide +kernel
theorem dX2_findFault_51 : decode cX2_findFault 51 = .ok (.iload_n 1, 1) := by decide +kernel
theorem dX2_findFault_52 : decode cX2_findFault 52 = .ok (.ifCond .eq 14, 3) := by decide +kernel
theorem dX2_findFault_55 : decode cX2_findFault 55 = .ok (.aload_n 0, 1) := by decide +kernel
theorem dX2_findFault_56 : decode cX2_findFault 56 = .ok (.getfield 19, 3) := by decide +kernel
theorem dX2_findFault_59 : decode cX2_findFault 59 = .ok (.ifCond .ne 7, 3) := by decide +kernel
theorem dX2_findFault_62 : decode cX2_findFault 62 = .ok (.iconst (-1), 1) := by decide +kernel
theorem dX2_findFault_63 : decode cX2_findFault 63 = .ok (.goto 7, 3) := by decide +kernel
theorem dX2_findFault_66 : decode cX2_findFault 66 = .ok (.aload_n 0, 1) := by decide +kernel
theorem dX2_findFault_67 : decode cX2_findFault 67 = .ok (.getfield 22, 3) := by decide +kernel
theorem dX2_findFault_70 : decode cX2_findFault 70 = .ok (.ireturn, 1) := by decide +kernel
theorem dX2_readClause_0 : decode cX2_readClause 0 = .ok (.aload_n 0, 1) := by decide +kernel
theorem dX2_readClause_1 : decode cX2_readClause 1 = .ok (.invokevirtual 56, 3) := by decide +kernel
theorem dX2_readClause_4 : decode cX2_readClause 4 = .ok (.iconst 2, 1) := by decide +kernel
theorem dX2_readClause_5 : decode cX2_readClause 5 = .ok (.if_icmp .eq 5, 3) := by decide +kernel
theorem dX2_readClause_8 : decode cX2_readClause 8 = .ok (.iconst 0, 1) := by decide +kernel
theorem dX2_readClause_9 : decode cX2_readClause 9 = .ok (.ireturn, 1) := by decide +kernel
theorem dX2_readClause_10 : decode cX2_readClause 10 = .ok (.aload_n 0, 1) := by decide +kernel
theorem dX2_readClause_11 : decode cX2_readClause 11 = .ok (.invokevirtual 60, 3) := by decide +kernel
theorem dX2_readClause_14 : decode cX2_readClause 14 = .ok (.istore_n 1, 1) := by decide +kernel
theorem dX2_readClause_15 : decode cX2_readClause 15 = .ok (.iload_n 1, 1) := by decide +kernel
theorem dX2_readClause_16 : decode cX2_readClause 16 = .ok (.iconst (-1), 1) := by decide +kernel
theorem dX2_readClause_17 : decode cX2_readClause 17 = .ok (.if_icmp .ne 5, 3) := by decide +kernel
theorem dX2_readClause_20 : decode cX2_readClause 20 = .ok (.iconst 0, 1) := by decide +kernel
theorem dX2_readClause_21 : decode cX2_readClause 21 = .ok (.ireturn, 1) := by decide +kernel
theorem dX2_readClause_22 : decode cX2_readClause 22 = .ok (.aload_n 0, 1) := by decide +kernel
theorem dX2_readClause_23 : decode cX2_readClause 23 = .ok (.dup, 1) := by decide +kernel
theorem dX2_readClause_24 : decode cX2_readClause 24 = .ok (.getfield 34, 3) := by decide +kernel
theorem dX2_readClause_27 : decode cX2_readClause 27 = .ok (.iconst 1, 1) := by decide +kernel
theorem dX2_readClause_28 : decode cX2_readClause 28 = .ok (.iadd, 1) := by decide +kernel
theorem dX2_readClause_29 : decode cX2_readClause 29 = .ok (.putfield 34, 3) := by decide +kernel
theorem dX2_readClause_32 : decode cX2_readClause 32 = .ok (.aload_n 0, 1) := by decide +kernel
theorem dX2_readClause_33 : decode cX2_readClause 33 = .ok (.iload_n 1, 1) := by decide +kernel
theorem dX2_readClause_34 : decode cX2_readClause 34 = .ok (.invokevirtual 63, 3) := by decide +kernel
theorem dX2_readClause_37 : decode cX2_readClause 37 = .ok (.iconst 0, 1) := by decide +kernel
theorem dX2_readClause_38 : decode cX2_readClause 38 = .ok (.istore_n 2, 1) := by decide +kernel
theorem dX2_readClause_39 : decode cX2_readClause 39 = .ok (.iload_n 2, 1) := by decide +kernel
theorem dX2_readClause_40 : decode cX2_readClause 40 = .ok (.iload_n 1, 1) := by decide +kernel
theorem dX2_readClause_41 : decode cX2_readClause 41 = .ok (.invokestatic 67, 3) := by decide +kernel
theorem dX2_readClause_44 : decode cX2_readClause 44 = .ok (.if_icmp .ge 40, 3) := by decide +kernel
theorem dX2_readClause_47 : decode cX2_readClause 47 = .ok (.aload_n 0, 1) := by decide +kernel
theorem dX2_readClause_48 : decode cX2_readClause 48 = .ok (.invokevirtual 56, 3) := by decide +kernel
theorem dX2_readClause_51 : decode cX2_readClause 51 = .ok (.iconst 3, 1) := by decide +kernel
theorem dX2_readClause_52 : decode cX2_readClause 52 = .ok (.if_icmp .ne 16, 3) := by decide +kernel
theorem dX2_readClause_55 : decode cX2_readClause 55 = .ok (.aload_n 0, 1) := by decide +kernel
theorem dX2_readClause_56 : decode cX2_readClause 56 = .ok (.getfield 25, 3) := by decide +kernel
theorem dX2_readClause_59 : decode cX2_readClause 59 = .ok (.aload_n 0, 1) := by decide +kernel
theorem dX2_readClause_60 : decode cX2_readClause 60 = .ok (.getfield 22, 3) := by decide +kernel
theorem dX2_readClause_63 : decode cX2_readClause 63 = .ok (.isub, 1) := by decide +kernel
theorem dX2_readClause_64 : decode cX2_readClause 64 = .ok (.iconst 4, 1) := by decide +kernel
theorem dX2_readClause_65 : decode cX2_readClause 65 = .ok (.if_icmp .le 5, 3) := by decide +kernel
theorem dX2_readClause_68 : decode cX2_readClause 68 = .ok (.iconst 0, 1) := by decide +kernel
theorem dX2_readClause_69 : decode cX2_readClause 69 = .ok (.ireturn, 1) := by decide +kernel
theorem dX2_readClause_70 : decode cX2_readClause 70 = .ok (.aload_n 0, 1) := by decide +kernel
theorem dX2_readClause_71 : decode cX2_readClause 71 = .ok (.aload_n 0, 1) := by decide +kernel
theorem dX2_readClause_72 : decode cX2_readClause 72 = .ok (.invokevirtual 70, 3) := by decide +kernel
theorem dX2_readClause_75 : decode cX2_readClause 75 = .ok (.invokevirtual 63, 3) := by decide +kernel
theorem dX2_readClause_78 : decode cX2_readClause 78 = .ok (.iinc 2 1, 3) := by decide +kernel
theorem dX2_readClause_81 : decode cX2_readClause 81 = .ok (.goto (-42), 3) := by decide +kernel
theorem dX2_readClause_84 : decode cX2_readClause 84 = .ok (.iconst 1, 1) := by decide +kernel
theorem dX2_readClause_85 : decode cX2_readClause 85 = .ok (.ireturn, 1) := by decide +kernel
theorem dX2_wordRead_0 : decode cX2_wordRead 0 = .ok (.iconst 0, 1) := by decide +kernel
theorem dX2_wordRead_1 : decode cX2_wordRead 1 = .ok (.istore_n 1, 1) := by decide +kernel
theorem dX2_wordRead_2 : decode cX2_wordRead 2 = .ok (.iload_n 1, 1) := by decide +kernel
theorem dX2_wordRead_3 : decode cX2_wordRead 3 = .ok (.iconst 4, 1) := by decide +kernel
theorem dX2_wordRead_4 : decode cX2_wordRead 4 = .ok (.if_icmp .gt 22, 3) := by decide +kernel
theorem dX2_wordRead_7 : decode cX2_wordRead 7 = .ok (.aload_n 0, 1) := by decide +kernel
theorem dX2_wordRead_8 : decode cX2_wordRead 8 = .ok (.iload_n 1, 1) := by decide +kernel
theorem dX2_wordRead_9 : decode cX2_wordRead 9 = .ok (.invokestatic 73, 3) := by decide +kernel
theorem dX2_wordRead_12 : decode cX2_wordRead 12 = .ok (.invokevirtual 77, 3) := by decide +kernel
theorem dX2_wordRead_15 : decode cX2_wordRead 15 = .ok (.ifCond .eq 5, 3) := by decide +kernel
theorem dX2_wordRead_18 : decode cX2_wordRead 18 = .ok (.iload_n 1, 1) := by decide +kernel
theorem dX2_wordRead_19 : decode cX2_wordRead 19 = .ok (.ireturn, 1) := by decide +kernel
theorem dX2_wordRead_20 : decode cX2_wordRead 20 = .ok (.iinc 1 1, 3) := by decide +kernel
theorem dX2_wordRead_23 : decode cX2_wordRead 23 = .ok (.goto (-21), 3) := by decide +kernel
theorem dX2_wordRead_26 : decode cX2_wordRead 26 = .ok (.iconst (-1), 1) := by decide +kernel
theorem dX2_wordRead_27 : decode cX2_wordRead 27 = .ok (.ireturn, 1) := by decide +kernel
theorem dX2_isSpelt_0 : decode cX2_isSpelt 0 = .ok (.aload_n 1, 1) := by decide +kernel
theorem dX2_isSpelt_1 : decode cX2_isSpelt 1 = .ok (.invokevirtual 81, 3) := by decide +kernel
theorem dX2_isSpelt_4 : decode cX2_isSpelt 4 = .ok (.aload_n 0, 1) := by decide +kernel
theorem dX2_isSpelt_5 : decode cX2_isSpelt 5 = .ok (.getfield 25, 3) := by decide +kernel
theorem dX2_isSpelt_8 : decode cX2_isSpelt 8 = .ok (.aload_n 0, 1) := by decide +kernel
theorem dX2_isSpelt_9 : decode cX2_isSpelt 9 = .ok (.getfield 22, 3) := by decide +kernel
theorem dX2_isSpelt_12 : decode cX2_isSpelt 12 = .ok (.isub, 1) := by decide +kernel
theorem dX2_isSpelt_13 : decode cX2_isSpelt 13 = .ok (.if_icmp .eq 5, 3) := by decide +kernel
theorem dX2_isSpelt_16 : decode cX2_isSpelt 16 = .ok (.iconst 0, 1) := by decide +kernel
theorem dX2_isSpelt_17 : decode cX2_isSpelt 17 = .ok (.ireturn, 1) := by decide +kernel
theorem dX2_isSpelt_18 : decode cX2_isSpelt 18 = .ok (.iconst 0, 1) := by decide +kernel
theorem dX2_isSpelt_19 : decode cX2_isSpelt 19 = .ok (.istore_n 2, 1) := by decide +kernel
theorem dX2_isSpelt_20 : decode cX2_isSpelt 20 = .ok (.iload_n 2, 1) := by decide +kernel
theorem dX2_isSpelt_21 : decode cX2_isSpelt 21 = .ok (.aload_n 1, 1) := by decide +kernel
theorem dX2_isSpelt_22 : decode cX2_isSpelt 22 = .ok (.invokevirtual 81, 3) := by decide +kernel
theorem dX2_isSpelt_25 : decode cX2_isSpelt 25 = .ok (.if_icmp .ge 29, 3) := by decide +kernel
theorem dX2_isSpelt_28 : decode cX2_isSpelt 28 = .ok (.aload_n 1, 1) := by decide +kernel
theorem dX2_isSpelt_29 : decode cX2_isSpelt 29 = .ok (.iload_n 2, 1) := by decide +kernel
theorem dX2_isSpelt_30 : decode cX2_isSpelt 30 = .ok (.invokevirtual 86, 3) := by decide +kernel
theorem dX2_isSpelt_33 : decode cX2_isSpelt 33 = .ok (.aload_n 0, 1) := by decide +kernel
theorem dX2_isSpelt_34 : decode cX2_isSpelt 34 = .ok (.aload_n 0, 1) := by decide +kernel
theorem dX2_isSpelt_35 : decode cX2_isSpelt 35 = .ok (.getfield 22, 3) := by decide +kernel
theorem dX2_isSpelt_38 : decode cX2_isSpelt 38 = .ok (.iload_n 2, 1) := by decide +kernel
theorem dX2_isSpelt_39 : decode cX2_isSpelt 39 = .ok (.iadd, 1) := by decide +kernel
theorem dX2_isSpelt_40 : decode cX2_isSpelt 40 = .ok (.invokevirtual 37, 3) := by decide +kernel
theorem dX2_isSpelt_43 : decode cX2_isSpelt 43 = .ok (.if_icmp .eq 5, 3) := by decide +kernel
theorem dX2_isSpelt_46 : decode cX2_isSpelt 46 = .ok (.iconst 0, 1) := by decide +kernel
theorem dX2_isSpelt_47 : decode cX2_isSpelt 47 = .ok (.ireturn, 1) := by decide +kernel
theorem dX2_isSpelt_48 : decode cX2_isSpelt 48 = .ok (.iinc 2 1, 3) := by decide +kernel
theorem dX2_isSpelt_51 : decode cX2_isSpelt 51 = .ok (.goto (-31), 3) := by decide +kernel
theorem dX2_isSpelt_54 : decode cX2_isSpelt 54 = .ok (.iconst 1, 1) := by decide +kernel
theorem dX2_isSpelt_55 : decode cX2_isSpelt 55 = .ok (.ireturn, 1) := by decide +kernel
theorem dX2_numberRead_0 : decode cX2_numberRead 0 = .ok (.iconst 0, 1) := by decide +kernel
theorem dX2_numberRead_1 : decode cX2_numberRead 1 = .ok (.istore_n 1, 1) := by decide +kernel
theorem dX2_numberRead_2 : decode cX2_numberRead 2 = .ok (.aload_n 0, 1) := by decide +kernel
theorem dX2_numberRead_3 : decode cX2_numberRead 3 = .ok (.getfield 22, 3) := by decide +kernel
theorem dX2_numberRead_6 : decode cX2_numberRead 6 = .ok (.istore_n 2, 1) := by decide +kernel
theorem dX2_numberRead_7 : decode cX2_numberRead 7 = .ok (.iload_n 2, 1) := by decide +kernel
theorem dX2_numberRead_8 : decode cX2_numberRead 8 = .ok (.aload_n 0, 1) := by decide +kernel
theorem dX2_numberRead_9 : decode cX2_numberRead 9 = .ok (.getfield 25, 3) := by decide +kernel
theorem dX2_numberRead_12 : decode cX2_numberRead 12 = .ok (.if_icmp .ge 23, 3) := by decide +kernel
theorem dX2_numberRead_15 : decode cX2_numberRead 15 = .ok (.iload_n 1, 1) := by decide +kernel
theorem dX2_numberRead_16 : decode cX2_numberRead 16 = .ok (.bipush 10, 2) := by decide +kernel
theorem dX2_numberRead_18 : decode cX2_numberRead 18 = .ok (.imul, 1) := by decide +kernel
theorem dX2_numberRead_19 : decode cX2_numberRead 19 = .ok (.aload_n 0, 1) := by decide +kernel
theorem dX2_numberRead_20 : decode cX2_numberRead 20 = .ok (.iload_n 2, 1) := by decide +kernel
theorem dX2_numberRead_21 : decode cX2_numberRead 21 = .ok (.invokevirtual 37, 3) := by decide +kernel
theorem dX2_numberRead_24 : decode cX2_numberRead 24 = .ok (.iadd, 1) := by decide +kernel
theorem dX2_numberRead_25 : decode cX2_numberRead 25 = .ok (.bipush 48, 2) := by decide +kernel
theorem dX2_numberRead_27 : decode cX2_numberRead 27 = .ok (.isub, 1) := by decide +kernel
theorem dX2_numberRead_28 : decode cX2_numberRead 28 = .ok (.istore_n 1, 1) := by decide +kernel
theorem dX2_numberRead_29 : decode cX2_numberRead 29 = .ok (.iinc 2 1, 3) := by decide +kernel
theorem dX2_numberRead_32 : decode cX2_numberRead 32 = .ok (.goto (-25), 3) := by decide +kernel
theorem dX2_numberRead_35 : decode cX2_numberRead 35 = .ok (.iload_n 1, 1) := by decide +kernel
theorem dX2_numberRead_36 : decode cX2_numberRead 36 = .ok (.ireturn, 1) := by decide +kernel
theorem dX2_say_0 : decode cX2_say 0 = .ok (.aload_n 0, 1) := by decide +kernel
theorem dX2_say_1 : decode cX2_say 1 = .ok (.getfield 31, 3) := by decide +kernel
theorem dX2_say_4 : decode cX2_say 4 = .ok (.aload_n 0, 1) := by decide +kernel
theorem dX2_say_5 : decode cX2_say 5 = .ok (.getfield 28, 3) := by decide +kernel
theorem dX2_say_8 : decode cX2_say 8 = .ok (.arraylength, 1) := by decide +kernel
theorem dX2_say_9 : decode cX2_say 9 = .ok (.if_icmp .ge 23, 3) := by decide +kernel
theorem dX2_say_12 : decode cX2_say 12 = .ok (.aload_n 0, 1) := by decide +kernel
theorem dX2_say_13 : decode cX2_say 13 = .ok (.getfield 28, 3) := by decide +kernel
theorem dX2_say_16 : decode cX2_say 16 = .ok (.aload_n 0, 1) := by decide +kernel
theorem dX2_say_17 : decode cX2_say 17 = .ok (.getfield 31, 3) := by decide +kernel
theorem dX2_say_20 : decode cX2_say 20 = .ok (.iload_n 1, 1) := by decide +kernel
theorem dX2_say_21 : decode cX2_say 21 = .ok (.iastore, 1) := by decide +kernel
theorem dX2_say_22 : decode cX2_say 22 = .ok (.aload_n 0, 1) := by decide +kernel
theorem dX2_say_23 : decode cX2_say 23 = .ok (.dup, 1) := by decide +kernel
theorem dX2_say_24 : decode cX2_say 24 = .ok (.getfield 31, 3) := by decide +kernel
theorem dX2_say_27 : decode cX2_say 27 = .ok (.iconst 1, 1) := by decide +kernel
theorem dX2_say_28 : decode cX2_say 28 = .ok (.iadd, 1) := by decide +kernel
theorem dX2_say_29 : decode cX2_say 29 = .ok (.putfield 31, 3) := by decide +kernel
theorem dX2_say_32 : decode cX2_say 32 = .ok (.return_, 1) := by decide +kernel
theorem dX2_saidAt_0 : decode cX2_saidAt 0 = .ok (.iload_n 1, 1) := by decide +kernel
theorem dX2_saidAt_1 : decode cX2_saidAt 1 = .ok (.ifCond .lt 20, 3) := by decide +kernel
theorem dX2_saidAt_4 : decode cX2_saidAt 4 = .ok (.iload_n 1, 1) := by decide +kernel
theorem dX2_saidAt_5 : decode cX2_saidAt 5 = .ok (.aload_n 0, 1) := by decide +kernel
theorem dX2_saidAt_6 : decode cX2_saidAt 6 = .ok (.getfield 31, 3) := by decide +kernel
theorem dX2_saidAt_9 : decode cX2_saidAt 9 = .ok (.if_icmp .ge 12, 3) := by decide +kernel
theorem dX2_saidAt_12 : decode cX2_saidAt 12 = .ok (.aload_n 0, 1) := by decide +kernel
theorem dX2_saidAt_13 : decode cX2_saidAt 13 = .ok (.getfield 28, 3) := by decide +kernel
theorem dX2_saidAt_16 : decode cX2_saidAt 16 = .ok (.iload_n 1, 1) := by decide +kernel
theorem dX2_saidAt_17 : decode cX2_saidAt 17 = .ok (.iaload, 1) := by decide +kernel
theorem dX2_saidAt_18 : decode cX2_saidAt 18 = .ok (.goto 4, 3) := by decide +kernel
theorem dX2_saidAt_21 : decode cX2_saidAt 21 = .ok (.iconst 0, 1) := by decide +kernel
theorem dX2_saidAt_22 : decode cX2_saidAt 22 = .ok (.ireturn, 1) := by decide +kernel
theorem dX3_init_0 : decode cX3_init 0 = .ok (.aload_n 0, 1) := by decide +kernel
theorem dX3_init_1 : decode cX3_init 1 = .ok (.invokespecial 3, 3) := by decide +kernel
theorem dX3_init_4 : decode cX3_init 4 = .ok (.aload_n 0, 1) := by decide +kernel
theorem dX3_init_5 : decode cX3_init 5 = .ok (.iconst 4, 1) := by decide +kernel
theorem dX3_init_6 : decode cX3_init 6 = .ok (.newarray .int, 2) := by decide +kernel
theorem dX3_init_8 : decode cX3_init 8 = .ok (.putfield 9, 3) := by decide +kernel
theorem dX3_init_11 : decode cX3_init 11 = .ok (.aload_n 0, 1) := by decide +kernel
theorem dX3_init_12 : decode cX3_init 12 = .ok (.iconst 3, 1) := by decide +kernel
theorem dX3_init_13 : decode cX3_init 13 = .ok (.newarray .int, 2) := by decide +kernel
theorem dX3_init_15 : decode cX3_init 15 = .ok (.putfield 15, 3) := by decide +kernel
theorem dX3_init_18 : decode cX3_init 18 = .ok (.aload_n 0, 1) := by decide +kernel
theorem dX3_init_19 : decode cX3_init 19 = .ok (.iconst 3, 1) := by decide +kernel
theorem dX3_init_20 : decode cX3_init 20 = .ok (.newarray .int, 2) := by decide +kernel
theorem dX3_init_22 : decode cX3_init 22 = .ok (.putfield 18, 3) := by decide +kernel
theorem dX3_init_25 : decode cX3_init 25 = .ok (.aload_n 0, 1) := by decide +kernel
theorem dX3_init_26 : decode cX3_init 26 = .ok (.iconst 0, 1) := by decide +kernel
theorem dX3_init_27 : decode cX3_init 27 = .ok (.putfield 21, 3) := by decide +kernel
theorem dX3_init_30 : decode cX3_init 30 = .ok (.aload_n 0, 1) := by decide +kernel
theorem dX3_init_31 : decode cX3_init 31 = .ok (.lconst 0, 1) := by decide +kernel
theorem dX3_init_32 : decode cX3_init 32 = .ok (.putfield 25, 3) := by decide +kernel
theorem dX3_init_35 : decode cX3_init 35 = .ok (.aload_n 0, 1) := by decide +kernel
theorem dX3_init_36 : decode cX3_init 36 = .ok (.lconst 1, 1) := by decide +kernel
theorem dX3_init_37 : decode cX3_init 37 = .ok (.putfield 29, 3) := by decide +kernel
theorem dX3_init_40 : decode cX3_init 40 = .ok (.return_, 1) := by decide +kernel
theorem dX3_become_0 : decode cX3_become 0 = .ok (.aload_n 1, 1) := by decide +kernel
theorem dX3_become_1 : decode cX3_become 1 = .ok (.getfield 9, 3) := by decide +kernel
theorem dX3_become_4 : decode cX3_become 4 = .ok (.iconst 0, 1) := by decide +kernel
theorem dX3_become_5 : decode cX3_become 5 = .ok (.aload_n 0, 1) := by decide +kernel
theorem dX3_become_6 : decode cX3_become 6 = .ok (.getfield 9, 3) := by decide +kernel
theorem dX3_become_9 : decode cX3_become 9 = .ok (.iconst 0, 1) := by decide +kernel
theorem dX3_become_10 : decode cX3_become 10 = .ok (.iconst 4, 1) := by decide +kernel
theorem dX3_become_11 : decode cX3_become 11 = .ok (.invokestatic 32, 3) := by decide +kernel
theorem dX3_become_14 : decode cX3_become 14 = .ok (.aload_n 1, 1) := by decide +kernel
theorem dX3_become_15 : decode cX3_become 15 = .ok (.getfield 15, 3) := by decide +kernel
theorem dX3_become_18 : decode cX3_become 18 = .ok (.iconst 0, 1) := by decide +kernel
theorem dX3_become_19 : decode cX3_become 19 = .ok (.aload_n 0, 1) := by decide +kernel
theorem dX3_become_20 : decode cX3_become 20 = .ok (.getfield 15, 3) := by decide +kernel
theorem dX3_become_23 : decode cX3_become 23 = .ok (.iconst 0, 1) := by decide +kernel
theorem dX3_become_24 : decode cX3_become 24 = .ok (.iconst 3, 1) := by decide +kernel
theorem dX3_become_25 : decode cX3_become 25 = .ok (.invokestatic 32, 3) := by decide +kernel
theorem dX3_become_28 : decode cX3_become 28 = .ok (.aload_n 1, 1) := by decide +kernel
theorem dX3_become_29 : decode cX3_become 29 = .ok (.getfield 18, 3) := by decide +kernel
theorem dX3_become_32 : decode cX3_become 32 = .ok (.iconst 0, 1) := by decide +kernel
theorem dX3_become_33 : decode cX3_become 33 = .ok (.aload_n 0, 1) := by decide +kernel
theorem dX3_become_34 : decode cX3_become 34 = .ok (.getfield 18, 3) := by decide +kernel
theorem dX3_become_37 : decode cX3_become 37 = .ok (.iconst 0, 1) := by decide +kernel
theorem dX3_become_38 : decode cX3_become 38 = .ok (.iconst 3, 1) := by decide +kernel
theorem dX3_become_39 : decode cX3_become 39 = .ok (.invokestatic 32, 3) := by decide +kernel
theorem dX3_become_42 : decode cX3_become 42 = .ok (.aload_n 0, 1) := by decide +kernel
theorem dX3_become_43 : decode cX3_become 43 = .ok (.aload_n 1, 1) := by decide +kernel
theorem dX3_become_44 : decode cX3_become 44 = .ok (.getfield 21, 3) := by decide +kernel
theorem dX3_become_47 : decode cX3_become 47 = .ok (.putfield 21, 3) := by decide +kernel
theorem dX3_become_50 : decode cX3_become 50 = .ok (.aload_n 0, 1) := by decide +kernel
theorem dX3_become_51 : decode cX3_become 51 = .ok (.aload_n 1, 1) := by decide +kernel
theorem dX3_become_52 : decode cX3_become 52 = .ok (.getfield 25, 3) := by decide +kernel
theorem dX3_become_55 : decode cX3_become 55 = .ok (.putfield 25, 3) := by decide +kernel
theorem dX3_become_58 : decode cX3_become 58 = .ok (.aload_n 0, 1) := by decide +kernel
theorem dX3_become_59 : decode cX3_become 59 = .ok (.aload_n 1, 1) := by decide +kernel
theorem dX3_become_60 : decode cX3_become 60 = .ok (.getfield 29, 3) := by decide +kernel
theorem dX3_become_63 : decode cX3_become 63 = .ok (.putfield 29, 3) := by decide +kernel
theorem dX3_become_66 : decode cX3_become 66 = .ok (.return_, 1) := by decide +kernel
theorem dX3_addPair_0 : decode cX3_addPair 0 = .ok (.aload_n 0, 1) := by decide +kernel
theorem dX3_addPair_1 : decode cX3_addPair 1 = .ok (.getfield 21, 3) := by decide +kernel
theorem dX3_addPair_4 : decode cX3_addPair 4 = .ok (.iconst 3, 1) := by decide +kernel
theorem dX3_addPair_5 : decode cX3_addPair 5 = .ok (.if_icmp .lt 6, 3) := by decide +kernel
theorem dX3_addPair_8 : decode cX3_addPair 8 = .ok (.bipush (-4), 2) := by decide +kernel
theorem dX3_addPair_10 : decode cX3_addPair 10 = .ok (.ireturn, 1) := by decide +kernel
theorem dX3_addPair_11 : decode cX3_addPair 11 = .ok (.aload_n 0, 1) := by decide +kernel
theorem dX3_addPair_12 : decode cX3_addPair 12 = .ok (.getfield 15, 3) := by decide +kernel
theorem dX3_addPair_15 : decode cX3_addPair 15 = .ok (.aload_n 0, 1) := by decide +kernel
theorem dX3_addPair_16 : decode cX3_addPair 16 = .ok (.getfield 21, 3) := by decide +kernel
theorem dX3_addPair_19 : decode cX3_addPair 19 = .ok (.iload_n 1, 1) := by decide +kernel
theorem dX3_addPair_20 : decode cX3_addPair 20 = .ok (.iastore, 1) := by decide +kernel
theorem dX3_addPair_21 : decode cX3_addPair 21 = .ok (.aload_n 0, 1) := by decide +kernel
theorem dX3_addPair_22 : decode cX3_addPair 22 = .ok (.getfield 18, 3) := by decide +kernel
theorem dX3_addPair_25 : decode cX3_addPair 25 = .ok (.aload_n 0, 1) := by decide +kernel
theorem dX3_addPair_26 : decode cX3_addPair 26 = .ok (.getfield 21, 3) := by decide +kernel
theorem dX3_addPair_29 : decode cX3_addPair 29 = .ok (.iload_n 2, 1) := by decide +kernel
theorem dX3_addPair_30 : decode cX3_addPair 30 = .ok (.iastore, 1) := by decide +kernel
theorem dX3_addPair_31 : decode cX3_addPair 31 = .ok (.aload_n 0, 1) := by decide +kernel
theorem dX3_addPair_32 : decode cX3_addPair 32 = .ok (.dup, 1) := by decide +kernel
theorem dX3_addPair_33 : decode cX3_addPair 33 = .ok (.getfield 21, 3) := by decide +kernel
theorem dX3_addPair_36 : decode cX3_addPair 36 = .ok (.iconst 1, 1) := by decide +kernel
theorem dX3_addPair_37 : decode cX3_addPair 37 = .ok (.iadd, 1) := by decide +kernel
theorem dX3_addPair_38 : decode cX3_addPair 38 = .ok (.putfield 21, 3) := by decide +kernel
theorem dX3_addPair_41 : decode cX3_addPair 41 = .ok (.aload_n 0, 1) := by decide +kernel
theorem dX3_addPair_42 : decode cX3_addPair 42 = .ok (.getfield 21, 3) := by decide +kernel
theorem dX3_addPair_45 : decode cX3_addPair 45 = .ok (.ireturn, 1) := by decide +kernel
theorem dX3_toothOf_0 : decode cX3_toothOf 0 = .ok (.iload_n 2, 1) := by decide +kernel
theorem dX3_toothOf_1 : decode cX3_toothOf 1 = .ok (.ifCond .lt 17, 3) := by decide +kernel
theorem dX3_toothOf_4 : decode cX3_toothOf 4 = .ok (.iload_n 2, 1) := by decide +kernel
theorem dX3_toothOf_5 : decode cX3_toothOf 5 = .ok (.aload_n 0, 1) := by decide +kernel
theorem dX3_toothOf_6 : decode cX3_toothOf 6 = .ok (.getfield 21, 3) := by decide +kernel
theorem dX3_toothOf_9 : decode cX3_toothOf 9 = .ok (.if_icmp .ge 9, 3) := by decide +kernel
theorem dX3_toothOf_12 : decode cX3_toothOf 12 = .ok (.aload_n 1, 1) := by decide +kernel
theorem dX3_toothOf_13 : decode cX3_toothOf 13 = .ok (.iload_n 2, 1) := by decide +kernel
theorem dX3_toothOf_14 : decode cX3_toothOf 14 = .ok (.iaload, 1) := by decide +kernel
theorem dX3_toothOf_15 : decode cX3_toothOf 15 = .ok (.goto 4, 3) := by decide +kernel
theorem dX3_toothOf_18 : decode cX3_toothOf 18 = .ok (.iconst (-1), 1) := by decide +kernel
theorem dX3_toothOf_19 : decode cX3_toothOf 19 = .ok (.ireturn, 1) := by decide +kernel
theorem dX3_isA_0 : decode cX3_isA 0 = .ok (.aload_n 0, 1) := by decide +kernel
theorem dX3_isA_1 : decode cX3_isA 1 = .ok (.getfield 9, 3) := by decide +kernel
theorem dX3_isA_4 : decode cX3_isA 4 = .ok (.iconst 0, 1) := by decide +kernel
theorem dX3_isA_5 : decode cX3_isA 5 = .ok (.iaload, 1) := by decide +kernel
theorem dX3_isA_6 : decode cX3_isA 6 = .ok (.istore_n 2, 1) := by decide +kernel
theorem dX3_isA_7 : decode cX3_isA 7 = .ok (.iload_n 1, 1) := by decide +kernel
theorem dX3_isA_8 : decode cX3_isA 8 = .ok (.iload_n 2, 1) := by decide +kernel
theorem dX3_isA_9 : decode cX3_isA 9 = .ok (.if_icmp .eq 16, 3) := by decide +kernel
theorem dX3_isA_12 : decode cX3_isA 12 = .ok (.iload_n 1, 1) := by decide +kernel
theorem dX3_isA_13 : decode cX3_isA 13 = .ok (.getstatic 38, 3) := by decide +kernel
theorem dX3_isA_16 : decode cX3_isA 16 = .ok (.iload_n 2, 1) := by decide +kernel
theorem dX3_isA_17 : decode cX3_isA 17 = .ok (.iaload, 1) := by decide +kernel
theorem dX3_isA_18 : decode cX3_isA 18 = .ok (.if_icmp .eq 7, 3) := by decide +kernel
theorem dX3_isA_21 : decode cX3_isA 21 = .ok (.iload_n 1, 1) := by decide +kernel
theorem dX3_isA_22 : decode cX3_isA 22 = .ok (.ifCond .ne 7, 3) := by decide +kernel
theorem dX3_isA_25 : decode cX3_isA 25 = .ok (.iconst 1, 1) := by decide +kernel
theorem dX3_isA_26 : decode cX3_isA 26 = .ok (.goto 4, 3) := by decide +kernel
theorem dX3_isA_29 : decode cX3_isA 29 = .ok (.iconst 0, 1) := by decide +kernel
theorem dX3_isA_30 : decode cX3_isA 30 = .ok (.ireturn, 1) := by decide +kernel
theorem dX3_jammed_0 : decode cX3_jammed 0 = .ok (.iconst 0, 1) := by decide +kernel
theorem dX3_jammed_1 : decode cX3_jammed 1 = .ok (.istore_n 1, 1) := by decide +kernel
theorem dX3_jammed_2 : decode cX3_jammed 2 = .ok (.iload_n 1, 1) := by decide +kernel
theorem dX3_jammed_3 : decode cX3_jammed 3 = .ok (.aload_n 0, 1) := by decide +kernel
theorem dX3_jammed_4 : decode cX3_jammed 4 = .ok (.getfield 21, 3) := by decide +kernel
theorem dX3_jammed_7 : decode cX3_jammed 7 = .ok (.if_icmp .ge 29, 3) := by decide +kernel
theorem dX3_jammed_10 : decode cX3_jammed 10 = .ok (.aload_n 0, 1) := by decide +kernel
theorem dX3_jammed_11 : decode cX3_jammed 11 = .ok (.getfield 15, 3) := by decide +kernel
theorem dX3_jammed_14 : decode cX3_jammed 14 = .ok (.iload_n 1, 1) := by decide +kernel
theorem dX3_jammed_15 : decode cX3_jammed 15 = .ok (.iaload, 1) := by decide +kernel
theorem dX3_jammed_16 : decode cX3_jammed 16 = .ok (.aload_n 0, 1) := by decide +kernel
theorem dX3_jammed_17 : decode cX3_jammed 17 = .ok (.getfield 18, 3) := by decide +kernel
theorem dX3_jammed_20 : decode cX3_jammed 20 = .ok (.iload_n 1, 1) := by decide +kernel
theorem dX3_jammed_21 : decode cX3_jammed 21 = .ok (.iaload, 1) := by decide +kernel
theorem dX3_jammed_22 : decode cX3_jammed 22 = .ok (.invokestatic 41, 3) := by decide +kernel
theorem dX3_jammed_25 : decode cX3_jammed 25 = .ok (.ifCond .eq 5, 3) := by decide +kernel
theorem dX3_jammed_28 : decode cX3_jammed 28 = .ok (.iload_n 1, 1) := by decide +kernel
theorem dX3_jammed_29 : decode cX3_jammed 29 = .ok (.ireturn, 1) := by decide +kernel
theorem dX3_jammed_30 : decode cX3_jammed 30 = .ok (.iinc 1 1, 3) := by decide +kernel
theorem dX3_jammed_33 : decode cX3_jammed 33 = .ok (.goto (-31), 3) := by decide +kernel
theorem dX3_jammed_36 : decode cX3_jammed 36 = .ok (.iconst (-1), 1) := by decide +kernel
theorem dX3_jammed_37 : decode cX3_jammed 37 = .ok (.ireturn, 1) := by decide +kernel
theorem dX3_tune_0 : decode cX3_tune 0 = .ok (.aload_n 0, 1) := by decide +kernel
theorem dX3_tune_1 : decode cX3_tune 1 = .ok (.invokevirtual 45, 3) := by decide +kernel
theorem dX3_tune_4 : decode cX3_tune 4 = .ok (.iconst (-1), 1) := by decide +kernel
theorem dX3_tune_5 : decode cX3_tune 5 = .ok (.if_icmp .ne 8, 3) := by decide +kernel
theorem dX3_tune_8 : decode cX3_tune 8 = .ok (.iload_n 1, 1) := by decide +kernel
theorem dX3_tune_9 : decode cX3_tune 9 = .ok (.i2l, 1) := by decide +kernel
theorem dX3_tune_10 : decode cX3_tune 10 = .ok (.goto 4, 3) := by decide +kernel
theorem dX3_tune_13 : decode cX3_tune 13 = .ok (.lconst 0, 1) := by decide +kernel
theorem dX3_tune_14 : decode cX3_tune 14 = .ok (.lstore_n 2, 1) := by decide +kernel
theorem dX3_tune_15 : decode cX3_tune 15 = .ok (.lconst 1, 1) := by decide +kernel
theorem dX3_tune_16 : decode cX3_tune 16 = .ok (.lstore 4, 2) := by decide +kernel
theorem dX3_tune_18 : decode cX3_tune 18 = .ok (.iconst 0, 1) := by decide +kernel
theorem dX3_tune_19 : decode cX3_tune 19 = .ok (.istore 6, 2) := by decide +kernel
theorem dX3_tune_21 : decode cX3_tune 21 = .ok (.iload 6, 2) := by decide +kernel
theorem dX3_tune_23 : decode cX3_tune 23 = .ok (.aload_n 0, 1) := by decide +kernel
theorem dX3_tune_24 : decode cX3_tune 24 = .ok (.getfield 21, 3) := by decide +kernel
theorem dX3_tune_27 : decode cX3_tune 27 = .ok (.if_icmp .ge 33, 3) := by decide +kernel
theorem dX3_tune_30 : decode cX3_tune 30 = .ok (.lload_n 2, 1) := by decide +kernel
theorem dX3_tune_31 : decode cX3_tune 31 = .ok (.aload_n 0, 1) := by decide +kernel
theorem dX3_tune_32 : decode cX3_tune 32 = .ok (.getfield 15, 3) := by decide +kernel
theorem dX3_tune_35 : decode cX3_tune 35 = .ok (.iload 6, 2) := by decide +kernel
theorem dX3_tune_37 : decode cX3_tune 37 = .ok (.iaload, 1) := by decide +kernel
theorem dX3_tune_38 : decode cX3_tune 38 = .ok (.i2l, 1) := by decide +kernel
theorem dX3_tune_39 : decode cX3_tune 39 = .ok (.lmul, 1) := by decide +kernel
theorem dX3_tune_40 : decode cX3_tune 40 = .ok (.lstore_n 2, 1) := by decide +kernel
theorem dX3_tune_41 : decode cX3_tune 41 = .ok (.lload 4, 2) := by decide +kernel
theorem dX3_tune_43 : decode cX3_tune 43 = .ok (.aload_n 0, 1) := by decide +kernel
theorem dX3_tune_44 : decode cX3_tune 44 = .ok (.getfield 18, 3) := by decide +kernel
theorem dX3_tune_47 : decode cX3_tune 47 = .ok (.iload 6, 2) := by decide +kernel
theorem dX3_tune_49 : decode cX3_tune 49 = .ok (.iaload, 1) := by decide +kernel
theorem dX3_tune_50 : decode cX3_tune 50 = .ok (.i2l, 1) := by decide +kernel
theorem dX3_tune_51 : decode cX3_tune 51 = .ok (.lmul, 1) := by decide +kernel
theorem dX3_tune_52 : decode cX3_tune 52 = .ok (.lstore 4, 2) := by decide +kernel
theorem dX3_tune_54 : decode cX3_tune 54 = .ok (.iinc 6 1, 3) := by decide +kernel
theorem dX3_tune_57 : decode cX3_tune 57 = .ok (.goto (-36), 3) := by decide +kernel
theorem dX3_tune_60 : decode cX3_tune 60 = .ok (.aload_n 0, 1) := by decide +kernel
theorem dX3_tune_61 : decode cX3_tune 61 = .ok (.lload_n 2, 1) := by decide +kernel
theorem dX3_tune_62 : decode cX3_tune 62 = .ok (.lload 4, 2) := by decide +kernel
theorem dX3_tune_64 : decode cX3_tune 64 = .ok (.iconst 0, 1) := by decide +kernel
theorem dX3_tune_65 : decode cX3_tune 65 = .ok (.invokestatic 49, 3) := by decide +kernel
theorem dX3_tune_68 : decode cX3_tune 68 = .ok (.putfield 25, 3) := by decide +kernel
theorem dX3_tune_71 : decode cX3_tune 71 = .ok (.aload_n 0, 1) := by decide +kernel
theorem dX3_tune_72 : decode cX3_tune 72 = .ok (.lload_n 2, 1) := by decide +kernel
theorem dX3_tune_73 : decode cX3_tune 73 = .ok (.lload 4, 2) := by decide +kernel
theorem dX3_tune_75 : decode cX3_tune 75 = .ok (.iconst 1, 1) := by decide +kernel
theorem dX3_tune_76 : decode cX3_tune 76 = .ok (.invokestatic 49, 3) := by decide +kernel
theorem dX3_tune_79 : decode cX3_tune 79 = .ok (.putfield 29, 3) := by decide +kernel
theorem dX3_tune_82 : decode cX3_tune 82 = .ok (.return_, 1) := by decide +kernel
theorem dX3_isAsFastAs_0 : decode cX3_isAsFastAs 0 = .ok (.aload_n 0, 1) := by decide +kernel
theorem dX3_isAsFastAs_1 : decode cX3_isAsFastAs 1 = .ok (.getfield 25, 3) := by decide +kernel
theorem dX3_isAsFastAs_4 : decode cX3_isAsFastAs 4 = .ok (.aload_n 1, 1) := by decide +kernel
theorem dX3_isAsFastAs_5 : decode cX3_isAsFastAs 5 = .ok (.getfield 25, 3) := by decide +kernel
theorem dX3_isAsFastAs_8 : decode cX3_isAsFastAs 8 = .ok (.lcmp, 1) := by decide +kernel
theorem dX3_isAsFastAs_9 : decode cX3_isAsFastAs 9 = .ok (.ifCond .ne 19, 3) := by decide +kernel
theorem dX3_isAsFastAs_12 : decode cX3_isAsFastAs 12 = .ok (.aload_n 0, 1) := by decide +kernel
theorem dX3_isAsFastAs_13 : decode cX3_isAsFastAs 13 = .ok (.getfield 29, 3) := by decide +kernel
theorem dX3_isAsFastAs_16 : decode cX3_isAsFastAs 16 = .ok (.aload_n 1, 1) := by decide +kernel
theorem dX3_isAsFastAs_17 : decode cX3_isAsFastAs 17 = .ok (.getfield 29, 3) := by decide +kernel
theorem dX3_isAsFastAs_20 : decode cX3_isAsFastAs 20 = .ok (.lcmp, 1) := by decide +kernel
theorem dX3_isAsFastAs_21 : decode cX3_isAsFastAs 21 = .ok (.ifCond .ne 7, 3) := by decide +kernel
theorem dX3_isAsFastAs_24 : decode cX3_isAsFastAs 24 = .ok (.iconst 1, 1) := by decide +kernel
theorem dX3_isAsFastAs_25 : decode cX3_isAsFastAs 25 = .ok (.goto 4, 3) := by decide +kernel
theorem dX3_isAsFastAs_28 : decode cX3_isAsFastAs 28 = .ok (.iconst 0, 1) := by decide +kernel
theorem dX3_isAsFastAs_29 : decode cX3_isAsFastAs 29 = .ok (.ireturn, 1) := by decide +kernel
theorem dX3_wayAt_0 : decode cX3_wayAt 0 = .ok (.aload_n 0, 1) := by decide +kernel
theorem dX3_wayAt_1 : decode cX3_wayAt 1 = .ok (.getfield 9, 3) := by decide +kernel
theorem dX3_wayAt_4 : decode cX3_wayAt 4 = .ok (.iconst 3, 1) := by decide +kernel
theorem dX3_wayAt_5 : decode cX3_wayAt 5 = .ok (.iaload, 1) := by decide +kernel
theorem dX3_wayAt_6 : decode cX3_wayAt 6 = .ok (.i2l, 1) := by decide +kernel
theorem dX3_wayAt_7 : decode cX3_wayAt 7 = .ok (.iload_n 1, 1) := by decide +kernel
theorem dX3_wayAt_8 : decode cX3_wayAt 8 = .ok (.i2l, 1) := by decide +kernel
theorem dX3_wayAt_9 : decode cX3_wayAt 9 = .ok (.aload_n 0, 1) := by decide +kernel
theorem dX3_wayAt_10 : decode cX3_wayAt 10 = .ok (.getfield 25, 3) := by decide +kernel
theorem dX3_wayAt_13 : decode cX3_wayAt 13 = .ok (.lmul, 1) := by decide +kernel
theorem dX3_wayAt_14 : decode cX3_wayAt 14 = .ok (.aload_n 0, 1) := by decide +kernel
theorem dX3_wayAt_15 : decode cX3_wayAt 15 = .ok (.getfield 29, 3) := by decide +kernel
theorem dX3_wayAt_18 : decode cX3_wayAt 18 = .ok (.invokestatic 53, 3) := by decide +kernel
theorem dX3_wayAt_21 : decode cX3_wayAt 21 = .ok (.ladd, 1) := by decide +kernel
theorem dX3_wayAt_22 : decode cX3_wayAt 22 = .ok (.lstore_n 2, 1) := by decide +kernel
theorem dX3_wayAt_23 : decode cX3_wayAt 23 = .ok (.lload_n 2, 1) := by decide +kernel
theorem dX3_wayAt_24 : decode cX3_wayAt 24 = .ok (.aload_n 0, 1) := by decide +kernel
theorem dX3_wayAt_25 : decode cX3_wayAt 25 = .ok (.getfield 9, 3) := by decide +kernel
theorem dX3_wayAt_28 : decode cX3_wayAt 28 = .ok (.iconst 1, 1) := by decide +kernel
theorem dX3_wayAt_29 : decode cX3_wayAt 29 = .ok (.iaload, 1) := by decide +kernel
theorem dX3_wayAt_30 : decode cX3_wayAt 30 = .ok (.iload_n 1, 1) := by decide +kernel
theorem dX3_wayAt_31 : decode cX3_wayAt 31 = .ok (.bipush 100, 2) := by decide +kernel
theorem dX3_wayAt_33 : decode cX3_wayAt 33 = .ok (.idiv, 1) := by decide +kernel
theorem dX3_wayAt_34 : decode cX3_wayAt 34 = .ok (.imul, 1) := by decide +kernel
theorem dX3_wayAt_35 : decode cX3_wayAt 35 = .ok (.i2l, 1) := by decide +kernel
theorem dX3_wayAt_36 : decode cX3_wayAt 36 = .ok (.ladd, 1) := by decide +kernel
theorem dX3_wayAt_37 : decode cX3_wayAt 37 = .ok (.lstore 4, 2) := by decide +kernel
theorem dX3_wayAt_39 : decode cX3_wayAt 39 = .ok (.aload_n 0, 1) := by decide +kernel
theorem dX3_wayAt_40 : decode cX3_wayAt 40 = .ok (.getfield 9, 3) := by decide +kernel
theorem dX3_wayAt_43 : decode cX3_wayAt 43 = .ok (.iconst 0, 1) := by decide +kernel
theorem dX3_wayAt_44 : decode cX3_wayAt 44 = .ok (.iaload, 1) := by decide +kernel
theorem dX3_wayAt_45 : decode cX3_wayAt 45 = .ok (.tableswitch 54 1 5 #[35, 54, 41, 35, 44], 35) := by decide +kernel
theorem dX3_wayAt_80 : decode cX3_wayAt 80 = .ok (.ldc2_w 57, 3) := by decide +kernel
theorem dX3_wayAt_83 : decode cX3_wayAt 83 = .ok (.lload_n 2, 1) := by decide +kernel
theorem dX3_wayAt_84 : decode cX3_wayAt 84 = .ok (.lmul, 1) := by decide +kernel
theorem dX3_wayAt_85 : decode cX3_wayAt 85 = .ok (.lreturn, 1) := by decide +kernel
theorem dX3_wayAt_86 : decode cX3_wayAt 86 = .ok (.lload 4, 2) := by decide +kernel
theorem dX3_wayAt_88 : decode cX3_wayAt 88 = .ok (.lreturn, 1) := by decide +kernel
theorem dX3_wayAt_89 : decode cX3_wayAt 89 = .ok (.lload 4, 2) := by decide +kernel
theorem dX3_wayAt_91 : decode cX3_wayAt 91 = .ok (.lload 4, 2) := by decide +kernel
theorem dX3_wayAt_93 : decode cX3_wayAt 93 = .ok (.ldc2_w 59, 3) := by decide +kernel
theorem dX3_wayAt_96 : decode cX3_wayAt 96 = .ok (.lrem, 1) := by decide +kernel
theorem dX3_wayAt_97 : decode cX3_wayAt 97 = .ok (.lsub, 1) := by decide +kernel
theorem dX3_wayAt_98 : decode cX3_wayAt 98 = .ok (.lreturn, 1) := by decide +kernel
theorem dX3_wayAt_99 : decode cX3_wayAt 99 = .ok (.lload_n 2, 1) := by decide +kernel
theorem dX3_wayAt_100 : decode cX3_wayAt 100 = .ok (.lreturn, 1) := by decide +kernel
theorem dX3_spot_0 : decode cX3_spot 0 = .ok (.aload_n 0, 1) := by decide +kernel
theorem dX3_spot_1 : decode cX3_spot 1 = .ok (.iload_n 1, 1) := by decide +kernel
theorem dX3_spot_2 : decode cX3_spot 2 = .ok (.invokevirtual 61, 3) := by decide +kernel
theorem dX3_spot_5 : decode cX3_spot 5 = .ok (.ldc2_w 65, 3) := by decide +kernel
theorem dX3_spot_8 : decode cX3_spot 8 = .ok (.lrem, 1) := by decide +kernel
theorem dX3_spot_9 : decode cX3_spot 9 = .ok (.l2i, 1) := by decide +kernel
theorem dX3_spot_10 : decode cX3_spot 10 = .ok (.ireturn, 1) := by decide +kernel
theorem dX3_shapeAt_0 : decode cX3_shapeAt 0 = .ok (.iload_n 1, 1) := by decide +kernel
theorem dX3_shapeAt_1 : decode cX3_shapeAt 1 = .ok (.sipush 512, 3) := by decide +kernel
theorem dX3_shapeAt_4 : decode cX3_shapeAt 4 = .ok (.irem, 1) := by decide +kernel
theorem dX3_shapeAt_5 : decode cX3_shapeAt 5 = .ok (.istore_n 2, 1) := by decide +kernel
theorem dX3_shapeAt_6 : decode cX3_shapeAt 6 = .ok (.iload_n 2, 1) := by decide +kernel
theorem dX3_shapeAt_7 : decode cX3_shapeAt 7 = .ok (.sipush 512, 3) := by decide +kernel
theorem dX3_shapeAt_10 : decode cX3_shapeAt 10 = .ok (.iload_n 2, 1) := by decide +kernel
theorem dX3_shapeAt_11 : decode cX3_shapeAt 11 = .ok (.isub, 1) := by decide +kernel
theorem dX3_shapeAt_12 : decode cX3_shapeAt 12 = .ok (.imul, 1) := by decide +kernel
theorem dX3_shapeAt_13 : decode cX3_shapeAt 13 = .ok (.istore_n 3, 1) := by decide +kernel
theorem dX3_shapeAt_14 : decode cX3_shapeAt 14 = .ok (.iload_n 1, 1) := by decide +kernel
theorem dX3_shapeAt_15 : decode cX3_shapeAt 15 = .ok (.sipush 512, 3) := by decide +kernel
theorem dX3_shapeAt_18 : decode cX3_shapeAt 18 = .ok (.if_icmp .ge 7, 3) := by decide +kernel
theorem dX3_shapeAt_21 : decode cX3_shapeAt 21 = .ok (.iload_n 3, 1) := by decide +kernel
theorem dX3_shapeAt_22 : decode cX3_shapeAt 22 = .ok (.goto 5, 3) := by decide +kernel
theorem dX3_shapeAt_25 : decode cX3_shapeAt 25 = .ok (.iload_n 3, 1) := by decide +kernel
theorem dX3_shapeAt_26 : decode cX3_shapeAt 26 = .ok (.ineg, 1) := by decide +kernel
theorem dX3_shapeAt_27 : decode cX3_shapeAt 27 = .ok (.istore 4, 2) := by decide +kernel
theorem dX3_shapeAt_29 : decode cX3_shapeAt 29 = .ok (.aload_n 0, 1) := by decide +kernel
theorem dX3_shapeAt_30 : decode cX3_shapeAt 30 = .ok (.getfield 9, 3) := by decide +kernel
theorem dX3_shapeAt_33 : decode cX3_shapeAt 33 = .ok (.iconst 1, 1) := by decide +kernel
theorem dX3_shapeAt_34 : decode cX3_shapeAt 34 = .ok (.iaload, 1) := by decide +kernel
theorem dX3_shapeAt_35 : decode cX3_shapeAt 35 = .ok (.iconst 1, 1) := by decide +kernel
theorem dX3_shapeAt_36 : decode cX3_shapeAt 36 = .ok (.iadd, 1) := by decide +kernel
theorem dX3_shapeAt_37 : decode cX3_shapeAt 37 = .ok (.sipush 6553, 3) := by decide +kernel
theorem dX3_shapeAt_40 : decode cX3_shapeAt 40 = .ok (.imul, 1) := by decide +kernel
theorem dX3_shapeAt_41 : decode cX3_shapeAt 41 = .ok (.istore 5, 2) := by decide +kernel
theorem dX3_shapeAt_43 : decode cX3_shapeAt 43 = .ok (.aload_n 0, 1) := by decide +kernel
theorem dX3_shapeAt_44 : decode cX3_shapeAt 44 = .ok (.getfield 9, 3) := by decide +kernel
theorem dX3_shapeAt_47 : decode cX3_shapeAt 47 = .ok (.iconst 0, 1) := by decide +kernel
theorem dX3_shapeAt_48 : decode cX3_shapeAt 48 = .ok (.iaload, 1) := by decide +kernel
theorem dX3_shapeAt_49 : decode cX3_shapeAt 49 = .ok (.lookupswitch 46 #[(2, 27), (4, 41)], 27) := by decide +kernel
theorem dX3_shapeAt_76 : decode cX3_shapeAt 76 = .ok (.iload 5, 2) := by decide +kernel
theorem dX3_shapeAt_78 : decode cX3_shapeAt 78 = .ok (.ineg, 1) := by decide +kernel
theorem dX3_shapeAt_79 : decode cX3_shapeAt 79 = .ok (.iload 5, 2) := by decide +kernel
theorem dX3_shapeAt_81 : decode cX3_shapeAt 81 = .ok (.iload 4, 2) := by decide +kernel
theorem dX3_shapeAt_83 : decode cX3_shapeAt 83 = .ok (.invokestatic 67, 3) := by decide +kernel
theorem dX3_shapeAt_86 : decode cX3_shapeAt 86 = .ok (.invokestatic 72, 3) := by decide +kernel
theorem dX3_shapeAt_89 : decode cX3_shapeAt 89 = .ok (.ireturn, 1) := by decide +kernel
theorem dX3_shapeAt_90 : decode cX3_shapeAt 90 = .ok (.iload 4, 2) := by decide +kernel
theorem dX3_shapeAt_92 : decode cX3_shapeAt 92 = .ok (.iconst 2, 1) := by decide +kernel
theorem dX3_shapeAt_93 : decode cX3_shapeAt 93 = .ok (.idiv, 1) := by decide +kernel
theorem dX3_shapeAt_94 : decode cX3_shapeAt 94 = .ok (.ireturn, 1) := by decide +kernel
theorem dX3_shapeAt_95 : decode cX3_shapeAt 95 = .ok (.iload 4, 2) := by decide +kernel
theorem dX3_shapeAt_97 : decode cX3_shapeAt 97 = .ok (.ireturn, 1) := by decide +kernel
theorem dX3_swing_0 : decode cX3_swing 0 = .ok (.aload_n 0, 1) := by decide +kernel
theorem dX3_swing_1 : decode cX3_swing 1 = .ok (.getfield 9, 3) := by decide +kernel
theorem dX3_swing_4 : decode cX3_swing 4 = .ok (.iconst 2, 1) := by decide +kernel
theorem dX3_swing_5 : decode cX3_swing 5 = .ok (.iaload, 1) := by decide +kernel
theorem dX3_swing_6 : decode cX3_swing 6 = .ok (.i2l, 1) := by decide +kernel
theorem dX3_swing_7 : decode cX3_swing 7 = .ok (.aload_n 0, 1) := by decide +kernel
theorem dX3_swing_8 : decode cX3_swing 8 = .ok (.aload_n 0, 1) := by decide +kernel
theorem dX3_swing_9 : decode cX3_swing 9 = .ok (.iload_n 1, 1) := by decide +kernel
theorem dX3_swing_10 : decode cX3_swing 10 = .ok (.invokevirtual 75, 3) := by decide +kernel
theorem dX3_swing_13 : decode cX3_swing 13 = .ok (.invokevirtual 79, 3) := by decide +kernel
theorem dX3_swing_16 : decode cX3_swing 16 = .ok (.i2l, 1) := by decide +kernel
theorem dX3_swing_17 : decode cX3_swing 17 = .ok (.lmul, 1) := by decide +kernel
theorem dX3_swing_18 : decode cX3_swing 18 = .ok (.lreturn, 1) := by decide +kernel
theorem dX4_init_0 : decode cX4_init 0 = .ok (.aload_n 0, 1) := by decide +kernel
theorem dX4_init_1 : decode cX4_init 1 = .ok (.invokespecial 3, 3) := by decide +kernel
theorem dX4_init_4 : decode cX4_init 4 = .ok (.aload_n 0, 1) := by decide +kernel
theorem dX4_init_5 : decode cX4_init 5 = .ok (.bipush 6, 2) := by decide +kernel
theorem dX4_init_7 : decode cX4_init 7 = .ok (.anewarray 9, 3) := by decide +kernel
theorem dX4_init_10 : decode cX4_init 10 = .ok (.putfield 11, 3) := by decide +kernel
theorem dX4_init_13 : decode cX4_init 13 = .ok (.aload_n 0, 1) := by decide +kernel
theorem dX4_init_14 : decode cX4_init 14 = .ok (.iconst 0, 1) := by decide +kernel
theorem dX4_init_15 : decode cX4_init 15 = .ok (.putfield 17, 3) := by decide +kernel
theorem dX4_init_18 : decode cX4_init 18 = .ok (.aload_n 0, 1) := by decide +kernel
theorem dX4_init_19 : decode cX4_init 19 = .ok (.bipush 64, 2) := by decide +kernel
theorem dX4_init_21 : decode cX4_init 21 = .ok (.putfield 21, 3) := by decide +kernel
theorem dX4_init_24 : decode cX4_init 24 = .ok (.aload_n 0, 1) := by decide +kernel
theorem dX4_init_25 : decode cX4_init 25 = .ok (.iconst 0, 1) := by decide +kernel
theorem dX4_init_26 : decode cX4_init 26 = .ok (.putfield 24, 3) := by decide +kernel
theorem dX4_init_29 : decode cX4_init 29 = .ok (.iconst 0, 1) := by decide +kernel
theorem dX4_init_30 : decode cX4_init 30 = .ok (.istore_n 1, 1) := by decide +kernel
theorem dX4_init_31 : decode cX4_init 31 = .ok (.iload_n 1, 1) := by decide +kernel
theorem dX4_init_32 : decode cX4_init 32 = .ok (.bipush 6, 2) := by decide +kernel
theorem dX4_init_34 : decode cX4_init 34 = .ok (.if_icmp .ge 22, 3) := by decide +kernel
theorem dX4_init_37 : decode cX4_init 37 = .ok (.aload_n 0, 1) := by decide +kernel
theorem dX4_init_38 : decode cX4_init 38 = .ok (.getfield 11, 3) := by decide +kernel
theorem dX4_init_41 : decode cX4_init 41 = .ok (.iload_n 1, 1) := by decide +kernel
theorem dX4_init_42 : decode cX4_init 42 = .ok (.new 9, 3) := by decide +kernel
theorem dX4_init_45 : decode cX4_init 45 = .ok (.dup, 1) := by decide +kernel
theorem dX4_init_46 : decode cX4_init 46 = .ok (.invokespecial 27, 3) := by decide +kernel
theorem dX4_init_49 : decode cX4_init 49 = .ok (.aastore, 1) := by decide +kernel
theorem dX4_init_50 : decode cX4_init 50 = .ok (.iinc 1 1, 3) := by decide +kernel
theorem dX4_init_53 : decode cX4_init 53 = .ok (.goto (-22), 3) := by decide +kernel
theorem dX4_init_56 : decode cX4_init 56 = .ok (.return_, 1) := by decide +kernel
theorem dX4_become_0 : decode cX4_become 0 = .ok (.iconst 0, 1) := by decide +kernel
theorem dX4_become_1 : decode cX4_become 1 = .ok (.istore_n 2, 1) := by decide +kernel
theorem dX4_become_2 : decode cX4_become 2 = .ok (.iload_n 2, 1) := by decide +kernel
theorem dX4_become_3 : decode cX4_become 3 = .ok (.bipush 6, 2) := by decide +kernel
theorem dX4_become_5 : decode cX4_become 5 = .ok (.if_icmp .ge 24, 3) := by decide +kernel
theorem dX4_become_8 : decode cX4_become 8 = .ok (.aload_n 0, 1) := by decide +kernel
theorem dX4_become_9 : decode cX4_become 9 = .ok (.getfield 11, 3) := by decide +kernel
theorem dX4_become_12 : decode cX4_become 12 = .ok (.iload_n 2, 1) := by decide +kernel
theorem dX4_become_13 : decode cX4_become 13 = .ok (.aaload, 1) := by decide +kernel
theorem dX4_become_14 : decode cX4_become 14 = .ok (.aload_n 1, 1) := by decide +kernel
theorem dX4_become_15 : decode cX4_become 15 = .ok (.getfield 11, 3) := by decide +kernel
theorem dX4_become_18 : decode cX4_become 18 = .ok (.iload_n 2, 1) := by decide +kernel
theorem dX4_become_19 : decode cX4_become 19 = .ok (.aaload, 1) := by decide +kernel
theorem dX4_become_20 : decode cX4_become 20 = .ok (.invokevirtual 28, 3) := by decide +kernel
theorem dX4_become_23 : decode cX4_become 23 = .ok (.iinc 2 1, 3) := by decide +kernel
theorem dX4_become_26 : decode cX4_become 26 = .ok (.goto (-24), 3) := by decide +kernel
theorem dX4_become_29 : decode cX4_become 29 = .ok (.aload_n 0, 1) := by decide +kernel
theorem dX4_become_30 : decode cX4_become 30 = .ok (.aload_n 1, 1) := by decide +kernel
theorem dX4_become_31 : decode cX4_become 31 = .ok (.getfield 17, 3) := by decide +kernel
theorem dX4_become_34 : decode cX4_become 34 = .ok (.putfield 17, 3) := by decide +kernel
theorem dX4_become_37 : decode cX4_become 37 = .ok (.aload_n 0, 1) := by decide +kernel
theorem dX4_become_38 : decode cX4_become 38 = .ok (.aload_n 1, 1) := by decide +kernel
theorem dX4_become_39 : decode cX4_become 39 = .ok (.getfield 21, 3) := by decide +kernel
theorem dX4_become_42 : decode cX4_become 42 = .ok (.putfield 21, 3) := by decide +kernel
theorem dX4_become_45 : decode cX4_become 45 = .ok (.aload_n 0, 1) := by decide +kernel
theorem dX4_become_46 : decode cX4_become 46 = .ok (.aload_n 1, 1) := by decide +kernel
theorem dX4_become_47 : decode cX4_become 47 = .ok (.getfield 24, 3) := by decide +kernel
theorem dX4_become_50 : decode cX4_become 50 = .ok (.putfield 24, 3) := by decide +kernel
theorem dX4_become_53 : decode cX4_become 53 = .ok (.return_, 1) := by decide +kernel
theorem dX4_wheelOf_0 : decode cX4_wheelOf 0 = .ok (.iload_n 1, 1) := by decide +kernel
theorem dX4_wheelOf_1 : decode cX4_wheelOf 1 = .ok (.ifCond .lt 20, 3) := by decide +kernel
theorem dX4_wheelOf_4 : decode cX4_wheelOf 4 = .ok (.iload_n 1, 1) := by decide +kernel
theorem dX4_wheelOf_5 : decode cX4_wheelOf 5 = .ok (.aload_n 0, 1) := by decide +kernel
theorem dX4_wheelOf_6 : decode cX4_wheelOf 6 = .ok (.getfield 17, 3) := by decide +kernel
theorem dX4_wheelOf_9 : decode cX4_wheelOf 9 = .ok (.if_icmp .ge 12, 3) := by decide +kernel
theorem dX4_wheelOf_12 : decode cX4_wheelOf 12 = .ok (.aload_n 0, 1) := by decide +kernel
theorem dX4_wheelOf_13 : decode cX4_wheelOf 13 = .ok (.getfield 11, 3) := by decide +kernel
theorem dX4_wheelOf_16 : decode cX4_wheelOf 16 = .ok (.iload_n 1, 1) := by decide +kernel
theorem dX4_wheelOf_17 : decode cX4_wheelOf 17 = .ok (.aaload, 1) := by decide +kernel
theorem dX4_wheelOf_18 : decode cX4_wheelOf 18 = .ok (.goto 4, 3) := by decide +kernel
theorem dX4_wheelOf_21 : decode cX4_wheelOf 21 = .ok (.aconst_null, 1) := by decide +kernel
theorem dX4_wheelOf_22 : decode cX4_wheelOf 22 = .ok (.areturn, 1) := by decide +kernel
theorem dX4_addWheel_0 : decode cX4_addWheel 0 = .ok (.aload_n 0, 1) := by decide +kernel
theorem dX4_addWheel_1 : decode cX4_addWheel 1 = .ok (.getfield 17, 3) := by decide +kernel
theorem dX4_addWheel_4 : decode cX4_addWheel 4 = .ok (.bipush 6, 2) := by decide +kernel
theorem dX4_addWheel_6 : decode cX4_addWheel 6 = .ok (.if_icmp .lt 6, 3) := by decide +kernel
theorem dX4_addWheel_9 : decode cX4_addWheel 9 = .ok (.bipush (-4), 2) := by decide +kernel
theorem dX4_addWheel_11 : decode cX4_addWheel 11 = .ok (.ireturn, 1) := by decide +kernel
theorem dX4_addWheel_12 : decode cX4_addWheel 12 = .ok (.aload_n 0, 1) := by decide +kernel
theorem dX4_addWheel_13 : decode cX4_addWheel 13 = .ok (.getfield 11, 3) := by decide +kernel
theorem dX4_addWheel_16 : decode cX4_addWheel 16 = .ok (.aload_n 0, 1) := by decide +kernel
theorem dX4_addWheel_17 : decode cX4_addWheel 17 = .ok (.getfield 17, 3) := by decide +kernel
theorem dX4_addWheel_20 : decode cX4_addWheel 20 = .ok (.aaload, 1) := by decide +kernel
theorem dX4_addWheel_21 : decode cX4_addWheel 21 = .ok (.astore 5, 2) := by decide +kernel
theorem dX4_addWheel_23 : decode cX4_addWheel 23 = .ok (.aload 5, 2) := by decide +kernel
theorem dX4_addWheel_25 : decode cX4_addWheel 25 = .ok (.getfield 32, 3) := by decide +kernel
theorem dX4_addWheel_28 : decode cX4_addWheel 28 = .ok (.iconst 0, 1) := by decide +kernel
theorem dX4_addWheel_29 : decode cX4_addWheel 29 = .ok (.iload_n 1, 1) := by decide +kernel
theorem dX4_addWheel_30 : decode cX4_addWheel 30 = .ok (.iastore, 1) := by decide +kernel
theorem dX4_addWheel_31 : decode cX4_addWheel 31 = .ok (.aload 5, 2) := by decide +kernel
theorem dX4_addWheel_33 : decode cX4_addWheel 33 = .ok (.getfield 32, 3) := by decide +kernel
theorem dX4_addWheel_36 : decode cX4_addWheel 36 = .ok (.iconst 1, 1) := by decide +kernel
theorem dX4_addWheel_37 : decode cX4_addWheel 37 = .ok (.iload_n 2, 1) := by decide +kernel
theorem dX4_addWheel_38 : decode cX4_addWheel 38 = .ok (.iastore, 1) := by decide +kernel
theorem dX4_addWheel_39 : decode cX4_addWheel 39 = .ok (.aload 5, 2) := by decide +kernel
theorem dX4_addWheel_41 : decode cX4_addWheel 41 = .ok (.getfield 32, 3) := by decide +kernel
theorem dX4_addWheel_44 : decode cX4_addWheel 44 = .ok (.iconst 2, 1) := by decide +kernel
theorem dX4_addWheel_45 : decode cX4_addWheel 45 = .ok (.iload_n 3, 1) := by decide +kernel
theorem dX4_addWheel_46 : decode cX4_addWheel 46 = .ok (.iastore, 1) := by decide +kernel
theorem dX4_addWheel_47 : decode cX4_addWheel 47 = .ok (.aload 5, 2) := by decide +kernel
theorem dX4_addWheel_49 : decode cX4_addWheel 49 = .ok (.getfield 32, 3) := by decide +kernel
theorem dX4_addWheel_52 : decode cX4_addWheel 52 = .ok (.iconst 3, 1) := by decide +kernel
theorem dX4_addWheel_53 : decode cX4_addWheel 53 = .ok (.iload 4, 2) := by decide +kernel
theorem dX4_addWheel_55 : decode cX4_addWheel 55 = .ok (.iastore, 1) := by decide +kernel
theorem dX4_addWheel_56 : decode cX4_addWheel 56 = .ok (.aload 5, 2) := by decide +kernel
theorem dX4_addWheel_58 : decode cX4_addWheel 58 = .ok (.iconst 0, 1) := by decide +kernel
theorem dX4_addWheel_59 : decode cX4_addWheel 59 = .ok (.putfield 36, 3) := by decide +kernel
theorem dX4_addWheel_62 : decode cX4_addWheel 62 = .ok (.aload 5, 2) := by decide +kernel
theorem dX4_addWheel_64 : decode cX4_addWheel 64 = .ok (.aload_n 0, 1) := by decide +kernel
theorem dX4_addWheel_65 : decode cX4_addWheel 65 = .ok (.getfield 21, 3) := by decide +kernel
theorem dX4_addWheel_68 : decode cX4_addWheel 68 = .ok (.invokevirtual 39, 3) := by decide +kernel
theorem dX4_addWheel_71 : decode cX4_addWheel 71 = .ok (.aload_n 0, 1) := by decide +kernel
theorem dX4_addWheel_72 : decode cX4_addWheel 72 = .ok (.dup, 1) := by decide +kernel
theorem dX4_addWheel_73 : decode cX4_addWheel 73 = .ok (.getfield 17, 3) := by decide +kernel
theorem dX4_addWheel_76 : decode cX4_addWheel 76 = .ok (.iconst 1, 1) := by decide +kernel
theorem dX4_addWheel_77 : decode cX4_addWheel 77 = .ok (.iadd, 1) := by decide +kernel
theorem dX4_addWheel_78 : decode cX4_addWheel 78 = .ok (.putfield 17, 3) := by decide +kernel
theorem dX4_addWheel_81 : decode cX4_addWheel 81 = .ok (.aload_n 0, 1) := by decide +kernel
theorem dX4_addWheel_82 : decode cX4_addWheel 82 = .ok (.getfield 17, 3) := by decide +kernel
theorem dX4_addWheel_85 : decode cX4_addWheel 85 = .ok (.iconst 1, 1) := by decide +kernel
theorem dX4_addWheel_86 : decode cX4_addWheel 86 = .ok (.isub, 1) := by decide +kernel
theorem dX4_addWheel_87 : decode cX4_addWheel 87 = .ok (.ireturn, 1) := by decide +kernel
theorem dX4_goAt_0 : decode cX4_goAt 0 = .ok (.aload_n 0, 1) := by decide +kernel
theorem dX4_goAt_1 : decode cX4_goAt 1 = .ok (.iload_n 1, 1) := by decide +kernel
theorem dX4_goAt_2 : decode cX4_goAt 2 = .ok (.putfield 21, 3) := by decide +kernel
theorem dX4_goAt_5 : decode cX4_goAt 5 = .ok (.iconst 0, 1) := by decide +kernel
theorem dX4_goAt_6 : decode cX4_goAt 6 = .ok (.istore_n 2, 1) := by decide +kernel
theorem dX4_goAt_7 : decode cX4_goAt 7 = .ok (.iload_n 2, 1) := by decide +kernel
theorem dX4_goAt_8 : decode cX4_goAt 8 = .ok (.aload_n 0, 1) := by decide +kernel
theorem dX4_goAt_9 : decode cX4_goAt 9 = .ok (.getfield 17, 3) := by decide +kernel
theorem dX4_goAt_12 : decode cX4_goAt 12 = .ok (.if_icmp .ge 19, 3) := by decide +kernel
theorem dX4_goAt_15 : decode cX4_goAt 15 = .ok (.aload_n 0, 1) := by decide +kernel
theorem dX4_goAt_16 : decode cX4_goAt 16 = .ok (.getfield 11, 3) := by decide +kernel
theorem dX4_goAt_19 : decode cX4_goAt 19 = .ok (.iload_n 2, 1) := by decide +kernel
theorem dX4_goAt_20 : decode cX4_goAt 20 = .ok (.aaload, 1) := by decide +kernel
theorem dX4_goAt_21 : decode cX4_goAt 21 = .ok (.iload_n 1, 1) := by decide +kernel
theorem dX4_goAt_22 : decode cX4_goAt 22 = .ok (.invokevirtual 39, 3) := by decide +kernel
theorem dX4_goAt_25 : decode cX4_goAt 25 = .ok (.iinc 2 1, 3) := by decide +kernel
theorem dX4_goAt_28 : decode cX4_goAt 28 = .ok (.goto (-21), 3) := by decide +kernel
theorem dX4_goAt_31 : decode cX4_goAt 31 = .ok (.return_, 1) := by decide +kernel
theorem dX4_level_0 : decode cX4_level 0 = .ok (.lconst 0, 1) := by decide +kernel
theorem dX4_level_1 : decode cX4_level 1 = .ok (.lstore_n 2, 1) := by decide +kernel
theorem dX4_level_2 : decode cX4_level 2 = .ok (.iconst 0, 1) := by decide +kernel
theorem dX4_level_3 : decode cX4_level 3 = .ok (.istore 4, 2) := by decide +kernel
theorem dX4_level_5 : decode cX4_level 5 = .ok (.iload 4, 2) := by decide +kernel
theorem dX4_level_7 : decode cX4_level 7 = .ok (.aload_n 0, 1) := by decide +kernel
theorem dX4_level_8 : decode cX4_level 8 = .ok (.getfield 17, 3) := by decide +kernel
theorem dX4_level_11 : decode cX4_level 11 = .ok (.if_icmp .ge 23, 3) := by decide +kernel
theorem dX4_level_14 : decode cX4_level 14 = .ok (.lload_n 2, 1) := by decide +kernel
theorem dX4_level_15 : decode cX4_level 15 = .ok (.aload_n 0, 1) := by decide +kernel
theorem dX4_level_16 : decode cX4_level 16 = .ok (.getfield 11, 3) := by decide +kernel
theorem dX4_level_19 : decode cX4_level 19 = .ok (.iload 4, 2) := by decide +kernel
theorem dX4_level_21 : decode cX4_level 21 = .ok (.aaload, 1) := by decide +kernel
theorem dX4_level_22 : decode cX4_level 22 = .ok (.iload_n 1, 1) := by decide +kernel
theorem dX4_level_23 : decode cX4_level 23 = .ok (.invokevirtual 43, 3) := by decide +kernel
theorem dX4_level_26 : decode cX4_level 26 = .ok (.ladd, 1) := by decide +kernel
theorem dX4_level_27 : decode cX4_level 27 = .ok (.lstore_n 2, 1) := by decide +kernel
theorem dX4_level_28 : decode cX4_level 28 = .ok (.iinc 4 1, 3) := by decide +kernel
theorem dX4_level_31 : decode cX4_level 31 = .ok (.goto (-26), 3) := by decide +kernel
theorem dX4_level_34 : decode cX4_level 34 = .ok (.lload_n 2, 1) := by decide +kernel
theorem dX4_level_35 : decode cX4_level 35 = .ok (.lreturn, 1) := by decide +kernel
theorem dX4_likeOnes_0 : decode cX4_likeOnes 0 = .ok (.iconst 0, 1) := by decide +kernel
theorem dX4_likeOnes_1 : decode cX4_likeOnes 1 = .ok (.istore_n 2, 1) := by decide +kernel
theorem dX4_likeOnes_2 : decode cX4_likeOnes 2 = .ok (.iconst 0, 1) := by decide +kernel
theorem dX4_likeOnes_3 : decode cX4_likeOnes 3 = .ok (.istore_n 3, 1) := by decide +kernel
theorem dX4_likeOnes_4 : decode cX4_likeOnes 4 = .ok (.iload_n 3, 1) := by decide +kernel
theorem dX4_likeOnes_5 : decode cX4_likeOnes 5 = .ok (.aload_n 0, 1) := by decide +kernel
theorem dX4_likeOnes_6 : decode cX4_likeOnes 6 = .ok (.getfield 17, 3) := by decide +kernel
theorem dX4_likeOnes_9 : decode cX4_likeOnes 9 = .ok (.if_icmp .ge 28, 3) := by decide +kernel
theorem dX4_likeOnes_12 : decode cX4_likeOnes 12 = .ok (.aload_n 0, 1) := by decide +kernel
theorem dX4_likeOnes_13 : decode cX4_likeOnes 13 = .ok (.getfield 11, 3) := by decide +kernel
theorem dX4_likeOnes_16 : decode cX4_likeOnes 16 = .ok (.iload_n 3, 1) := by decide +kernel
theorem dX4_likeOnes_17 : decode cX4_likeOnes 17 = .ok (.aaload, 1) := by decide +kernel
theorem dX4_likeOnes_18 : decode cX4_likeOnes 18 = .ok (.aload_n 1, 1) := by decide +kernel
theorem dX4_likeOnes_19 : decode cX4_likeOnes 19 = .ok (.invokevirtual 47, 3) := by decide +kernel
theorem dX4_likeOnes_22 : decode cX4_likeOnes 22 = .ok (.ifCond .eq 9, 3) := by decide +kernel
theorem dX4_likeOnes_25 : decode cX4_likeOnes 25 = .ok (.iload_n 2, 1) := by decide +kernel
theorem dX4_likeOnes_26 : decode cX4_likeOnes 26 = .ok (.iconst 1, 1) := by decide +kernel
theorem dX4_likeOnes_27 : decode cX4_likeOnes 27 = .ok (.iload_n 3, 1) := by decide +kernel
theorem dX4_likeOnes_28 : decode cX4_likeOnes 28 = .ok (.ishl, 1) := by decide +kernel
theorem dX4_likeOnes_29 : decode cX4_likeOnes 29 = .ok (.ior, 1) := by decide +kernel
theorem dX4_likeOnes_30 : decode cX4_likeOnes 30 = .ok (.istore_n 2, 1) := by decide +kernel
theorem dX4_likeOnes_31 : decode cX4_likeOnes 31 = .ok (.iinc 3 1, 3) := by decide +kernel
theorem dX4_likeOnes_34 : decode cX4_likeOnes 34 = .ok (.goto (-30), 3) := by decide +kernel
theorem dX4_likeOnes_37 : decode cX4_likeOnes 37 = .ok (.iload_n 2, 1) := by decide +kernel
theorem dX4_likeOnes_38 : decode cX4_likeOnes 38 = .ok (.ireturn, 1) := by decide +kernel
theorem dX4_groups_0 : decode cX4_groups 0 = .ok (.iconst 0, 1) := by decide +kernel
theorem dX4_groups_1 : decode cX4_groups 1 = .ok (.istore_n 1, 1) := by decide +kernel
theorem dX4_groups_2 : decode cX4_groups 2 = .ok (.iconst 0, 1) := by decide +kernel
theorem dX4_groups_3 : decode cX4_groups 3 = .ok (.istore_n 2, 1) := by decide +kernel
theorem dX4_groups_4 : decode cX4_groups 4 = .ok (.iload_n 2, 1) := by decide +kernel
theorem dX4_groups_5 : decode cX4_groups 5 = .ok (.aload_n 0, 1) := by decide +kernel
theorem dX4_groups_6 : decode cX4_groups 6 = .ok (.getfield 17, 3) := by decide +kernel
theorem dX4_groups_9 : decode cX4_groups 9 = .ok (.if_icmp .ge 31, 3) := by decide +kernel
theorem dX4_groups_12 : decode cX4_groups 12 = .ok (.aload_n 0, 1) := by decide +kernel
theorem dX4_groups_13 : decode cX4_groups 13 = .ok (.aload_n 0, 1) := by decide +kernel
theorem dX4_groups_14 : decode cX4_groups 14 = .ok (.getfield 11, 3) := by decide +kernel
theorem dX4_groups_17 : decode cX4_groups 17 = .ok (.iload_n 2, 1) := by decide +kernel
theorem dX4_groups_18 : decode cX4_groups 18 = .ok (.aaload, 1) := by decide +kernel
theorem dX4_groups_19 : decode cX4_groups 19 = .ok (.invokevirtual 51, 3) := by decide +kernel
theorem dX4_groups_22 : decode cX4_groups 22 = .ok (.iconst 1, 1) := by decide +kernel
theorem dX4_groups_23 : decode cX4_groups 23 = .ok (.iload_n 2, 1) := by decide +kernel
theorem dX4_groups_24 : decode cX4_groups 24 = .ok (.ishl, 1) := by decide +kernel
theorem dX4_groups_25 : decode cX4_groups 25 = .ok (.iconst 1, 1) := by decide +kernel
theorem dX4_groups_26 : decode cX4_groups 26 = .ok (.isub, 1) := by decide +kernel
theorem dX4_groups_27 : decode cX4_groups 27 = .ok (.iand, 1) := by decide +kernel
theorem dX4_groups_28 : decode cX4_groups 28 = .ok (.ifCond .ne 6, 3) := by decide +kernel
theorem dX4_groups_31 : decode cX4_groups 31 = .ok (.iinc 1 1, 3) := by decide +kernel
theorem dX4_groups_34 : decode cX4_groups 34 = .ok (.iinc 2 1, 3) := by decide +kernel
theorem dX4_groups_37 : decode cX4_groups 37 = .ok (.goto (-33), 3) := by decide +kernel
theorem dX4_groups_40 : decode cX4_groups 40 = .ok (.iload_n 1, 1) := by decide +kernel
theorem dX4_groups_41 : decode cX4_groups 41 = .ok (.ireturn, 1) := by decide +kernel
theorem dX4_pairsOfAll_0 : decode cX4_pairsOfAll 0 = .ok (.iconst 0, 1) := by decide +kernel
theorem dX4_pairsOfAll_1 : decode cX4_pairsOfAll 1 = .ok (.istore_n 1, 1) := by decide +kernel
theorem dX4_pairsOfAll_2 : decode cX4_pairsOfAll 2 = .ok (.iconst 0, 1) := by decide +kernel
theorem dX4_pairsOfAll_3 : decode cX4_pairsOfAll 3 = .ok (.istore_n 2, 1) := by decide +kernel
theorem dX4_pairsOfAll_4 : decode cX4_pairsOfAll 4 = .ok (.iload_n 2, 1) := by decide +kernel
theorem dX4_pairsOfAll_5 : decode cX4_pairsOfAll 5 = .ok (.aload_n 0, 1) := by decide +kernel
theorem dX4_pairsOfAll_6 : decode cX4_pairsOfAll 6 = .ok (.getfield 17, 3) := by decide +kernel
theorem dX4_pairsOfAll_9 : decode cX4_pairsOfAll 9 = .ok (.if_icmp .ge 21, 3) := by decide +kernel
theorem dX4_pairsOfAll_12 : decode cX4_pairsOfAll 12 = .ok (.iload_n 1, 1) := by decide +kernel
theorem dX4_pairsOfAll_13 : decode cX4_pairsOfAll 13 = .ok (.aload_n 0, 1) := by decide +kernel
theorem dX4_pairsOfAll_14 : decode cX4_pairsOfAll 14 = .ok (.getfield 11, 3) := by decide +kernel
theorem dX4_pairsOfAll_17 : decode cX4_pairsOfAll 17 = .ok (.iload_n 2, 1) := by decide +kernel
theorem dX4_pairsOfAll_18 : decode cX4_pairsOfAll 18 = .ok (.aaload, 1) := by decide +kernel
theorem dX4_pairsOfAll_19 : decode cX4_pairsOfAll 19 = .ok (.getfield 36, 3) := by decide +kernel
theorem dX4_pairsOfAll_22 : decode cX4_pairsOfAll 22 = .ok (.iadd, 1) := by decide +kernel
theorem dX4_pairsOfAll_23 : decode cX4_pairsOfAll 23 = .ok (.istore_n 1, 1) := by decide +kernel
theorem dX4_pairsOfAll_24 : decode cX4_pairsOfAll 24 = .ok (.iinc 2 1, 3) := by decide +kernel
theorem dX4_pairsOfAll_27 : decode cX4_pairsOfAll 27 = .ok (.goto (-23), 3) := by decide +kernel
theorem dX4_pairsOfAll_30 : decode cX4_pairsOfAll 30 = .ok (.iload_n 1, 1) := by decide +kernel
theorem dX4_pairsOfAll_31 : decode cX4_pairsOfAll 31 = .ok (.ireturn, 1) := by decide +kernel
theorem dX4_jams_0 : decode cX4_jams 0 = .ok (.iconst 0, 1) := by decide +kernel
theorem dX4_jams_1 : decode cX4_jams 1 = .ok (.istore_n 1, 1) := by decide +kernel
theorem dX4_jams_2 : decode cX4_jams 2 = .ok (.iconst 0, 1) := by decide +kernel
theorem dX4_jams_3 : decode cX4_jams 3 = .ok (.istore_n 2, 1) := by decide +kernel
theorem dX4_jams_4 : decode cX4_jams 4 = .ok (.iload_n 2, 1) := by decide +kernel
theorem dX4_jams_5 : decode cX4_jams 5 = .ok (.aload_n 0, 1) := by decide +kernel
theorem dX4_jams_6 : decode cX4_jams 6 = .ok (.getfield 17, 3) := by decide +kernel
theorem dX4_jams_9 : decode cX4_jams 9 = .ok (.if_icmp .ge 25, 3) := by decide +kernel
theorem dX4_jams_12 : decode cX4_jams 12 = .ok (.aload_n 0, 1) := by decide +kernel
theorem dX4_jams_13 : decode cX4_jams 13 = .ok (.getfield 11, 3) := by decide +kernel
theorem dX4_jams_16 : decode cX4_jams 16 = .ok (.iload_n 2, 1) := by decide +kernel
theorem dX4_jams_17 : decode cX4_jams 17 = .ok (.aaload, 1) := by decide +kernel
theorem dX4_jams_18 : decode cX4_jams 18 = .ok (.invokevirtual 55, 3) := by decide +kernel
theorem dX4_jams_21 : decode cX4_jams 21 = .ok (.iconst (-1), 1) := by decide +kernel
theorem dX4_jams_22 : decode cX4_jams 22 = .ok (.if_icmp .eq 6, 3) := by decide +kernel
theorem dX4_jams_25 : decode cX4_jams 25 = .ok (.iinc 1 1, 3) := by decide +kernel
theorem dX4_jams_28 : decode cX4_jams 28 = .ok (.iinc 2 1, 3) := by decide +kernel
theorem dX4_jams_31 : decode cX4_jams 31 = .ok (.goto (-27), 3) := by decide +kernel
theorem dX4_jams_34 : decode cX4_jams 34 = .ok (.iload_n 1, 1) := by decide +kernel
theorem dX4_jams_35 : decode cX4_jams 35 = .ok (.ireturn, 1) := by decide +kernel
theorem dX5_init_0 : decode cX5_init 0 = .ok (.aload_n 0, 1) := by decide +kernel
theorem dX5_init_1 : decode cX5_init 1 = .ok (.invokespecial 3, 3) := by decide +kernel
theorem dX5_init_4 : decode cX5_init 4 = .ok (.aload_n 0, 1) := by decide +kernel
theorem dX5_init_5 : decode cX5_init 5 = .ok (.new 9, 3) := by decide +kernel
theorem dX5_init_8 : decode cX5_init 8 = .ok (.dup, 1) := by decide +kernel
theorem dX5_init_9 : decode cX5_init 9 = .ok (.invokespecial 11, 3) := by decide +kernel
theorem dX5_init_12 : decode cX5_init 12 = .ok (.putfield 12, 3) := by decide +kernel
theorem dX5_init_15 : decode cX5_init 15 = .ok (.aload_n 0, 1) := by decide +kernel
theorem dX5_init_16 : decode cX5_init 16 = .ok (.new 9, 3) := by decide +kernel
theorem dX5_init_19 : decode cX5_init 19 = .ok (.dup, 1) := by decide +kernel
theorem dX5_init_20 : decode cX5_init 20 = .ok (.invokespecial 11, 3) := by decide +kernel
theorem dX5_init_23 : decode cX5_init 23 = .ok (.putfield 18, 3) := by decide +kernel
theorem dX5_init_26 : decode cX5_init 26 = .ok (.aload_n 0, 1) := by decide +kernel
theorem dX5_init_27 : decode cX5_init 27 = .ok (.iconst 0, 1) := by decide +kernel
theorem dX5_init_28 : decode cX5_init 28 = .ok (.putfield 21, 3) := by decide +kernel
theorem dX5_init_31 : decode cX5_init 31 = .ok (.aload_n 0, 1) := by decide +kernel
theorem dX5_init_32 : decode cX5_init 32 = .ok (.iconst 4, 1) := by decide +kernel
theorem dX5_init_33 : decode cX5_init 33 = .ok (.anewarray 25, 3) := by decide +kernel
theorem dX5_init_36 : decode cX5_init 36 = .ok (.putfield 27, 3) := by decide +kernel
theorem dX5_init_39 : decode cX5_init 39 = .ok (.aload_n 0, 1) := by decide +kernel
theorem dX5_init_40 : decode cX5_init 40 = .ok (.new 31, 3) := by decide +kernel
theorem dX5_init_43 : decode cX5_init 43 = .ok (.dup, 1) := by decide +kernel
theorem dX5_init_44 : decode cX5_init 44 = .ok (.invokespecial 33, 3) := by decide +kernel
theorem dX5_init_47 : decode cX5_init 47 = .ok (.putfield 34, 3) := by decide +kernel
theorem dX5_init_50 : decode cX5_init 50 = .ok (.aload_n 0, 1) := by decide +kernel
theorem dX5_init_51 : decode cX5_init 51 = .ok (.new 38, 3) := by decide +kernel
theorem dX5_init_54 : decode cX5_init 54 = .ok (.dup, 1) := by decide +kernel
theorem dX5_init_55 : decode cX5_init 55 = .ok (.invokespecial 40, 3) := by decide +kernel
theorem dX5_init_58 : decode cX5_init 58 = .ok (.putfield 41, 3) := by decide +kernel
theorem dX5_init_61 : decode cX5_init 61 = .ok (.aload_n 0, 1) := by decide +kernel
theorem dX5_init_62 : decode cX5_init 62 = .ok (.sipush 201, 3) := by decide +kernel
theorem dX5_init_65 : decode cX5_init 65 = .ok (.newarray .long, 2) := by decide +kernel
theorem dX5_init_67 : decode cX5_init 67 = .ok (.putfield 45, 3) := by decide +kernel
theorem dX5_init_70 : decode cX5_init 70 = .ok (.aload_n 0, 1) := by decide +kernel
theorem dX5_init_71 : decode cX5_init 71 = .ok (.new 49, 3) := by decide +kernel
theorem dX5_init_74 : decode cX5_init 74 = .ok (.dup, 1) := by decide +kernel
theorem dX5_init_75 : decode cX5_init 75 = .ok (.invokespecial 51, 3) := by decide +kernel
theorem dX5_init_78 : decode cX5_init 78 = .ok (.putfield 52, 3) := by decide +kernel
theorem dX5_init_81 : decode cX5_init 81 = .ok (.iconst 0, 1) := by decide +kernel
theorem dX5_init_82 : decode cX5_init 82 = .ok (.istore_n 1, 1) := by decide +kernel
theorem dX5_init_83 : decode cX5_init 83 = .ok (.iload_n 1, 1) := by decide +kernel
theorem dX5_init_84 : decode cX5_init 84 = .ok (.iconst 4, 1) := by decide +kernel
theorem dX5_init_85 : decode cX5_init 85 = .ok (.if_icmp .ge 22, 3) := by decide +kernel
theorem dX5_init_88 : decode cX5_init 88 = .ok (.aload_n 0, 1) := by decide +kernel
theorem dX5_init_89 : decode cX5_init 89 = .ok (.getfield 27, 3) := by decide +kernel
theorem dX5_init_92 : decode cX5_init 92 = .ok (.iload_n 1, 1) := by decide +kernel
theorem dX5_init_93 : decode cX5_init 93 = .ok (.new 25, 3) := by decide +kernel
theorem dX5_init_96 : decode cX5_init 96 = .ok (.dup, 1) := by decide +kernel
theorem dX5_init_97 : decode cX5_init 97 = .ok (.invokespecial 56, 3) := by decide +kernel
theorem dX5_init_100 : decode cX5_init 100 = .ok (.aastore, 1) := by decide +kernel
theorem dX5_init_101 : decode cX5_init 101 = .ok (.iinc 1 1, 3) := by decide +kernel
theorem dX5_init_104 : decode cX5_init 104 = .ok (.goto (-21), 3) := by decide +kernel
theorem dX5_init_107 : decode cX5_init 107 = .ok (.return_, 1) := by decide +kernel
theorem dX5_part_0 : decode cX5_part 0 = .ok (.iconst 0, 1) := by decide +kernel
theorem dX5_part_1 : decode cX5_part 1 = .ok (.iload_n 1, 1) := by decide +kernel
theorem dX5_part_2 : decode cX5_part 2 = .ok (.invokestatic 57, 3) := by decide +kernel
theorem dX5_part_5 : decode cX5_part 5 = .ok (.ifCond .eq 28, 3) := by decide +kernel
theorem dX5_part_8 : decode cX5_part 8 = .ok (.iconst 1, 1) := by decide +kernel
theorem dX5_part_9 : decode cX5_part 9 = .ok (.iload_n 2, 1) := by decide +kernel
theorem dX5_part_10 : decode cX5_part 10 = .ok (.invokestatic 57, 3) := by decide +kernel
theorem dX5_part_13 : decode cX5_part 13 = .ok (.ifCond .eq 20, 3) := by decide +kernel
theorem dX5_part_16 : decode cX5_part 16 = .ok (.iconst 2, 1) := by decide +kernel
theorem dX5_part_17 : decode cX5_part 17 = .ok (.iload_n 3, 1) := by decide +kernel
theorem dX5_part_18 : decode cX5_part 18 = .ok (.invokestatic 57, 3) := by decide +kernel
theorem dX5_part_21 : decode cX5_part 21 = .ok (.ifCond .eq 12, 3) := by decide +kernel
theorem dX5_part_24 : decode cX5_part 24 = .ok (.iconst 3, 1) := by decide +kernel
theorem dX5_part_25 : decode cX5_part 25 = .ok (.iload 4, 2) := by decide +kernel
theorem dX5_part_27 : decode cX5_part 27 = .ok (.invokestatic 57, 3) := by decide +kernel
theorem dX5_part_30 : decode cX5_part 30 = .ok (.ifCond .ne 6, 3) := by decide +kernel
theorem dX5_part_33 : decode cX5_part 33 = .ok (.bipush (-2), 2) := by decide +kernel
theorem dX5_part_35 : decode cX5_part 35 = .ok (.ireturn, 1) := by decide +kernel
theorem dX5_part_36 : decode cX5_part 36 = .ok (.aload_n 0, 1) := by decide +kernel
theorem dX5_part_37 : decode cX5_part 37 = .ok (.getfield 12, 3) := by decide +kernel
theorem dX5_part_40 : decode cX5_part 40 = .ok (.iload_n 1, 1) := by decide +kernel
theorem dX5_part_41 : decode cX5_part 41 = .ok (.iload_n 2, 1) := by decide +kernel
theorem dX5_part_42 : decode cX5_part 42 = .ok (.iload_n 3, 1) := by decide +kernel
theorem dX5_part_43 : decode cX5_part 43 = .ok (.iload 4, 2) := by decide +kernel
theorem dX5_part_45 : decode cX5_part 45 = .ok (.invokevirtual 61, 3) := by decide +kernel
theorem dX5_part_48 : decode cX5_part 48 = .ok (.ireturn, 1) := by decide +kernel
theorem dX5_drop_0 : decode cX5_drop 0 = .ok (.aload_n 0, 1) := by decide +kernel
theorem dX5_drop_1 : decode cX5_drop 1 = .ok (.getfield 12, 3) := by decide +kernel
theorem dX5_drop_4 : decode cX5_drop 4 = .ok (.getfield 65, 3) := by decide +kernel
theorem dX5_drop_7 : decode cX5_drop 7 = .ok (.ifCond .gt 6, 3) := by decide +kernel
theorem dX5_drop_10 : decode cX5_drop 10 = .ok (.bipush (-3), 2) := by decide +kernel
theorem dX5_drop_12 : decode cX5_drop 12 = .ok (.ireturn, 1) := by decide +kernel
theorem dX5_drop_13 : decode cX5_drop 13 = .ok (.aload_n 0, 1) := by decide +kernel
theorem dX5_drop_14 : decode cX5_drop 14 = .ok (.getfield 12, 3) := by decide +kernel
theorem dX5_drop_17 : decode cX5_drop 17 = .ok (.dup, 1) := by decide +kernel
theorem dX5_drop_18 : decode cX5_drop 18 = .ok (.getfield 65, 3) := by decide +kernel
theorem dX5_drop_21 : decode cX5_drop 21 = .ok (.iconst 1, 1) := by decide +kernel
theorem dX5_drop_22 : decode cX5_drop 22 = .ok (.isub, 1) := by decide +kernel
theorem dX5_drop_23 : decode cX5_drop 23 = .ok (.putfield 65, 3) := by decide +kernel
theorem dX5_drop_26 : decode cX5_drop 26 = .ok (.aload_n 0, 1) := by decide +kernel
theorem dX5_drop_27 : decode cX5_drop 27 = .ok (.getfield 12, 3) := by decide +kernel
theorem dX5_drop_30 : decode cX5_drop 30 = .ok (.getfield 65, 3) := by decide +kernel
theorem dX5_drop_33 : decode cX5_drop 33 = .ok (.ireturn, 1) := by decide +kernel
theorem dX5_gear_0 : decode cX5_gear 0 = .ok (.aload_n 0, 1) := by decide +kernel
theorem dX5_gear_1 : decode cX5_gear 1 = .ok (.getfield 12, 3) := by decide +kernel
theorem dX5_gear_4 : decode cX5_gear 4 = .ok (.iload_n 1, 1) := by decide +kernel
theorem dX5_gear_5 : decode cX5_gear 5 = .ok (.invokevirtual 69, 3) := by decide +kernel
theorem dX5_gear_8 : decode cX5_gear 8 = .ok (.astore 4, 2) := by decide +kernel
theorem dX5_gear_10 : decode cX5_gear 10 = .ok (.aload 4, 2) := by decide +kernel
theorem dX5_gear_12 : decode cX5_gear 12 = .ok (.ifnull 17, 3) := by decide +kernel
theorem dX5_gear_15 : decode cX5_gear 15 = .ok (.iload_n 2, 1) := by decide +kernel
theorem dX5_gear_16 : decode cX5_gear 16 = .ok (.invokestatic 73, 3) := by decide +kernel
theorem dX5_gear_19 : decode cX5_gear 19 = .ok (.ifCond .eq 10, 3) := by decide +kernel
theorem dX5_gear_22 : decode cX5_gear 22 = .ok (.iload_n 3, 1) := by decide +kernel
theorem dX5_gear_23 : decode cX5_gear 23 = .ok (.invokestatic 73, 3) := by decide +kernel
theorem dX5_gear_26 : decode cX5_gear 26 = .ok (.ifCond .ne 6, 3) := by decide +kernel
theorem dX5_gear_29 : decode cX5_gear 29 = .ok (.bipush (-2), 2) := by decide +kernel
theorem dX5_gear_31 : decode cX5_gear 31 = .ok (.ireturn, 1) := by decide +kernel
theorem dX5_gear_32 : decode cX5_gear 32 = .ok (.aload 4, 2) := by decide +kernel
theorem dX5_gear_34 : decode cX5_gear 34 = .ok (.iload_n 2, 1) := by decide +kernel
theorem dX5_gear_35 : decode cX5_gear 35 = .ok (.iload_n 3, 1) := by decide +kernel
theorem dX5_gear_36 : decode cX5_gear 36 = .ok (.invokevirtual 77, 3) := by decide +kernel
theorem dX5_gear_39 : decode cX5_gear 39 = .ok (.istore 5, 2) := by decide +kernel
theorem dX5_gear_41 : decode cX5_gear 41 = .ok (.aload 4, 2) := by decide +kernel
theorem dX5_gear_43 : decode cX5_gear 43 = .ok (.aload_n 0, 1) := by decide +kernel
theorem dX5_gear_44 : decode cX5_gear 44 = .ok (.getfield 12, 3) := by decide +kernel
theorem dX5_gear_47 : decode cX5_gear 47 = .ok (.getfield 81, 3) := by decide +kernel
theorem dX5_gear_50 : decode cX5_gear 50 = .ok (.invokevirtual 84, 3) := by decide +kernel
theorem dX5_gear_53 : decode cX5_gear 53 = .ok (.iload 5, 2) := by decide +kernel
theorem dX5_gear_55 : decode cX5_gear 55 = .ok (.ireturn, 1) := by decide +kernel
theorem dX5_ungear_0 : decode cX5_ungear 0 = .ok (.aload_n 0, 1) := by decide +kernel
theorem dX5_ungear_1 : decode cX5_ungear 1 = .ok (.getfield 12, 3) := by decide +kernel
theorem dX5_ungear_4 : decode cX5_ungear 4 = .ok (.iload_n 1, 1) := by decide +kernel
theorem dX5_ungear_5 : decode cX5_ungear 5 = .ok (.invokevirtual 69, 3) := by decide +kernel
theorem dX5_ungear_8 : decode cX5_ungear 8 = .ok (.astore_n 2, 1) := by decide +kernel
theorem dX5_ungear_9 : decode cX5_ungear 9 = .ok (.aload_n 2, 1) := by decide +kernel
theorem dX5_ungear_10 : decode cX5_ungear 10 = .ok (.ifnonnull 6, 3) := by decide +kernel
theorem dX5_ungear_13 : decode cX5_ungear 13 = .ok (.bipush (-2), 2) := by decide +kernel
theorem dX5_ungear_15 : decode cX5_ungear 15 = .ok (.ireturn, 1) := by decide +kernel
theorem dX5_ungear_16 : decode cX5_ungear 16 = .ok (.aload_n 2, 1) := by decide +kernel
theorem dX5_ungear_17 : decode cX5_ungear 17 = .ok (.getfield 88, 3) := by decide +kernel
theorem dX5_ungear_20 : decode cX5_ungear 20 = .ok (.ifCond .gt 6, 3) := by decide +kernel
theorem dX5_ungear_23 : decode cX5_ungear 23 = .ok (.bipush (-3), 2) := by decide +kernel
theorem dX5_ungear_25 : decode cX5_ungear 25 = .ok (.ireturn, 1) := by decide +kernel
theorem dX5_ungear_26 : decode cX5_ungear 26 = .ok (.aload_n 2, 1) := by decide +kernel
theorem dX5_ungear_27 : decode cX5_ungear 27 = .ok (.dup, 1) := by decide +kernel
theorem dX5_ungear_28 : decode cX5_ungear 28 = .ok (.getfield 88, 3) := by decide +kernel
theorem dX5_ungear_31 : decode cX5_ungear 31 = .ok (.iconst 1, 1) := by decide +kernel
theorem dX5_ungear_32 : decode cX5_ungear 32 = .ok (.isub, 1) := by decide +kernel
theorem dX5_ungear_33 : decode cX5_ungear 33 = .ok (.putfield 88, 3) := by decide +kernel
theorem dX5_ungear_36 : decode cX5_ungear 36 = .ok (.aload_n 2, 1) := by decide +kernel
theorem dX5_ungear_37 : decode cX5_ungear 37 = .ok (.aload_n 0, 1) := by decide +kernel
theorem dX5_ungear_38 : decode cX5_ungear 38 = .ok (.getfield 12, 3) := by decide +kernel
theorem dX5_ungear_41 : decode cX5_ungear 41 = .ok (.getfield 81, 3) := by decide +kernel
theorem dX5_ungear_44 : decode cX5_ungear 44 = .ok (.invokevirtual 84, 3) := by decide +kernel
theorem dX5_ungear_47 : decode cX5_ungear 47 = .ok (.aload_n 2, 1) := by decide +kernel
theorem dX5_ungear_48 : decode cX5_ungear 48 = .ok (.getfield 88, 3) := by decide +kernel
theorem dX5_ungear_51 : decode cX5_ungear 51 = .ok (.ireturn, 1) := by decide +kernel
theorem dX5_shaft_0 : decode cX5_shaft 0 = .ok (.iload_n 1, 1) := by decide +kernel
theorem dX5_shaft_1 : decode cX5_shaft 1 = .ok (.iconst 1, 1) := by decide +kernel
theorem dX5_shaft_2 : decode cX5_shaft 2 = .ok (.sipush 999, 3) := by decide +kernel
theorem dX5_shaft_5 : decode cX5_shaft 5 = .ok (.invokestatic 91, 3) := by decide +kernel
theorem dX5_shaft_8 : decode cX5_shaft 8 = .ok (.ifCond .ne 6, 3) := by decide +kernel
theorem dX5_shaft_11 : decode cX5_shaft 11 = .ok (.bipush (-2), 2) := by decide +kernel
theorem dX5_shaft_13 : decode cX5_shaft 13 = .ok (.ireturn, 1) := by decide +kernel
theorem dX5_shaft_14 : decode cX5_shaft 14 = .ok (.aload_n 0, 1) := by decide +kernel
theorem dX5_shaft_15 : decode cX5_shaft 15 = .ok (.getfield 12, 3) := by decide +kernel
theorem dX5_shaft_18 : decode cX5_shaft 18 = .ok (.getfield 81, 3) := by decide +kernel
theorem dX5_shaft_21 : decode cX5_shaft 21 = .ok (.istore_n 2, 1) := by decide +kernel
theorem dX5_shaft_22 : decode cX5_shaft 22 = .ok (.aload_n 0, 1) := by decide +kernel
theorem dX5_shaft_23 : decode cX5_shaft 23 = .ok (.getfield 12, 3) := by decide +kernel
theorem dX5_shaft_26 : decode cX5_shaft 26 = .ok (.iload_n 1, 1) := by decide +kernel
theorem dX5_shaft_27 : decode cX5_shaft 27 = .ok (.invokevirtual 95, 3) := by decide +kernel
theorem dX5_shaft_30 : decode cX5_shaft 30 = .ok (.iload_n 2, 1) := by decide +kernel
theorem dX5_shaft_31 : decode cX5_shaft 31 = .ok (.ireturn, 1) := by decide +kernel
theorem dX5_set_0 : decode cX5_set 0 = .ok (.iload_n 2, 1) := by decide +kernel
theorem dX5_set_1 : decode cX5_set 1 = .ok (.iconst 0, 1) := by decide +kernel
theorem dX5_set_2 : decode cX5_set 2 = .ok (.iconst 2, 1) := by decide +kernel
theorem dX5_set_3 : decode cX5_set 3 = .ok (.invokestatic 91, 3) := by decide +kernel
theorem dX5_set_6 : decode cX5_set 6 = .ok (.ifCond .eq 15, 3) := by decide +kernel
theorem dX5_set_9 : decode cX5_set 9 = .ok (.aload_n 0, 1) := by decide +kernel
theorem dX5_set_10 : decode cX5_set 10 = .ok (.iload_n 1, 1) := by decide +kernel
theorem dX5_set_11 : decode cX5_set 11 = .ok (.iconst 1, 1) := by decide +kernel
theorem dX5_set_12 : decode cX5_set 12 = .ok (.iload_n 2, 1) := by decide +kernel
theorem dX5_set_13 : decode cX5_set 13 = .ok (.iadd, 1) := by decide +kernel
theorem dX5_set_14 : decode cX5_set 14 = .ok (.iload_n 3, 1) := by decide +kernel
theorem dX5_set_15 : decode cX5_set 15 = .ok (.invokevirtual 98, 3) := by decide +kernel
theorem dX5_set_18 : decode cX5_set 18 = .ok (.goto 5, 3) := by decide +kernel
theorem dX5_set_21 : decode cX5_set 21 = .ok (.bipush (-2), 2) := by decide +kernel
theorem dX5_set_23 : decode cX5_set 23 = .ok (.ireturn, 1) := by decide +kernel
theorem dX5_kind_0 : decode cX5_kind 0 = .ok (.aload_n 0, 1) := by decide +kernel
theorem dX5_kind_1 : decode cX5_kind 1 = .ok (.iload_n 1, 1) := by decide +kernel
theorem dX5_kind_2 : decode cX5_kind 2 = .ok (.iconst 0, 1) := by decide +kernel
theorem dX5_kind_3 : decode cX5_kind 3 = .ok (.iload_n 2, 1) := by decide +kernel
theorem dX5_kind_4 : decode cX5_kind 4 = .ok (.invokevirtual 98, 3) := by decide +kernel
theorem dX5_kind_7 : decode cX5_kind 7 = .ok (.ireturn, 1) := by decide +kernel
theorem dX5_of_0 : decode cX5_of 0 = .ok (.aload_n 0, 1) := by decide +kernel
theorem dX5_of_1 : decode cX5_of 1 = .ok (.getfield 12, 3) := by decide +kernel
theorem dX5_of_4 : decode cX5_of 4 = .ok (.iload_n 1, 1) := by decide +kernel
theorem dX5_of_5 : decode cX5_of 5 = .ok (.invokevirtual 69, 3) := by decide +kernel
theorem dX5_of_8 : decode cX5_of 8 = .ok (.astore_n 3, 1) := by decide +kernel
theorem dX5_of_9 : decode cX5_of 9 = .ok (.aload_n 3, 1) := by decide +kernel
theorem dX5_of_10 : decode cX5_of 10 = .ok (.ifnonnull 6, 3) := by decide +kernel
theorem dX5_of_13 : decode cX5_of 13 = .ok (.bipush (-2), 2) := by decide +kernel
theorem dX5_of_15 : decode cX5_of 15 = .ok (.ireturn, 1) := by decide +kernel
theorem dX5_of_16 : decode cX5_of 16 = .ok (.iload_n 2, 1) := by decide +kernel
theorem dX5_of_17 : decode cX5_of 17 = .ok (.iconst 0, 1) := by decide +kernel
theorem dX5_of_18 : decode cX5_of 18 = .ok (.iconst 3, 1) := by decide +kernel
theorem dX5_of_19 : decode cX5_of 19 = .ok (.invokestatic 91, 3) := by decide +kernel
theorem dX5_of_22 : decode cX5_of 22 = .ok (.ifCond .eq 10, 3) := by decide +kernel
theorem dX5_of_25 : decode cX5_of 25 = .ok (.aload_n 3, 1) := by decide +kernel
theorem dX5_of_26 : decode cX5_of 26 = .ok (.getfield 102, 3) := by decide +kernel
theorem dX5_of_29 : decode cX5_of 29 = .ok (.iload_n 2, 1) := by decide +kernel
theorem dX5_of_30 : decode cX5_of 30 = .ok (.iaload, 1) := by decide +kernel
theorem dX5_of_31 : decode cX5_of 31 = .ok (.ireturn, 1) := by decide +kernel
theorem dX5_of_32 : decode cX5_of 32 = .ok (.iload_n 2, 1) := by decide +kernel
theorem dX5_of_33 : decode cX5_of 33 = .ok (.iconst 4, 1) := by decide +kernel
theorem dX5_of_34 : decode cX5_of 34 = .ok (.if_icmp .ne 8, 3) := by decide +kernel
theorem dX5_of_37 : decode cX5_of 37 = .ok (.aload_n 3, 1) := by decide +kernel
theorem dX5_of_38 : decode cX5_of 38 = .ok (.getfield 88, 3) := by decide +kernel
theorem dX5_of_41 : decode cX5_of 41 = .ok (.ireturn, 1) := by decide +kernel
theorem dX5_of_42 : decode cX5_of 42 = .ok (.iload_n 2, 1) := by decide +kernel
theorem dX5_of_43 : decode cX5_of 43 = .ok (.bipush 10, 2) := by decide +kernel
theorem dX5_of_45 : decode cX5_of 45 = .ok (.bipush 12, 2) := by decide +kernel
theorem dX5_of_47 : decode cX5_of 47 = .ok (.invokestatic 91, 3) := by decide +kernel
theorem dX5_of_50 : decode cX5_of 50 = .ok (.ifCond .eq 16, 3) := by decide +kernel
theorem dX5_of_53 : decode cX5_of 53 = .ok (.aload_n 3, 1) := by decide +kernel
theorem dX5_of_54 : decode cX5_of 54 = .ok (.aload_n 3, 1) := by decide +kernel
theorem dX5_of_55 : decode cX5_of 55 = .ok (.getfield 106, 3) := by decide +kernel
theorem dX5_of_58 : decode cX5_of 58 = .ok (.iload_n 2, 1) := by decide +kernel
theorem dX5_of_59 : decode cX5_of 59 = .ok (.bipush 10, 2) := by decide +kernel
theorem dX5_of_61 : decode cX5_of 61 = .ok (.isub, 1) := by decide +kernel
theorem dX5_of_62 : decode cX5_of 62 = .ok (.invokevirtual 109, 3) := by decide +kernel
theorem dX5_of_65 : decode cX5_of 65 = .ok (.ireturn, 1) := by decide +kernel
theorem dX5_of_66 : decode cX5_of 66 = .ok (.iload_n 2, 1) := by decide +kernel
theorem dX5_of_67 : decode cX5_of 67 = .ok (.bipush 20, 2) := by decide +kernel
theorem dX5_of_69 : decode cX5_of 69 = .ok (.bipush 22, 2) := by decide +kernel
theorem dX5_of_71 : decode cX5_of 71 = .ok (.invokestatic 91, 3) := by decide +kernel
theorem dX5_of_74 : decode cX5_of 74 = .ok (.ifCond .eq 16, 3) := by decide +kernel
theorem dX5_of_77 : decode cX5_of 77 = .ok (.aload_n 3, 1) := by decide +kernel
theorem dX5_of_78 : decode cX5_of 78 = .ok (.aload_n 3, 1) := by decide +kernel
theorem dX5_of_79 : decode cX5_of 79 = .ok (.getfield 113, 3) := by decide +kernel
theorem dX5_of_82 : decode cX5_of 82 = .ok (.iload_n 2, 1) := by decide +kernel
theorem dX5_of_83 : decode cX5_of 83 = .ok (.bipush 20, 2) := by decide +kernel
theorem dX5_of_85 : decode cX5_of 85 = .ok (.isub, 1) := by decide +kernel
theorem dX5_of_86 : decode cX5_of 86 = .ok (.invokevirtual 109, 3) := by decide +kernel
theorem dX5_of_89 : decode cX5_of 89 = .ok (.ireturn, 1) := by decide +kernel
theorem dX5_of_90 : decode cX5_of 90 = .ok (.bipush (-2), 2) := by decide +kernel
theorem dX5_of_92 : decode cX5_of 92 = .ok (.ireturn, 1) := by decide +kernel
theorem dX5_taken_0 : decode cX5_taken 0 = .ok (.aload_n 0, 1) := by decide +kernel
theorem dX5_taken_1 : decode cX5_taken 1 = .ok (.getfield 12, 3) := by decide +kernel
theorem dX5_taken_4 : decode cX5_taken 4 = .ok (.iload_n 1, 1) := by decide +kernel
theorem dX5_taken_5 : decode cX5_taken 5 = .ok (.invokevirtual 69, 3) := by decide +kernel
theorem dX5_taken_8 : decode cX5_taken 8 = .ok (.astore_n 3, 1) := by decide +kernel
theorem dX5_taken_9 : decode cX5_taken 9 = .ok (.aload_n 3, 1) := by decide +kernel
theorem dX5_taken_10 : decode cX5_taken 10 = .ok (.ifnull 11, 3) := by decide +kernel
theorem dX5_taken_13 : decode cX5_taken 13 = .ok (.iconst 0, 1) := by decide +kernel
theorem dX5_taken_14 : decode cX5_taken 14 = .ok (.iload_n 2, 1) := by decide +kernel
theorem dX5_taken_15 : decode cX5_taken 15 = .ok (.invokestatic 57, 3) := by decide +kernel
theorem dX5_taken_18 : decode cX5_taken 18 = .ok (.ifCond .ne 6, 3) := by decide +kernel
theorem dX5_taken_21 : decode cX5_taken 21 = .ok (.bipush (-2), 2) := by decide +kernel
theorem dX5_taken_23 : decode cX5_taken 23 = .ok (.ireturn, 1) := by decide +kernel
theorem dX5_taken_24 : decode cX5_taken 24 = .ok (.aload_n 3, 1) := by decide +kernel
theorem dX5_taken_25 : decode cX5_taken 25 = .ok (.iload_n 2, 1) := by decide +kernel
theorem dX5_taken_26 : decode cX5_taken 26 = .ok (.invokevirtual 116, 3) := by decide +kernel
theorem dX5_taken_29 : decode cX5_taken 29 = .ok (.ifCond .eq 12, 3) := by decide +kernel
theorem dX5_taken_32 : decode cX5_taken 32 = .ok (.aload_n 3, 1) := by decide +kernel
theorem dX5_taken_33 : decode cX5_taken 33 = .ok (.getfield 102, 3) := by decide +kernel
theorem dX5_taken_36 : decode cX5_taken 36 = .ok (.iconst 3, 1) := by decide +kernel
theorem dX5_taken_37 : decode cX5_taken 37 = .ok (.iaload, 1) := by decide +kernel
theorem dX5_taken_38 : decode cX5_taken 38 = .ok (.goto 5, 3) := by decide +kernel
theorem dX5_taken_41 : decode cX5_taken 41 = .ok (.bipush (-13), 2) := by decide +kernel
theorem dX5_taken_43 : decode cX5_taken 43 = .ok (.ireturn, 1) := by decide +kernel
theorem dX5_jam_0 : decode cX5_jam 0 = .ok (.aload_n 0, 1) := by decide +kernel
theorem dX5_jam_1 : decode cX5_jam 1 = .ok (.getfield 12, 3) := by decide +kernel
theorem dX5_jam_4 : decode cX5_jam 4 = .ok (.iload_n 1, 1) := by decide +kernel
theorem dX5_jam_5 : decode cX5_jam 5 = .ok (.invokevirtual 69, 3) := by decide +kernel
theorem dX5_jam_8 : decode cX5_jam 8 = .ok (.astore_n 3, 1) := by decide +kernel
theorem dX5_jam_9 : decode cX5_jam 9 = .ok (.aload_n 3, 1) := by decide +kernel
theorem dX5_jam_10 : decode cX5_jam 10 = .ok (.ifnull 12, 3) := by decide +kernel
theorem dX5_jam_13 : decode cX5_jam 13 = .ok (.iload_n 2, 1) := by decide +kernel
theorem dX5_jam_14 : decode cX5_jam 14 = .ok (.iconst 0, 1) := by decide +kernel
theorem dX5_jam_15 : decode cX5_jam 15 = .ok (.iconst 3, 1) := by decide +kernel
theorem dX5_jam_16 : decode cX5_jam 16 = .ok (.invokestatic 91, 3) := by decide +kernel
theorem dX5_jam_19 : decode cX5_jam 19 = .ok (.ifCond .ne 6, 3) := by decide +kernel
theorem dX5_jam_22 : decode cX5_jam 22 = .ok (.bipush (-2), 2) := by decide +kernel
theorem dX5_jam_24 : decode cX5_jam 24 = .ok (.ireturn, 1) := by decide +kernel
theorem dX5_jam_25 : decode cX5_jam 25 = .ok (.aload_n 3, 1) := by decide +kernel
theorem dX5_jam_26 : decode cX5_jam 26 = .ok (.invokevirtual 119, 3) := by decide +kernel
theorem dX5_jam_29 : decode cX5_jam 29 = .ok (.istore 4, 2) := by decide +kernel
theorem dX5_jam_31 : decode cX5_jam 31 = .ok (.iload_n 2, 1) := by decide +kernel
theorem dX5_jam_32 : decode cX5_jam 32 = .ok (.ifCond .ne 6, 3) := by decide +kernel
theorem dX5_jam_35 : decode cX5_jam 35 = .ok (.iload 4, 2) := by decide +kernel
theorem dX5_jam_37 : decode cX5_jam 37 = .ok (.ireturn, 1) := by decide +kernel
theorem dX5_jam_38 : decode cX5_jam 38 = .ok (.aload_n 3, 1) := by decide +kernel
theorem dX5_jam_39 : decode cX5_jam 39 = .ok (.aload_n 3, 1) := by decide +kernel
theorem dX5_jam_40 : decode cX5_jam 40 = .ok (.getfield 106, 3) := by decide +kernel
theorem dX5_jam_43 : decode cX5_jam 43 = .ok (.iload 4, 2) := by decide +kernel
theorem dX5_jam_45 : decode cX5_jam 45 = .ok (.invokevirtual 109, 3) := by decide +kernel
theorem dX5_jam_48 : decode cX5_jam 48 = .ok (.istore 5, 2) := by decide +kernel
theorem dX5_jam_50 : decode cX5_jam 50 = .ok (.aload_n 3, 1) := by decide +kernel
theorem dX5_jam_51 : decode cX5_jam 51 = .ok (.aload_n 3, 1) := by decide +kernel
theorem dX5_jam_52 : decode cX5_jam 52 = .ok (.getfield 113, 3) := by decide +kernel
theorem dX5_jam_55 : decode cX5_jam 55 = .ok (.iload 4, 2) := by decide +kernel
theorem dX5_jam_57 : decode cX5_jam 57 = .ok (.invokevirtual 109, 3) := by decide +kernel
theorem dX5_jam_60 : decode cX5_jam 60 = .ok (.istore 6, 2) := by decide +kernel
theorem dX5_jam_62 : decode cX5_jam 62 = .ok (.iload_n 2, 1) := by decide +kernel
theorem dX5_jam_63 : decode cX5_jam 63 = .ok (.iconst 1, 1) := by decide +kernel
theorem dX5_jam_64 : decode cX5_jam 64 = .ok (.if_icmp .ne 21, 3) := by decide +kernel
theorem dX5_jam_67 : decode cX5_jam 67 = .ok (.iload 4, 2) := by decide +kernel
theorem dX5_jam_69 : decode cX5_jam 69 = .ok (.iconst (-1), 1) := by decide +kernel
theorem dX5_jam_70 : decode cX5_jam 70 = .ok (.if_icmp .ne 7, 3) := by decide +kernel
theorem dX5_jam_73 : decode cX5_jam 73 = .ok (.iconst 0, 1) := by decide +kernel
theorem dX5_jam_74 : decode cX5_jam 74 = .ok (.goto 10, 3) := by decide +kernel
theorem dX5_jam_77 : decode cX5_jam 77 = .ok (.iload 5, 2) := by decide +kernel
theorem dX5_jam_79 : decode cX5_jam 79 = .ok (.iload 6, 2) := by decide +kernel
theorem dX5_jam_81 : decode cX5_jam 81 = .ok (.invokestatic 123, 3) := by decide +kernel
theorem dX5_jam_84 : decode cX5_jam 84 = .ok (.ireturn, 1) := by decide +kernel
theorem dX5_jam_85 : decode cX5_jam 85 = .ok (.iload_n 2, 1) := by decide +kernel
theorem dX5_jam_86 : decode cX5_jam 86 = .ok (.iconst 2, 1) := by decide +kernel
theorem dX5_jam_87 : decode cX5_jam 87 = .ok (.if_icmp .ne 15, 3) := by decide +kernel
theorem dX5_jam_90 : decode cX5_jam 90 = .ok (.iload 4, 2) := by decide +kernel
theorem dX5_jam_92 : decode cX5_jam 92 = .ok (.iconst (-1), 1) := by decide +kernel
theorem dX5_jam_93 : decode cX5_jam 93 = .ok (.if_icmp .ne 7, 3) := by decide +kernel
theorem dX5_jam_96 : decode cX5_jam 96 = .ok (.iconst 0, 1) := by decide +kernel
theorem dX5_jam_97 : decode cX5_jam 97 = .ok (.goto 4, 3) := by decide +kernel
theorem dX5_jam_100 : decode cX5_jam 100 = .ok (.iconst 2, 1) := by decide +kernel
theorem dX5_jam_101 : decode cX5_jam 101 = .ok (.ireturn, 1) := by decide +kernel
theorem dX5_jam_102 : decode cX5_jam 102 = .ok (.iload 4, 2) := by decide +kernel
theorem dX5_jam_104 : decode cX5_jam 104 = .ok (.iconst (-1), 1) := by decide +kernel
theorem dX5_jam_105 : decode cX5_jam 105 = .ok (.if_icmp .ne 7, 3) := by decide +kernel
theorem dX5_jam_108 : decode cX5_jam 108 = .ok (.iconst (-1), 1) := by decide +kernel
theorem dX5_jam_109 : decode cX5_jam 109 = .ok (.goto 10, 3) := by decide +kernel
theorem dX5_jam_112 : decode cX5_jam 112 = .ok (.iload 5, 2) := by decide +kernel
theorem dX5_jam_114 : decode cX5_jam 114 = .ok (.iload 6, 2) := by decide +kernel
theorem dX5_jam_116 : decode cX5_jam 116 = .ok (.invokestatic 126, 3) := by decide +kernel
theorem dX5_jam_119 : decode cX5_jam 119 = .ok (.ireturn, 1) := by decide +kernel
theorem dX5_speed_0 : decode cX5_speed 0 = .ok (.aload_n 0, 1) := by decide +kernel
theorem dX5_speed_1 : decode cX5_speed 1 = .ok (.getfield 12, 3) := by decide +kernel
theorem dX5_speed_4 : decode cX5_speed 4 = .ok (.iload_n 1, 1) := by decide +kernel
theorem dX5_speed_5 : decode cX5_speed 5 = .ok (.invokevirtual 69, 3) := by decide +kernel
theorem dX5_speed_8 : decode cX5_speed 8 = .ok (.astore_n 3, 1) := by decide +kernel
theorem dX5_speed_9 : decode cX5_speed 9 = .ok (.aload_n 3, 1) := by decide +kernel
theorem dX5_speed_10 : decode cX5_speed 10 = .ok (.ifnull 12, 3) := by decide +kernel
theorem dX5_speed_13 : decode cX5_speed 13 = .ok (.iload_n 2, 1) := by decide +kernel
theorem dX5_speed_14 : decode cX5_speed 14 = .ok (.iconst 0, 1) := by decide +kernel
theorem dX5_speed_15 : decode cX5_speed 15 = .ok (.iconst 1, 1) := by decide +kernel
theorem dX5_speed_16 : decode cX5_speed 16 = .ok (.invokestatic 91, 3) := by decide +kernel
theorem dX5_speed_19 : decode cX5_speed 19 = .ok (.ifCond .ne 7, 3) := by decide +kernel
theorem dX5_speed_22 : decode cX5_speed 22 = .ok (.ldc2_w 131, 3) := by decide +kernel
theorem dX5_speed_25 : decode cX5_speed 25 = .ok (.lreturn, 1) := by decide +kernel
theorem dX5_speed_26 : decode cX5_speed 26 = .ok (.iload_n 2, 1) := by decide +kernel
theorem dX5_speed_27 : decode cX5_speed 27 = .ok (.ifCond .ne 10, 3) := by decide +kernel
theorem dX5_speed_30 : decode cX5_speed 30 = .ok (.aload_n 3, 1) := by decide +kernel
theorem dX5_speed_31 : decode cX5_speed 31 = .ok (.getfield 133, 3) := by decide +kernel
theorem dX5_speed_34 : decode cX5_speed 34 = .ok (.goto 7, 3) := by decide +kernel
theorem dX5_speed_37 : decode cX5_speed 37 = .ok (.aload_n 3, 1) := by decide +kernel
theorem dX5_speed_38 : decode cX5_speed 38 = .ok (.getfield 137, 3) := by decide +kernel
theorem dX5_speed_41 : decode cX5_speed 41 = .ok (.lreturn, 1) := by decide +kernel
theorem dX5_turn_0 : decode cX5_turn 0 = .ok (.iload_n 1, 1) := by decide +kernel
theorem dX5_turn_1 : decode cX5_turn 1 = .ok (.iconst 1, 1) := by decide +kernel
theorem dX5_turn_2 : decode cX5_turn 2 = .ok (.ldc 140, 2) := by decide +kernel
theorem dX5_turn_4 : decode cX5_turn 4 = .ok (.invokestatic 91, 3) := by decide +kernel
theorem dX5_turn_7 : decode cX5_turn 7 = .ok (.ifCond .ne 6, 3) := by decide +kernel
theorem dX5_turn_10 : decode cX5_turn 10 = .ok (.bipush (-2), 2) := by decide +kernel
theorem dX5_turn_12 : decode cX5_turn 12 = .ok (.ireturn, 1) := by decide +kernel
theorem dX5_turn_13 : decode cX5_turn 13 = .ok (.aload_n 0, 1) := by decide +kernel
theorem dX5_turn_14 : decode cX5_turn 14 = .ok (.getfield 12, 3) := by decide +kernel
theorem dX5_turn_17 : decode cX5_turn 17 = .ok (.getfield 141, 3) := by decide +kernel
theorem dX5_turn_20 : decode cX5_turn 20 = .ok (.iload_n 1, 1) := by decide +kernel
theorem dX5_turn_21 : decode cX5_turn 21 = .ok (.iadd, 1) := by decide +kernel
theorem dX5_turn_22 : decode cX5_turn 22 = .ok (.ldc 140, 2) := by decide +kernel
theorem dX5_turn_24 : decode cX5_turn 24 = .ok (.if_icmp .le 6, 3) := by decide +kernel
theorem dX5_turn_27 : decode cX5_turn 27 = .ok (.bipush (-4), 2) := by decide +kernel
theorem dX5_turn_29 : decode cX5_turn 29 = .ok (.ireturn, 1) := by decide +kernel
theorem dX5_turn_30 : decode cX5_turn 30 = .ok (.aload_n 0, 1) := by decide +kernel
theorem dX5_turn_31 : decode cX5_turn 31 = .ok (.getfield 12, 3) := by decide +kernel
theorem dX5_turn_34 : decode cX5_turn 34 = .ok (.dup, 1) := by decide +kernel
theorem dX5_turn_35 : decode cX5_turn 35 = .ok (.getfield 141, 3) := by decide +kernel
theorem dX5_turn_38 : decode cX5_turn 38 = .ok (.iload_n 1, 1) := by decide +kernel
theorem dX5_turn_39 : decode cX5_turn 39 = .ok (.iadd, 1) := by decide +kernel
theorem dX5_turn_40 : decode cX5_turn 40 = .ok (.putfield 141, 3) := by decide +kernel
theorem dX5_turn_43 : decode cX5_turn 43 = .ok (.aload_n 0, 1) := by decide +kernel
theorem dX5_turn_44 : decode cX5_turn 44 = .ok (.getfield 12, 3) := by decide +kernel
theorem dX5_turn_47 : decode cX5_turn 47 = .ok (.getfield 141, 3) := by decide +kernel
theorem dX5_turn_50 : decode cX5_turn 50 = .ok (.ireturn, 1) := by decide +kernel
theorem dX5_height_0 : decode cX5_height 0 = .ok (.aload_n 0, 1) := by decide +kernel
theorem dX5_height_1 : decode cX5_height 1 = .ok (.getfield 12, 3) := by decide +kernel
theorem dX5_height_4 : decode cX5_height 4 = .ok (.aload_n 0, 1) := by decide +kernel
theorem dX5_height_5 : decode cX5_height 5 = .ok (.getfield 12, 3) := by decide +kernel
theorem dX5_height_8 : decode cX5_height 8 = .ok (.getfield 141, 3) := by decide +kernel
theorem dX5_height_11 : decode cX5_height 11 = .ok (.invokevirtual 144, 3) := by decide +kernel
theorem dX5_height_14 : decode cX5_height 14 = .ok (.lreturn, 1) := by decide +kernel
theorem dX5_heightAt_0 : decode cX5_heightAt 0 = .ok (.iload_n 1, 1) := by decide +kernel
theorem dX5_heightAt_1 : decode cX5_heightAt 1 = .ok (.invokestatic 148, 3) := by decide +kernel
theorem dX5_heightAt_4 : decode cX5_heightAt 4 = .ok (.ifCond .eq 14, 3) := by decide +kernel
theorem dX5_heightAt_7 : decode cX5_heightAt 7 = .ok (.aload_n 0, 1) := by decide +kernel
theorem dX5_heightAt_8 : decode cX5_heightAt 8 = .ok (.getfield 12, 3) := by decide +kernel
theorem dX5_heightAt_11 : decode cX5_heightAt 11 = .ok (.iload_n 1, 1) := by decide +kernel
theorem dX5_heightAt_12 : decode cX5_heightAt 12 = .ok (.invokevirtual 144, 3) := by decide +kernel
theorem dX5_heightAt_15 : decode cX5_heightAt 15 = .ok (.goto 6, 3) := by decide +kernel
theorem dX5_heightAt_18 : decode cX5_heightAt 18 = .ok (.ldc2_w 131, 3) := by decide +kernel
theorem dX5_heightAt_21 : decode cX5_heightAt 21 = .ok (.lreturn, 1) := by decide +kernel
theorem dX5_heightOf_0 : decode cX5_heightOf 0 = .ok (.aload_n 0, 1) := by decide +kernel
theorem dX5_heightOf_1 : decode cX5_heightOf 1 = .ok (.getfield 12, 3) := by decide +kernel
theorem dX5_heightOf_4 : decode cX5_heightOf 4 = .ok (.iload_n 1, 1) := by decide +kernel
theorem dX5_heightOf_5 : decode cX5_heightOf 5 = .ok (.invokevirtual 69, 3) := by decide +kernel
theorem dX5_heightOf_8 : decode cX5_heightOf 8 = .ok (.astore_n 3, 1) := by decide +kernel
theorem dX5_heightOf_9 : decode cX5_heightOf 9 = .ok (.aload_n 3, 1) := by decide +kernel
theorem dX5_heightOf_10 : decode cX5_heightOf 10 = .ok (.ifnull 10, 3) := by decide +kernel
theorem dX5_heightOf_13 : decode cX5_heightOf 13 = .ok (.iload_n 2, 1) := by decide +kernel
theorem dX5_heightOf_14 : decode cX5_heightOf 14 = .ok (.invokestatic 148, 3) := by decide +kernel
theorem dX5_heightOf_17 : decode cX5_heightOf 17 = .ok (.ifCond .ne 9, 3) := by decide +kernel
theorem dX5_heightOf_20 : decode cX5_heightOf 20 = .ok (.ldc2_w 131, 3) := by decide +kernel
theorem dX5_heightOf_23 : decode cX5_heightOf 23 = .ok (.goto 8, 3) := by decide +kernel
theorem dX5_heightOf_26 : decode cX5_heightOf 26 = .ok (.aload_n 3, 1) := by decide +kernel
theorem dX5_heightOf_27 : decode cX5_heightOf 27 = .ok (.iload_n 2, 1) := by decide +kernel
theorem dX5_heightOf_28 : decode cX5_heightOf 28 = .ok (.invokevirtual 151, 3) := by decide +kernel
theorem dX5_heightOf_31 : decode cX5_heightOf 31 = .ok (.lreturn, 1) := by decide +kernel
theorem dX5_place_0 : decode cX5_place 0 = .ok (.aload_n 0, 1) := by decide +kernel
theorem dX5_place_1 : decode cX5_place 1 = .ok (.getfield 12, 3) := by decide +kernel
theorem dX5_place_4 : decode cX5_place 4 = .ok (.iload_n 1, 1) := by decide +kernel
theorem dX5_place_5 : decode cX5_place 5 = .ok (.invokevirtual 69, 3) := by decide +kernel
theorem dX5_place_8 : decode cX5_place 8 = .ok (.astore_n 3, 1) := by decide +kernel
theorem dX5_place_9 : decode cX5_place 9 = .ok (.aload_n 3, 1) := by decide +kernel
theorem dX5_place_10 : decode cX5_place 10 = .ok (.ifnull 10, 3) := by decide +kernel
theorem dX5_place_13 : decode cX5_place 13 = .ok (.iload_n 2, 1) := by decide +kernel
theorem dX5_place_14 : decode cX5_place 14 = .ok (.invokestatic 148, 3) := by decide +kernel
theorem dX5_place_17 : decode cX5_place 17 = .ok (.ifCond .ne 8, 3) := by decide +kernel
theorem dX5_place_20 : decode cX5_place 20 = .ok (.bipush (-2), 2) := by decide +kernel
theorem dX5_place_22 : decode cX5_place 22 = .ok (.goto 8, 3) := by decide +kernel
theorem dX5_place_25 : decode cX5_place 25 = .ok (.aload_n 3, 1) := by decide +kernel
theorem dX5_place_26 : decode cX5_place 26 = .ok (.iload_n 2, 1) := by decide +kernel
theorem dX5_place_27 : decode cX5_place 27 = .ok (.invokevirtual 154, 3) := by decide +kernel
theorem dX5_place_30 : decode cX5_place 30 = .ok (.ireturn, 1) := by decide +kernel
theorem dX5_waters_0 : decode cX5_waters 0 = .ok (.iload_n 1, 1) := by decide +kernel
theorem dX5_waters_1 : decode cX5_waters 1 = .ok (.invokestatic 148, 3) := by decide +kernel
theorem dX5_waters_4 : decode cX5_waters 4 = .ok (.ifCond .eq 23, 3) := by decide +kernel
theorem dX5_waters_7 : decode cX5_waters 7 = .ok (.iload_n 2, 1) := by decide +kernel
theorem dX5_waters_8 : decode cX5_waters 8 = .ok (.iconst 1, 1) := by decide +kernel
theorem dX5_waters_9 : decode cX5_waters 9 = .ok (.sipush 2000, 3) := by decide +kernel
theorem dX5_waters_12 : decode cX5_waters 12 = .ok (.invokestatic 91, 3) := by decide +kernel
theorem dX5_waters_15 : decode cX5_waters 15 = .ok (.ifCond .eq 12, 3) := by decide +kernel
theorem dX5_waters_18 : decode cX5_waters 18 = .ok (.iload_n 3, 1) := by decide +kernel
theorem dX5_waters_19 : decode cX5_waters 19 = .ok (.iconst 0, 1) := by decide +kernel
theorem dX5_waters_20 : decode cX5_waters 20 = .ok (.iconst 3, 1) := by decide +kernel
theorem dX5_waters_21 : decode cX5_waters 21 = .ok (.invokestatic 91, 3) := by decide +kernel
theorem dX5_waters_24 : decode cX5_waters 24 = .ok (.ifCond .ne 6, 3) := by decide +kernel
theorem dX5_waters_27 : decode cX5_waters 27 = .ok (.bipush (-2), 2) := by decide +kernel
theorem dX5_waters_29 : decode cX5_waters 29 = .ok (.ireturn, 1) := by decide +kernel
theorem dX5_waters_30 : decode cX5_waters 30 = .ok (.iload_n 3, 1) := by decide +kernel
theorem dX5_waters_31 : decode cX5_waters 31 = .ok (.ifCond .eq 8, 3) := by decide +kernel
theorem dX5_waters_34 : decode cX5_waters 34 = .ok (.iload_n 3, 1) := by decide +kernel
theorem dX5_waters_35 : decode cX5_waters 35 = .ok (.iconst 2, 1) := by decide +kernel
theorem dX5_waters_36 : decode cX5_waters 36 = .ok (.if_icmp .ne 7, 3) := by decide +kernel
theorem dX5_waters_39 : decode cX5_waters 39 = .ok (.iconst 1, 1) := by decide +kernel
theorem dX5_waters_40 : decode cX5_waters 40 = .ok (.goto 4, 3) := by decide +kernel
theorem dX5_waters_43 : decode cX5_waters 43 = .ok (.iconst (-1), 1) := by decide +kernel
theorem dX5_waters_44 : decode cX5_waters 44 = .ok (.istore 4, 2) := by decide +kernel
theorem dX5_waters_46 : decode cX5_waters 46 = .ok (.iconst 0, 1) := by decide +kernel
theorem dX5_waters_47 : decode cX5_waters 47 = .ok (.istore 5, 2) := by decide +kernel
theorem dX5_waters_49 : decode cX5_waters 49 = .ok (.iconst (-1), 1) := by decide +kernel
theorem dX5_waters_50 : decode cX5_waters 50 = .ok (.istore 6, 2) := by decide +kernel
theorem dX5_waters_52 : decode cX5_waters 52 = .ok (.lconst 0, 1) := by decide +kernel
theorem dX5_waters_53 : decode cX5_waters 53 = .ok (.lstore 7, 2) := by decide +kernel
theorem dX5_waters_55 : decode cX5_waters 55 = .ok (.aload_n 0, 1) := by decide +kernel
theorem dX5_waters_56 : decode cX5_waters 56 = .ok (.getfield 52, 3) := by decide +kernel
theorem dX5_waters_59 : decode cX5_waters 59 = .ok (.aload_n 0, 1) := by decide +kernel
theorem dX5_waters_60 : decode cX5_waters 60 = .ok (.getfield 12, 3) := by decide +kernel
theorem dX5_waters_63 : decode cX5_waters 63 = .ok (.iload_n 1, 1) := by decide +kernel
theorem dX5_waters_64 : decode cX5_waters 64 = .ok (.invokevirtual 144, 3) := by decide +kernel
theorem dX5_waters_67 : decode cX5_waters 67 = .ok (.invokevirtual 158, 3) := by decide +kernel
theorem dX5_waters_70 : decode cX5_waters 70 = .ok (.iload_n 1, 1) := by decide +kernel
theorem dX5_waters_71 : decode cX5_waters 71 = .ok (.istore 9, 2) := by decide +kernel
theorem dX5_waters_73 : decode cX5_waters 73 = .ok (.iload 9, 2) := by decide +kernel
theorem dX5_waters_75 : decode cX5_waters 75 = .ok (.iload_n 1, 1) := by decide +kernel
theorem dX5_waters_76 : decode cX5_waters 76 = .ok (.iload_n 2, 1) := by decide +kernel
theorem dX5_waters_77 : decode cX5_waters 77 = .ok (.iadd, 1) := by decide +kernel
theorem dX5_waters_78 : decode cX5_waters 78 = .ok (.if_icmp .ge 74, 3) := by decide +kernel
theorem dX5_waters_81 : decode cX5_waters 81 = .ok (.aload_n 0, 1) := by decide +kernel
theorem dX5_waters_82 : decode cX5_waters 82 = .ok (.getfield 52, 3) := by decide +kernel
theorem dX5_waters_85 : decode cX5_waters 85 = .ok (.getfield 162, 3) := by decide +kernel
theorem dX5_waters_88 : decode cX5_waters 88 = .ok (.lstore 10, 2) := by decide +kernel
theorem dX5_waters_90 : decode cX5_waters 90 = .ok (.aload_n 0, 1) := by decide +kernel
theorem dX5_waters_91 : decode cX5_waters 91 = .ok (.getfield 52, 3) := by decide +kernel
theorem dX5_waters_94 : decode cX5_waters 94 = .ok (.aload_n 0, 1) := by decide +kernel
theorem dX5_waters_95 : decode cX5_waters 95 = .ok (.getfield 12, 3) := by decide +kernel
theorem dX5_waters_98 : decode cX5_waters 98 = .ok (.iload 9, 2) := by decide +kernel
theorem dX5_waters_100 : decode cX5_waters 100 = .ok (.iconst 1, 1) := by decide +kernel
theorem dX5_waters_101 : decode cX5_waters 101 = .ok (.iadd, 1) := by decide +kernel
theorem dX5_waters_102 : decode cX5_waters 102 = .ok (.invokevirtual 144, 3) := by decide +kernel
theorem dX5_waters_105 : decode cX5_waters 105 = .ok (.invokevirtual 164, 3) := by decide +kernel
theorem dX5_waters_108 : decode cX5_waters 108 = .ok (.iload 4, 2) := by decide +kernel
theorem dX5_waters_110 : decode cX5_waters 110 = .ok (.if_icmp .ne 36, 3) := by decide +kernel
theorem dX5_waters_113 : decode cX5_waters 113 = .ok (.iinc 5 1, 3) := by decide +kernel
theorem dX5_waters_116 : decode cX5_waters 116 = .ok (.iload 6, 2) := by decide +kernel
theorem dX5_waters_118 : decode cX5_waters 118 = .ok (.iconst (-1), 1) := by decide +kernel
theorem dX5_waters_119 : decode cX5_waters 119 = .ok (.if_icmp .eq 19, 3) := by decide +kernel
theorem dX5_waters_122 : decode cX5_waters 122 = .ok (.iload 4, 2) := by decide +kernel
theorem dX5_waters_124 : decode cX5_waters 124 = .ok (.i2l, 1) := by decide +kernel
theorem dX5_waters_125 : decode cX5_waters 125 = .ok (.lload 10, 2) := by decide +kernel
theorem dX5_waters_127 : decode cX5_waters 127 = .ok (.lmul, 1) := by decide +kernel
theorem dX5_waters_128 : decode cX5_waters 128 = .ok (.iload 4, 2) := by decide +kernel
theorem dX5_waters_130 : decode cX5_waters 130 = .ok (.i2l, 1) := by decide +kernel
theorem dX5_waters_131 : decode cX5_waters 131 = .ok (.lload 7, 2) := by decide +kernel
theorem dX5_waters_133 : decode cX5_waters 133 = .ok (.lmul, 1) := by decide +kernel
theorem dX5_waters_134 : decode cX5_waters 134 = .ok (.lcmp, 1) := by decide +kernel
theorem dX5_waters_135 : decode cX5_waters 135 = .ok (.ifCond .le 11, 3) := by decide +kernel
theorem dX5_waters_138 : decode cX5_waters 138 = .ok (.iload 9, 2) := by decide +kernel
theorem dX5_waters_140 : decode cX5_waters 140 = .ok (.istore 6, 2) := by decide +kernel
theorem dX5_waters_142 : decode cX5_waters 142 = .ok (.lload 10, 2) := by decide +kernel
theorem dX5_waters_144 : decode cX5_waters 144 = .ok (.lstore 7, 2) := by decide +kernel
theorem dX5_waters_146 : decode cX5_waters 146 = .ok (.iinc 9 1, 3) := by decide +kernel
theorem dX5_waters_149 : decode cX5_waters 149 = .ok (.goto (-76), 3) := by decide +kernel
theorem dX5_waters_152 : decode cX5_waters 152 = .ok (.iload_n 3, 1) := by decide +kernel
theorem dX5_waters_153 : decode cX5_waters 153 = .ok (.iconst 2, 1) := by decide +kernel
theorem dX5_waters_154 : decode cX5_waters 154 = .ok (.if_icmp .ge 8, 3) := by decide +kernel
theorem dX5_waters_157 : decode cX5_waters 157 = .ok (.iload 5, 2) := by decide +kernel
theorem dX5_waters_159 : decode cX5_waters 159 = .ok (.goto 5, 3) := by decide +kernel
theorem dX5_waters_162 : decode cX5_waters 162 = .ok (.iload 6, 2) := by decide +kernel
theorem dX5_waters_164 : decode cX5_waters 164 = .ok (.ireturn, 1) := by decide +kernel
theorem dX5_water_0 : decode cX5_water 0 = .ok (.iload_n 1, 1) := by decide +kernel
theorem dX5_water_1 : decode cX5_water 1 = .ok (.invokestatic 148, 3) := by decide +kernel
theorem dX5_water_4 : decode cX5_water 4 = .ok (.ifCond .eq 28, 3) := by decide +kernel
theorem dX5_water_7 : decode cX5_water 7 = .ok (.iload_n 2, 1) := by decide +kernel
theorem dX5_water_8 : decode cX5_water 8 = .ok (.iconst 1, 1) := by decide +kernel
theorem dX5_water_9 : decode cX5_water 9 = .ok (.sipush 2000, 3) := by decide +kernel
theorem dX5_water_12 : decode cX5_water 12 = .ok (.invokestatic 91, 3) := by decide +kernel
theorem dX5_water_15 : decode cX5_water 15 = .ok (.ifCond .eq 17, 3) := by decide +kernel
theorem dX5_water_18 : decode cX5_water 18 = .ok (.iload_n 3, 1) := by decide +kernel
theorem dX5_water_19 : decode cX5_water 19 = .ok (.iconst 0, 1) := by decide +kernel
theorem dX5_water_20 : decode cX5_water 20 = .ok (.iconst 1, 1) := by decide +kernel
theorem dX5_water_21 : decode cX5_water 21 = .ok (.invokestatic 91, 3) := by decide +kernel
theorem dX5_water_24 : decode cX5_water 24 = .ok (.ifCond .eq 8, 3) := by decide +kernel
theorem dX5_water_27 : decode cX5_water 27 = .ok (.iload 4, 2) := by decide +kernel
theorem dX5_water_29 : decode cX5_water 29 = .ok (.ifCond .ge 6, 3) := by decide +kernel
theorem dX5_water_32 : decode cX5_water 32 = .ok (.bipush (-2), 2) := by decide +kernel
theorem dX5_water_34 : decode cX5_water 34 = .ok (.ireturn, 1) := by decide +kernel
theorem dX5_water_35 : decode cX5_water 35 = .ok (.iload_n 3, 1) := by decide +kernel
theorem dX5_water_36 : decode cX5_water 36 = .ok (.ifCond .ne 7, 3) := by decide +kernel
theorem dX5_water_39 : decode cX5_water 39 = .ok (.iconst 1, 1) := by decide +kernel
theorem dX5_water_40 : decode cX5_water 40 = .ok (.goto 4, 3) := by decide +kernel
theorem dX5_water_43 : decode cX5_water 43 = .ok (.iconst (-1), 1) := by decide +kernel
theorem dX5_water_44 : decode cX5_water 44 = .ok (.istore 5, 2) := by decide +kernel
theorem dX5_water_46 : decode cX5_water 46 = .ok (.iconst 0, 1) := by decide +kernel
theorem dX5_water_47 : decode cX5_water 47 = .ok (.istore 6, 2) := by decide +kernel
theorem dX5_water_49 : decode cX5_water 49 = .ok (.aload_n 0, 1) := by decide +kernel
theorem dX5_water_50 : decode cX5_water 50 = .ok (.getfield 52, 3) := by decide +kernel
theorem dX5_water_53 : decode cX5_water 53 = .ok (.aload_n 0, 1) := by decide +kernel
theorem dX5_water_54 : decode cX5_water 54 = .ok (.getfield 12, 3) := by decide +kernel
theorem dX5_water_57 : decode cX5_water 57 = .ok (.iload_n 1, 1) := by decide +kernel
theorem dX5_water_58 : decode cX5_water 58 = .ok (.invokevirtual 144, 3) := by decide +kernel
theorem dX5_water_61 : decode cX5_water 61 = .ok (.invokevirtual 158, 3) := by decide +kernel
theorem dX5_water_64 : decode cX5_water 64 = .ok (.iload_n 1, 1) := by decide +kernel
theorem dX5_water_65 : decode cX5_water 65 = .ok (.istore 7, 2) := by decide +kernel
theorem dX5_water_67 : decode cX5_water 67 = .ok (.iload 7, 2) := by decide +kernel
theorem dX5_water_69 : decode cX5_water 69 = .ok (.iload_n 1, 1) := by decide +kernel
theorem dX5_water_70 : decode cX5_water 70 = .ok (.iload_n 2, 1) := by decide +kernel
theorem dX5_water_71 : decode cX5_water 71 = .ok (.iadd, 1) := by decide +kernel
theorem dX5_water_72 : decode cX5_water 72 = .ok (.if_icmp .ge 45, 3) := by decide +kernel
theorem dX5_water_75 : decode cX5_water 75 = .ok (.aload_n 0, 1) := by decide +kernel
theorem dX5_water_76 : decode cX5_water 76 = .ok (.getfield 52, 3) := by decide +kernel
theorem dX5_water_79 : decode cX5_water 79 = .ok (.aload_n 0, 1) := by decide +kernel
theorem dX5_water_80 : decode cX5_water 80 = .ok (.getfield 12, 3) := by decide +kernel
theorem dX5_water_83 : decode cX5_water 83 = .ok (.iload 7, 2) := by decide +kernel
theorem dX5_water_85 : decode cX5_water 85 = .ok (.iconst 1, 1) := by decide +kernel
theorem dX5_water_86 : decode cX5_water 86 = .ok (.iadd, 1) := by decide +kernel
theorem dX5_water_87 : decode cX5_water 87 = .ok (.invokevirtual 144, 3) := by decide +kernel
theorem dX5_water_90 : decode cX5_water 90 = .ok (.invokevirtual 164, 3) := by decide +kernel
theorem dX5_water_93 : decode cX5_water 93 = .ok (.iload 5, 2) := by decide +kernel
theorem dX5_water_95 : decode cX5_water 95 = .ok (.if_icmp .ne 16, 3) := by decide +kernel
theorem dX5_water_98 : decode cX5_water 98 = .ok (.iload 6, 2) := by decide +kernel
theorem dX5_water_100 : decode cX5_water 100 = .ok (.iload 4, 2) := by decide +kernel
theorem dX5_water_102 : decode cX5_water 102 = .ok (.if_icmp .ne 6, 3) := by decide +kernel
theorem dX5_water_105 : decode cX5_water 105 = .ok (.iload 7, 2) := by decide +kernel
theorem dX5_water_107 : decode cX5_water 107 = .ok (.ireturn, 1) := by decide +kernel
theorem dX5_water_108 : decode cX5_water 108 = .ok (.iinc 6 1, 3) := by decide +kernel
theorem dX5_water_111 : decode cX5_water 111 = .ok (.iinc 7 1, 3) := by decide +kernel
theorem dX5_water_114 : decode cX5_water 114 = .ok (.goto (-47), 3) := by decide +kernel
theorem dX5_water_117 : decode cX5_water 117 = .ok (.iconst (-1), 1) := by decide +kernel
theorem dX5_water_118 : decode cX5_water 118 = .ok (.ireturn, 1) := by decide +kernel
theorem dX5_tells_0 : decode cX5_tells 0 = .ok (.iload_n 1, 1) := by decide +kernel
theorem dX5_tells_1 : decode cX5_tells 1 = .ok (.invokestatic 168, 3) := by decide +kernel
theorem dX5_tells_4 : decode cX5_tells 4 = .ok (.ifCond .eq 19, 3) := by decide +kernel
theorem dX5_tells_7 : decode cX5_tells 7 = .ok (.iload_n 2, 1) := by decide +kernel
theorem dX5_tells_8 : decode cX5_tells 8 = .ok (.invokestatic 148, 3) := by decide +kernel
theorem dX5_tells_11 : decode cX5_tells 11 = .ok (.ifCond .eq 12, 3) := by decide +kernel
theorem dX5_tells_14 : decode cX5_tells 14 = .ok (.iload_n 3, 1) := by decide +kernel
theorem dX5_tells_15 : decode cX5_tells 15 = .ok (.iconst 0, 1) := by decide +kernel
theorem dX5_tells_16 : decode cX5_tells 16 = .ok (.iconst 3, 1) := by decide +kernel
theorem dX5_tells_17 : decode cX5_tells 17 = .ok (.invokestatic 91, 3) := by decide +kernel
theorem dX5_tells_20 : decode cX5_tells 20 = .ok (.ifCond .ne 6, 3) := by decide +kernel
theorem dX5_tells_23 : decode cX5_tells 23 = .ok (.bipush (-2), 2) := by decide +kernel
theorem dX5_tells_25 : decode cX5_tells 25 = .ok (.ireturn, 1) := by decide +kernel
theorem dX5_tells_26 : decode cX5_tells 26 = .ok (.aload_n 0, 1) := by decide +kernel
theorem dX5_tells_27 : decode cX5_tells 27 = .ok (.getfield 27, 3) := by decide +kernel
theorem dX5_tells_30 : decode cX5_tells 30 = .ok (.iload_n 1, 1) := by decide +kernel
theorem dX5_tells_31 : decode cX5_tells 31 = .ok (.aaload, 1) := by decide +kernel
theorem dX5_tells_32 : decode cX5_tells 32 = .ok (.astore 4, 2) := by decide +kernel
theorem dX5_tells_34 : decode cX5_tells 34 = .ok (.aload 4, 2) := by decide +kernel
theorem dX5_tells_36 : decode cX5_tells 36 = .ok (.invokevirtual 171, 3) := by decide +kernel
theorem dX5_tells_39 : decode cX5_tells 39 = .ok (.ifCond .ne 19, 3) := by decide +kernel
theorem dX5_tells_42 : decode cX5_tells 42 = .ok (.aload 4, 2) := by decide +kernel
theorem dX5_tells_44 : decode cX5_tells 44 = .ok (.invokevirtual 175, 3) := by decide +kernel
theorem dX5_tells_47 : decode cX5_tells 47 = .ok (.ifCond .eq 8, 3) := by decide +kernel
theorem dX5_tells_50 : decode cX5_tells 50 = .ok (.bipush (-11), 2) := by decide +kernel
theorem dX5_tells_52 : decode cX5_tells 52 = .ok (.goto 5, 3) := by decide +kernel
theorem dX5_tells_55 : decode cX5_tells 55 = .ok (.bipush (-2), 2) := by decide +kernel
theorem dX5_tells_57 : decode cX5_tells 57 = .ok (.ireturn, 1) := by decide +kernel
theorem dX5_tells_58 : decode cX5_tells 58 = .ok (.iload_n 3, 1) := by decide +kernel
theorem dX5_tells_59 : decode cX5_tells 59 = .ok (.tableswitch 51 0 2 #[25, 33, 42], 25) := by decide +kernel
theorem dX5_tells_84 : decode cX5_tells 84 = .ok (.aload_n 0, 1) := by decide +kernel
theorem dX5_tells_85 : decode cX5_tells 85 = .ok (.aload 4, 2) := by decide +kernel
theorem dX5_tells_87 : decode cX5_tells 87 = .ok (.iload_n 2, 1) := by decide +kernel
theorem dX5_tells_88 : decode cX5_tells 88 = .ok (.invokevirtual 178, 3) := by decide +kernel
theorem dX5_tells_91 : decode cX5_tells 91 = .ok (.ireturn, 1) := by decide +kernel
theorem dX5_tells_92 : decode cX5_tells 92 = .ok (.aload_n 0, 1) := by decide +kernel
theorem dX5_tells_93 : decode cX5_tells 93 = .ok (.iconst 3, 1) := by decide +kernel
theorem dX5_tells_94 : decode cX5_tells 94 = .ok (.aload 4, 2) := by decide +kernel
theorem dX5_tells_96 : decode cX5_tells 96 = .ok (.iload_n 2, 1) := by decide +kernel
theorem dX5_tells_97 : decode cX5_tells 97 = .ok (.invokevirtual 182, 3) := by decide +kernel
theorem dX5_tells_100 : decode cX5_tells 100 = .ok (.ireturn, 1) := by decide +kernel
theorem dX5_tells_101 : decode cX5_tells 101 = .ok (.aload_n 0, 1) := by decide +kernel
theorem dX5_tells_102 : decode cX5_tells 102 = .ok (.iconst 2, 1) := by decide +kernel
theorem dX5_tells_103 : decode cX5_tells 103 = .ok (.aload 4, 2) := by decide +kernel
theorem dX5_tells_105 : decode cX5_tells 105 = .ok (.iload_n 2, 1) := by decide +kernel
theorem dX5_tells_106 : decode cX5_tells 106 = .ok (.invokevirtual 182, 3) := by decide +kernel
theorem dX5_tells_109 : decode cX5_tells 109 = .ok (.ireturn, 1) := by decide +kernel
theorem dX5_tells_110 : decode cX5_tells 110 = .ok (.aload_n 0, 1) := by decide +kernel
theorem dX5_tells_111 : decode cX5_tells 111 = .ok (.iconst 0, 1) := by decide +kernel
theorem dX5_tells_112 : decode cX5_tells 112 = .ok (.aload 4, 2) := by decide +kernel
theorem dX5_tells_114 : decode cX5_tells 114 = .ok (.iload_n 2, 1) := by decide +kernel
theorem dX5_tells_115 : decode cX5_tells 115 = .ok (.invokevirtual 182, 3) := by decide +kernel
theorem dX5_tells_118 : decode cX5_tells 118 = .ok (.ireturn, 1) := by decide +kernel
theorem dX5_refound_0 : decode cX5_refound 0 = .ok (.aload_n 0, 1) := by decide +kernel
theorem dX5_refound_1 : decode cX5_refound 1 = .ok (.getfield 12, 3) := by decide +kernel
theorem dX5_refound_4 : decode cX5_refound 4 = .ok (.iload_n 2, 1) := by decide +kernel
theorem dX5_refound_5 : decode cX5_refound 5 = .ok (.invokevirtual 69, 3) := by decide +kernel
theorem dX5_refound_8 : decode cX5_refound 8 = .ok (.astore 6, 2) := by decide +kernel
theorem dX5_refound_10 : decode cX5_refound 10 = .ok (.iload_n 1, 1) := by decide +kernel
theorem dX5_refound_11 : decode cX5_refound 11 = .ok (.invokestatic 168, 3) := by decide +kernel
theorem dX5_refound_14 : decode cX5_refound 14 = .ok (.ifCond .eq 37, 3) := by decide +kernel
theorem dX5_refound_17 : decode cX5_refound 17 = .ok (.aload 6, 2) := by decide +kernel
theorem dX5_refound_19 : decode cX5_refound 19 = .ok (.ifnull 32, 3) := by decide +kernel
theorem dX5_refound_22 : decode cX5_refound 22 = .ok (.iload_n 3, 1) := by decide +kernel
theorem dX5_refound_23 : decode cX5_refound 23 = .ok (.invokestatic 148, 3) := by decide +kernel
theorem dX5_refound_26 : decode cX5_refound 26 = .ok (.ifCond .eq 25, 3) := by decide +kernel
theorem dX5_refound_29 : decode cX5_refound 29 = .ok (.iload 4, 2) := by decide +kernel
theorem dX5_refound_31 : decode cX5_refound 31 = .ok (.iconst 1, 1) := by decide +kernel
theorem dX5_refound_32 : decode cX5_refound 32 = .ok (.sipush 200, 3) := by decide +kernel
theorem dX5_refound_35 : decode cX5_refound 35 = .ok (.invokestatic 91, 3) := by decide +kernel
theorem dX5_refound_38 : decode cX5_refound 38 = .ok (.ifCond .eq 13, 3) := by decide +kernel
theorem dX5_refound_41 : decode cX5_refound 41 = .ok (.iload 5, 2) := by decide +kernel
theorem dX5_refound_43 : decode cX5_refound 43 = .ok (.iconst 0, 1) := by decide +kernel
theorem dX5_refound_44 : decode cX5_refound 44 = .ok (.iconst 1, 1) := by decide +kernel
theorem dX5_refound_45 : decode cX5_refound 45 = .ok (.invokestatic 91, 3) := by decide +kernel
theorem dX5_refound_48 : decode cX5_refound 48 = .ok (.ifCond .ne 6, 3) := by decide +kernel
theorem dX5_refound_51 : decode cX5_refound 51 = .ok (.bipush (-2), 2) := by decide +kernel
theorem dX5_refound_53 : decode cX5_refound 53 = .ok (.ireturn, 1) := by decide +kernel
theorem dX5_refound_54 : decode cX5_refound 54 = .ok (.aload_n 0, 1) := by decide +kernel
theorem dX5_refound_55 : decode cX5_refound 55 = .ok (.getfield 27, 3) := by decide +kernel
theorem dX5_refound_58 : decode cX5_refound 58 = .ok (.iload_n 1, 1) := by decide +kernel
theorem dX5_refound_59 : decode cX5_refound 59 = .ok (.aaload, 1) := by decide +kernel
theorem dX5_refound_60 : decode cX5_refound 60 = .ok (.astore 7, 2) := by decide +kernel
theorem dX5_refound_62 : decode cX5_refound 62 = .ok (.aload 7, 2) := by decide +kernel
theorem dX5_refound_64 : decode cX5_refound 64 = .ok (.invokevirtual 171, 3) := by decide +kernel
theorem dX5_refound_67 : decode cX5_refound 67 = .ok (.ifCond .ne 19, 3) := by decide +kernel
theorem dX5_refound_70 : decode cX5_refound 70 = .ok (.aload 7, 2) := by decide +kernel
theorem dX5_refound_72 : decode cX5_refound 72 = .ok (.invokevirtual 175, 3) := by decide +kernel
theorem dX5_refound_75 : decode cX5_refound 75 = .ok (.ifCond .eq 8, 3) := by decide +kernel
theorem dX5_refound_78 : decode cX5_refound 78 = .ok (.bipush (-11), 2) := by decide +kernel
theorem dX5_refound_80 : decode cX5_refound 80 = .ok (.goto 5, 3) := by decide +kernel
theorem dX5_refound_83 : decode cX5_refound 83 = .ok (.bipush (-2), 2) := by decide +kernel
theorem dX5_refound_85 : decode cX5_refound 85 = .ok (.ireturn, 1) := by decide +kernel
theorem dX5_refound_86 : decode cX5_refound 86 = .ok (.aload_n 0, 1) := by decide +kernel
theorem dX5_refound_87 : decode cX5_refound 87 = .ok (.aload 6, 2) := by decide +kernel
theorem dX5_refound_89 : decode cX5_refound 89 = .ok (.iload_n 3, 1) := by decide +kernel
theorem dX5_refound_90 : decode cX5_refound 90 = .ok (.iload 4, 2) := by decide +kernel
theorem dX5_refound_92 : decode cX5_refound 92 = .ok (.iconst 1, 1) := by decide +kernel
theorem dX5_refound_93 : decode cX5_refound 93 = .ok (.iadd, 1) := by decide +kernel
theorem dX5_refound_94 : decode cX5_refound 94 = .ok (.invokevirtual 186, 3) := by decide +kernel
theorem dX5_refound_97 : decode cX5_refound 97 = .ok (.iconst 0, 1) := by decide +kernel
theorem dX5_refound_98 : decode cX5_refound 98 = .ok (.istore 8, 2) := by decide +kernel
theorem dX5_refound_100 : decode cX5_refound 100 = .ok (.iconst (-1), 1) := by decide +kernel
theorem dX5_refound_101 : decode cX5_refound 101 = .ok (.istore 9, 2) := by decide +kernel
theorem dX5_refound_103 : decode cX5_refound 103 = .ok (.getstatic 190, 3) := by decide +kernel
theorem dX5_refound_106 : decode cX5_refound 106 = .ok (.iconst 3, 1) := by decide +kernel
theorem dX5_refound_107 : decode cX5_refound 107 = .ok (.iaload, 1) := by decide +kernel
theorem dX5_refound_108 : decode cX5_refound 108 = .ok (.istore 10, 2) := by decide +kernel
theorem dX5_refound_110 : decode cX5_refound 110 = .ok (.iload 10, 2) := by decide +kernel
theorem dX5_refound_112 : decode cX5_refound 112 = .ok (.ifCond .lt 39, 3) := by decide +kernel
theorem dX5_refound_115 : decode cX5_refound 115 = .ok (.aload_n 0, 1) := by decide +kernel
theorem dX5_refound_116 : decode cX5_refound 116 = .ok (.getfield 41, 3) := by decide +kernel
theorem dX5_refound_119 : decode cX5_refound 119 = .ok (.getfield 102, 3) := by decide +kernel
theorem dX5_refound_122 : decode cX5_refound 122 = .ok (.iconst 3, 1) := by decide +kernel
theorem dX5_refound_123 : decode cX5_refound 123 = .ok (.iload 10, 2) := by decide +kernel
theorem dX5_refound_125 : decode cX5_refound 125 = .ok (.iastore, 1) := by decide +kernel
theorem dX5_refound_126 : decode cX5_refound 126 = .ok (.aload_n 0, 1) := by decide +kernel
theorem dX5_refound_127 : decode cX5_refound 127 = .ok (.aload 7, 2) := by decide +kernel
theorem dX5_refound_129 : decode cX5_refound 129 = .ok (.iload_n 3, 1) := by decide +kernel
theorem dX5_refound_130 : decode cX5_refound 130 = .ok (.iload 4, 2) := by decide +kernel
theorem dX5_refound_132 : decode cX5_refound 132 = .ok (.invokevirtual 193, 3) := by decide +kernel
theorem dX5_refound_135 : decode cX5_refound 135 = .ok (.ifCond .eq 10, 3) := by decide +kernel
theorem dX5_refound_138 : decode cX5_refound 138 = .ok (.iinc 8 1, 3) := by decide +kernel
theorem dX5_refound_141 : decode cX5_refound 141 = .ok (.iload 10, 2) := by decide +kernel
theorem dX5_refound_143 : decode cX5_refound 143 = .ok (.istore 9, 2) := by decide +kernel
theorem dX5_refound_145 : decode cX5_refound 145 = .ok (.iinc 10 (-1), 3) := by decide +kernel
theorem dX5_refound_148 : decode cX5_refound 148 = .ok (.goto (-38), 3) := by decide +kernel
theorem dX5_refound_151 : decode cX5_refound 151 = .ok (.iload 5, 2) := by decide +kernel
theorem dX5_refound_153 : decode cX5_refound 153 = .ok (.ifCond .ne 8, 3) := by decide +kernel
theorem dX5_refound_156 : decode cX5_refound 156 = .ok (.iload 8, 2) := by decide +kernel
theorem dX5_refound_158 : decode cX5_refound 158 = .ok (.goto 5, 3) := by decide +kernel
theorem dX5_refound_161 : decode cX5_refound 161 = .ok (.iload 9, 2) := by decide +kernel
theorem dX5_refound_163 : decode cX5_refound 163 = .ok (.ireturn, 1) := by decide +kernel
theorem dX5_film_0 : decode cX5_film 0 = .ok (.iload_n 1, 1) := by decide +kernel
theorem dX5_film_1 : decode cX5_film 1 = .ok (.invokestatic 168, 3) := by decide +kernel
theorem dX5_film_4 : decode cX5_film 4 = .ok (.ifCond .eq 20, 3) := by decide +kernel
theorem dX5_film_7 : decode cX5_film 7 = .ok (.iload_n 2, 1) := by decide +kernel
theorem dX5_film_8 : decode cX5_film 8 = .ok (.invokestatic 148, 3) := by decide +kernel
theorem dX5_film_11 : decode cX5_film 11 = .ok (.ifCond .eq 13, 3) := by decide +kernel
theorem dX5_film_14 : decode cX5_film 14 = .ok (.iload_n 3, 1) := by decide +kernel
theorem dX5_film_15 : decode cX5_film 15 = .ok (.iconst 0, 1) := by decide +kernel
theorem dX5_film_16 : decode cX5_film 16 = .ok (.bipush 40, 2) := by decide +kernel
theorem dX5_film_18 : decode cX5_film 18 = .ok (.invokestatic 91, 3) := by decide +kernel
theorem dX5_film_21 : decode cX5_film 21 = .ok (.ifCond .ne 6, 3) := by decide +kernel
theorem dX5_film_24 : decode cX5_film 24 = .ok (.bipush (-2), 2) := by decide +kernel
theorem dX5_film_26 : decode cX5_film 26 = .ok (.ireturn, 1) := by decide +kernel
theorem dX5_film_27 : decode cX5_film 27 = .ok (.aload_n 0, 1) := by decide +kernel
theorem dX5_film_28 : decode cX5_film 28 = .ok (.getfield 27, 3) := by decide +kernel
theorem dX5_film_31 : decode cX5_film 31 = .ok (.iload_n 1, 1) := by decide +kernel
theorem dX5_film_32 : decode cX5_film 32 = .ok (.aaload, 1) := by decide +kernel
theorem dX5_film_33 : decode cX5_film 33 = .ok (.astore 4, 2) := by decide +kernel
theorem dX5_film_35 : decode cX5_film 35 = .ok (.aload 4, 2) := by decide +kernel
theorem dX5_film_37 : decode cX5_film 37 = .ok (.iconst 0, 1) := by decide +kernel
theorem dX5_film_38 : decode cX5_film 38 = .ok (.iload_n 3, 1) := by decide +kernel
theorem dX5_film_39 : decode cX5_film 39 = .ok (.invokevirtual 197, 3) := by decide +kernel
theorem dX5_film_42 : decode cX5_film 42 = .ok (.iconst 0, 1) := by decide +kernel
theorem dX5_film_43 : decode cX5_film 43 = .ok (.istore 5, 2) := by decide +kernel
theorem dX5_film_45 : decode cX5_film 45 = .ok (.iload 5, 2) := by decide +kernel
theorem dX5_film_47 : decode cX5_film 47 = .ok (.iload_n 3, 1) := by decide +kernel
theorem dX5_film_48 : decode cX5_film 48 = .ok (.if_icmp .ge 27, 3) := by decide +kernel
theorem dX5_film_51 : decode cX5_film 51 = .ok (.aload 4, 2) := by decide +kernel
theorem dX5_film_53 : decode cX5_film 53 = .ok (.iload 5, 2) := by decide +kernel
theorem dX5_film_55 : decode cX5_film 55 = .ok (.aload_n 0, 1) := by decide +kernel
theorem dX5_film_56 : decode cX5_film 56 = .ok (.getfield 12, 3) := by decide +kernel
theorem dX5_film_59 : decode cX5_film 59 = .ok (.iload_n 2, 1) := by decide +kernel
theorem dX5_film_60 : decode cX5_film 60 = .ok (.iload 5, 2) := by decide +kernel
theorem dX5_film_62 : decode cX5_film 62 = .ok (.iadd, 1) := by decide +kernel
theorem dX5_film_63 : decode cX5_film 63 = .ok (.invokevirtual 144, 3) := by decide +kernel
theorem dX5_film_66 : decode cX5_film 66 = .ok (.invokevirtual 201, 3) := by decide +kernel
theorem dX5_film_69 : decode cX5_film 69 = .ok (.iinc 5 1, 3) := by decide +kernel
theorem dX5_film_72 : decode cX5_film 72 = .ok (.goto (-27), 3) := by decide +kernel
theorem dX5_film_75 : decode cX5_film 75 = .ok (.iload_n 3, 1) := by decide +kernel
theorem dX5_film_76 : decode cX5_film 76 = .ok (.ireturn, 1) := by decide +kernel
theorem dX5_nearest_0 : decode cX5_nearest 0 = .ok (.iload_n 1, 1) := by decide +kernel
theorem dX5_nearest_1 : decode cX5_nearest 1 = .ok (.iconst 1, 1) := by decide +kernel
theorem dX5_nearest_2 : decode cX5_nearest 2 = .ok (.sipush 9999, 3) := by decide +kernel
theorem dX5_nearest_5 : decode cX5_nearest 5 = .ok (.invokestatic 91, 3) := by decide +kernel
theorem dX5_nearest_8 : decode cX5_nearest 8 = .ok (.ifCond .eq 14, 3) := by decide +kernel
theorem dX5_nearest_11 : decode cX5_nearest 11 = .ok (.iload_n 2, 1) := by decide +kernel
theorem dX5_nearest_12 : decode cX5_nearest 12 = .ok (.iconst 1, 1) := by decide +kernel
theorem dX5_nearest_13 : decode cX5_nearest 13 = .ok (.sipush 9999, 3) := by decide +kernel
theorem dX5_nearest_16 : decode cX5_nearest 16 = .ok (.invokestatic 91, 3) := by decide +kernel
theorem dX5_nearest_19 : decode cX5_nearest 19 = .ok (.ifCond .ne 6, 3) := by decide +kernel
theorem dX5_nearest_22 : decode cX5_nearest 22 = .ok (.bipush (-2), 2) := by decide +kernel
theorem dX5_nearest_24 : decode cX5_nearest 24 = .ok (.ireturn, 1) := by decide +kernel
theorem dX5_nearest_25 : decode cX5_nearest 25 = .ok (.iconst 0, 1) := by decide +kernel
theorem dX5_nearest_26 : decode cX5_nearest 26 = .ok (.istore_n 3, 1) := by decide +kernel
theorem dX5_nearest_27 : decode cX5_nearest 27 = .ok (.iconst 0, 1) := by decide +kernel
theorem dX5_nearest_28 : decode cX5_nearest 28 = .ok (.istore 4, 2) := by decide +kernel
theorem dX5_nearest_30 : decode cX5_nearest 30 = .ok (.lconst 0, 1) := by decide +kernel
theorem dX5_nearest_31 : decode cX5_nearest 31 = .ok (.lstore 5, 2) := by decide +kernel
theorem dX5_nearest_33 : decode cX5_nearest 33 = .ok (.bipush 8, 2) := by decide +kernel
theorem dX5_nearest_35 : decode cX5_nearest 35 = .ok (.istore 7, 2) := by decide +kernel
theorem dX5_nearest_37 : decode cX5_nearest 37 = .ok (.iload 7, 2) := by decide +kernel
theorem dX5_nearest_39 : decode cX5_nearest 39 = .ok (.sipush 200, 3) := by decide +kernel
theorem dX5_nearest_42 : decode cX5_nearest 42 = .ok (.if_icmp .gt 86, 3) := by decide +kernel
theorem dX5_nearest_45 : decode cX5_nearest 45 = .ok (.bipush 8, 2) := by decide +kernel
theorem dX5_nearest_47 : decode cX5_nearest 47 = .ok (.istore 8, 2) := by decide +kernel
theorem dX5_nearest_49 : decode cX5_nearest 49 = .ok (.iload 8, 2) := by decide +kernel
theorem dX5_nearest_51 : decode cX5_nearest 51 = .ok (.sipush 200, 3) := by decide +kernel
theorem dX5_nearest_54 : decode cX5_nearest 54 = .ok (.if_icmp .gt 68, 3) := by decide +kernel
theorem dX5_nearest_57 : decode cX5_nearest 57 = .ok (.iload 7, 2) := by decide +kernel
theorem dX5_nearest_59 : decode cX5_nearest 59 = .ok (.i2l, 1) := by decide +kernel
theorem dX5_nearest_60 : decode cX5_nearest 60 = .ok (.iload_n 2, 1) := by decide +kernel
theorem dX5_nearest_61 : decode cX5_nearest 61 = .ok (.i2l, 1) := by decide +kernel
theorem dX5_nearest_62 : decode cX5_nearest 62 = .ok (.lmul, 1) := by decide +kernel
theorem dX5_nearest_63 : decode cX5_nearest 63 = .ok (.iload_n 1, 1) := by decide +kernel
theorem dX5_nearest_64 : decode cX5_nearest 64 = .ok (.i2l, 1) := by decide +kernel
theorem dX5_nearest_65 : decode cX5_nearest 65 = .ok (.iload 8, 2) := by decide +kernel
theorem dX5_nearest_67 : decode cX5_nearest 67 = .ok (.i2l, 1) := by decide +kernel
theorem dX5_nearest_68 : decode cX5_nearest 68 = .ok (.lmul, 1) := by decide +kernel
theorem dX5_nearest_69 : decode cX5_nearest 69 = .ok (.lsub, 1) := by decide +kernel
theorem dX5_nearest_70 : decode cX5_nearest 70 = .ok (.invokestatic 205, 3) := by decide +kernel
theorem dX5_nearest_73 : decode cX5_nearest 73 = .ok (.lstore 9, 2) := by decide +kernel
theorem dX5_nearest_75 : decode cX5_nearest 75 = .ok (.iload 7, 2) := by decide +kernel
theorem dX5_nearest_77 : decode cX5_nearest 77 = .ok (.iload 8, 2) := by decide +kernel
theorem dX5_nearest_79 : decode cX5_nearest 79 = .ok (.invokestatic 123, 3) := by decide +kernel
theorem dX5_nearest_82 : decode cX5_nearest 82 = .ok (.ifCond .ne 34, 3) := by decide +kernel
theorem dX5_nearest_85 : decode cX5_nearest 85 = .ok (.iload_n 3, 1) := by decide +kernel
theorem dX5_nearest_86 : decode cX5_nearest 86 = .ok (.ifCond .eq 19, 3) := by decide +kernel
theorem dX5_nearest_89 : decode cX5_nearest 89 = .ok (.lload 9, 2) := by decide +kernel
theorem dX5_nearest_91 : decode cX5_nearest 91 = .ok (.iload 4, 2) := by decide +kernel
theorem dX5_nearest_93 : decode cX5_nearest 93 = .ok (.i2l, 1) := by decide +kernel
theorem dX5_nearest_94 : decode cX5_nearest 94 = .ok (.lmul, 1) := by decide +kernel
theorem dX5_nearest_95 : decode cX5_nearest 95 = .ok (.lload 5, 2) := by decide +kernel
theorem dX5_nearest_97 : decode cX5_nearest 97 = .ok (.iload 8, 2) := by decide +kernel
theorem dX5_nearest_99 : decode cX5_nearest 99 = .ok (.i2l, 1) := by decide +kernel
theorem dX5_nearest_100 : decode cX5_nearest 100 = .ok (.lmul, 1) := by decide +kernel
theorem dX5_nearest_101 : decode cX5_nearest 101 = .ok (.lcmp, 1) := by decide +kernel
theorem dX5_nearest_102 : decode cX5_nearest 102 = .ok (.ifCond .ge 14, 3) := by decide +kernel
theorem dX5_nearest_105 : decode cX5_nearest 105 = .ok (.iload 7, 2) := by decide +kernel
theorem dX5_nearest_107 : decode cX5_nearest 107 = .ok (.istore_n 3, 1) := by decide +kernel
theorem dX5_nearest_108 : decode cX5_nearest 108 = .ok (.iload 8, 2) := by decide +kernel
theorem dX5_nearest_110 : decode cX5_nearest 110 = .ok (.istore 4, 2) := by decide +kernel
theorem dX5_nearest_112 : decode cX5_nearest 112 = .ok (.lload 9, 2) := by decide +kernel
theorem dX5_nearest_114 : decode cX5_nearest 114 = .ok (.lstore 5, 2) := by decide +kernel
theorem dX5_nearest_116 : decode cX5_nearest 116 = .ok (.iinc 8 1, 3) := by decide +kernel
theorem dX5_nearest_119 : decode cX5_nearest 119 = .ok (.goto (-70), 3) := by decide +kernel
theorem dX5_nearest_122 : decode cX5_nearest 122 = .ok (.iinc 7 1, 3) := by decide +kernel
theorem dX5_nearest_125 : decode cX5_nearest 125 = .ok (.goto (-88), 3) := by decide +kernel
theorem dX5_nearest_128 : decode cX5_nearest 128 = .ok (.sipush 1000, 3) := by decide +kernel
theorem dX5_nearest_131 : decode cX5_nearest 131 = .ok (.iload_n 3, 1) := by decide +kernel
theorem dX5_nearest_132 : decode cX5_nearest 132 = .ok (.imul, 1) := by decide +kernel
theorem dX5_nearest_133 : decode cX5_nearest 133 = .ok (.iload 4, 2) := by decide +kernel
theorem dX5_nearest_135 : decode cX5_nearest 135 = .ok (.iadd, 1) := by decide +kernel
theorem dX5_nearest_136 : decode cX5_nearest 136 = .ok (.ireturn, 1) := by decide +kernel
theorem dX5_off_0 : decode cX5_off 0 = .ok (.aload_n 0, 1) := by decide +kernel
theorem dX5_off_1 : decode cX5_off 1 = .ok (.getfield 12, 3) := by decide +kernel
theorem dX5_off_4 : decode cX5_off 4 = .ok (.iload_n 1, 1) := by decide +kernel
theorem dX5_off_5 : decode cX5_off 5 = .ok (.invokevirtual 69, 3) := by decide +kernel
theorem dX5_off_8 : decode cX5_off 8 = .ok (.astore 5, 2) := by decide +kernel
theorem dX5_off_10 : decode cX5_off 10 = .ok (.iload_n 2, 1) := by decide +kernel
theorem dX5_off_11 : decode cX5_off 11 = .ok (.sipush 10000, 3) := by decide +kernel
theorem dX5_off_14 : decode cX5_off 14 = .ok (.idiv, 1) := by decide +kernel
theorem dX5_off_15 : decode cX5_off 15 = .ok (.istore 6, 2) := by decide +kernel
theorem dX5_off_17 : decode cX5_off 17 = .ok (.iload_n 2, 1) := by decide +kernel
theorem dX5_off_18 : decode cX5_off 18 = .ok (.sipush 10000, 3) := by decide +kernel
theorem dX5_off_21 : decode cX5_off 21 = .ok (.irem, 1) := by decide +kernel
theorem dX5_off_22 : decode cX5_off 22 = .ok (.istore 7, 2) := by decide +kernel
theorem dX5_off_24 : decode cX5_off 24 = .ok (.aload 5, 2) := by decide +kernel
theorem dX5_off_26 : decode cX5_off 26 = .ok (.ifnull 27, 3) := by decide +kernel
theorem dX5_off_29 : decode cX5_off 29 = .ok (.iload 6, 2) := by decide +kernel
theorem dX5_off_31 : decode cX5_off 31 = .ok (.iconst 1, 1) := by decide +kernel
theorem dX5_off_32 : decode cX5_off 32 = .ok (.sipush 9999, 3) := by decide +kernel
theorem dX5_off_35 : decode cX5_off 35 = .ok (.invokestatic 91, 3) := by decide +kernel
theorem dX5_off_38 : decode cX5_off 38 = .ok (.ifCond .eq 15, 3) := by decide +kernel
theorem dX5_off_41 : decode cX5_off 41 = .ok (.iload 7, 2) := by decide +kernel
theorem dX5_off_43 : decode cX5_off 43 = .ok (.iconst 1, 1) := by decide +kernel
theorem dX5_off_44 : decode cX5_off 44 = .ok (.sipush 9999, 3) := by decide +kernel
theorem dX5_off_47 : decode cX5_off 47 = .ok (.invokestatic 91, 3) := by decide +kernel
theorem dX5_off_50 : decode cX5_off 50 = .ok (.ifCond .ne 7, 3) := by decide +kernel
theorem dX5_off_53 : decode cX5_off 53 = .ok (.ldc2_w 131, 3) := by decide +kernel
theorem dX5_off_56 : decode cX5_off 56 = .ok (.lreturn, 1) := by decide +kernel
theorem dX5_off_57 : decode cX5_off 57 = .ok (.iload_n 3, 1) := by decide +kernel
theorem dX5_off_58 : decode cX5_off 58 = .ok (.iconst 0, 1) := by decide +kernel
theorem dX5_off_59 : decode cX5_off 59 = .ok (.sipush 9999, 3) := by decide +kernel
theorem dX5_off_62 : decode cX5_off 62 = .ok (.invokestatic 91, 3) := by decide +kernel
theorem dX5_off_65 : decode cX5_off 65 = .ok (.ifCond .eq 13, 3) := by decide +kernel
theorem dX5_off_68 : decode cX5_off 68 = .ok (.iload 4, 2) := by decide +kernel
theorem dX5_off_70 : decode cX5_off 70 = .ok (.iconst 0, 1) := by decide +kernel
theorem dX5_off_71 : decode cX5_off 71 = .ok (.iconst 1, 1) := by decide +kernel
theorem dX5_off_72 : decode cX5_off 72 = .ok (.invokestatic 91, 3) := by decide +kernel
theorem dX5_off_75 : decode cX5_off 75 = .ok (.ifCond .ne 7, 3) := by decide +kernel
theorem dX5_off_78 : decode cX5_off 78 = .ok (.ldc2_w 131, 3) := by decide +kernel
theorem dX5_off_81 : decode cX5_off 81 = .ok (.lreturn, 1) := by decide +kernel
theorem dX5_off_82 : decode cX5_off 82 = .ok (.aload 5, 2) := by decide +kernel
theorem dX5_off_84 : decode cX5_off 84 = .ok (.getfield 133, 3) := by decide +kernel
theorem dX5_off_87 : decode cX5_off 87 = .ok (.iload 7, 2) := by decide +kernel
theorem dX5_off_89 : decode cX5_off 89 = .ok (.i2l, 1) := by decide +kernel
theorem dX5_off_90 : decode cX5_off 90 = .ok (.lmul, 1) := by decide +kernel
theorem dX5_off_91 : decode cX5_off 91 = .ok (.aload 5, 2) := by decide +kernel
theorem dX5_off_93 : decode cX5_off 93 = .ok (.getfield 137, 3) := by decide +kernel
theorem dX5_off_96 : decode cX5_off 96 = .ok (.iload 6, 2) := by decide +kernel
theorem dX5_off_98 : decode cX5_off 98 = .ok (.i2l, 1) := by decide +kernel
theorem dX5_off_99 : decode cX5_off 99 = .ok (.lmul, 1) := by decide +kernel
theorem dX5_off_100 : decode cX5_off 100 = .ok (.lsub, 1) := by decide +kernel
theorem dX5_off_101 : decode cX5_off 101 = .ok (.iload_n 3, 1) := by decide +kernel
theorem dX5_off_102 : decode cX5_off 102 = .ok (.i2l, 1) := by decide +kernel
theorem dX5_off_103 : decode cX5_off 103 = .ok (.lmul, 1) := by decide +kernel
theorem dX5_off_104 : decode cX5_off 104 = .ok (.aload 5, 2) := by decide +kernel
theorem dX5_off_106 : decode cX5_off 106 = .ok (.getfield 137, 3) := by decide +kernel
theorem dX5_off_109 : decode cX5_off 109 = .ok (.iload 7, 2) := by decide +kernel
theorem dX5_off_111 : decode cX5_off 111 = .ok (.i2l, 1) := by decide +kernel
theorem dX5_off_112 : decode cX5_off 112 = .ok (.lmul, 1) := by decide +kernel
theorem dX5_off_113 : decode cX5_off 113 = .ok (.iload 4, 2) := by decide +kernel
theorem dX5_off_115 : decode cX5_off 115 = .ok (.invokestatic 209, 3) := by decide +kernel
theorem dX5_off_118 : decode cX5_off 118 = .ok (.lreturn, 1) := by decide +kernel
theorem dX5_alike_0 : decode cX5_alike 0 = .ok (.iload_n 1, 1) := by decide +kernel
theorem dX5_alike_1 : decode cX5_alike 1 = .ok (.iconst (-1), 1) := by decide +kernel
theorem dX5_alike_2 : decode cX5_alike 2 = .ok (.if_icmp .ne 11, 3) := by decide +kernel
theorem dX5_alike_5 : decode cX5_alike 5 = .ok (.aload_n 0, 1) := by decide +kernel
theorem dX5_alike_6 : decode cX5_alike 6 = .ok (.getfield 12, 3) := by decide +kernel
theorem dX5_alike_9 : decode cX5_alike 9 = .ok (.invokevirtual 213, 3) := by decide +kernel
theorem dX5_alike_12 : decode cX5_alike 12 = .ok (.ireturn, 1) := by decide +kernel
theorem dX5_alike_13 : decode cX5_alike 13 = .ok (.aload_n 0, 1) := by decide +kernel
theorem dX5_alike_14 : decode cX5_alike 14 = .ok (.getfield 12, 3) := by decide +kernel
theorem dX5_alike_17 : decode cX5_alike 17 = .ok (.iload_n 1, 1) := by decide +kernel
theorem dX5_alike_18 : decode cX5_alike 18 = .ok (.invokevirtual 69, 3) := by decide +kernel
theorem dX5_alike_21 : decode cX5_alike 21 = .ok (.astore_n 2, 1) := by decide +kernel
theorem dX5_alike_22 : decode cX5_alike 22 = .ok (.aload_n 2, 1) := by decide +kernel
theorem dX5_alike_23 : decode cX5_alike 23 = .ok (.ifnonnull 8, 3) := by decide +kernel
theorem dX5_alike_26 : decode cX5_alike 26 = .ok (.bipush (-2), 2) := by decide +kernel
theorem dX5_alike_28 : decode cX5_alike 28 = .ok (.goto 11, 3) := by decide +kernel
theorem dX5_alike_31 : decode cX5_alike 31 = .ok (.aload_n 0, 1) := by decide +kernel
theorem dX5_alike_32 : decode cX5_alike 32 = .ok (.getfield 12, 3) := by decide +kernel
theorem dX5_alike_35 : decode cX5_alike 35 = .ok (.aload_n 2, 1) := by decide +kernel
theorem dX5_alike_36 : decode cX5_alike 36 = .ok (.invokevirtual 216, 3) := by decide +kernel
theorem dX5_alike_39 : decode cX5_alike 39 = .ok (.ireturn, 1) := by decide +kernel
theorem dX5_drawn_0 : decode cX5_drawn 0 = .ok (.iload_n 2, 1) := by decide +kernel
theorem dX5_drawn_1 : decode cX5_drawn 1 = .ok (.invokestatic 148, 3) := by decide +kernel
theorem dX5_drawn_4 : decode cX5_drawn 4 = .ok (.ifCond .eq 12, 3) := by decide +kernel
theorem dX5_drawn_7 : decode cX5_drawn 7 = .ok (.aload_n 0, 1) := by decide +kernel
theorem dX5_drawn_8 : decode cX5_drawn 8 = .ok (.iload_n 1, 1) := by decide +kernel
theorem dX5_drawn_9 : decode cX5_drawn 9 = .ok (.iload_n 2, 1) := by decide +kernel
theorem dX5_drawn_10 : decode cX5_drawn 10 = .ok (.invokevirtual 220, 3) := by decide +kernel
theorem dX5_drawn_13 : decode cX5_drawn 13 = .ok (.goto 6, 3) := by decide +kernel
theorem dX5_drawn_16 : decode cX5_drawn 16 = .ok (.ldc2_w 131, 3) := by decide +kernel
theorem dX5_drawn_19 : decode cX5_drawn 19 = .ok (.lreturn, 1) := by decide +kernel
theorem dX5_chance_0 : decode cX5_chance 0 = .ok (.iload_n 2, 1) := by decide +kernel
theorem dX5_chance_1 : decode cX5_chance 1 = .ok (.iconst 1, 1) := by decide +kernel
theorem dX5_chance_2 : decode cX5_chance 2 = .ok (.bipush 20, 2) := by decide +kernel
theorem dX5_chance_4 : decode cX5_chance 4 = .ok (.invokestatic 91, 3) := by decide +kernel
theorem dX5_chance_7 : decode cX5_chance 7 = .ok (.ifCond .eq 20, 3) := by decide +kernel
theorem dX5_chance_10 : decode cX5_chance 10 = .ok (.iload_n 3, 1) := by decide +kernel
theorem dX5_chance_11 : decode cX5_chance 11 = .ok (.invokestatic 148, 3) := by decide +kernel
theorem dX5_chance_14 : decode cX5_chance 14 = .ok (.ifCond .eq 13, 3) := by decide +kernel
theorem dX5_chance_17 : decode cX5_chance 17 = .ok (.iload 5, 2) := by decide +kernel
theorem dX5_chance_19 : decode cX5_chance 19 = .ok (.iconst 0, 1) := by decide +kernel
theorem dX5_chance_20 : decode cX5_chance 20 = .ok (.iconst 1, 1) := by decide +kernel
theorem dX5_chance_21 : decode cX5_chance 21 = .ok (.invokestatic 91, 3) := by decide +kernel
theorem dX5_chance_24 : decode cX5_chance 24 = .ok (.ifCond .ne 6, 3) := by decide +kernel
theorem dX5_chance_27 : decode cX5_chance 27 = .ok (.bipush (-2), 2) := by decide +kernel
theorem dX5_chance_29 : decode cX5_chance 29 = .ok (.ireturn, 1) := by decide +kernel
theorem dX5_chance_30 : decode cX5_chance 30 = .ok (.iconst 0, 1) := by decide +kernel
theorem dX5_chance_31 : decode cX5_chance 31 = .ok (.istore 6, 2) := by decide +kernel
theorem dX5_chance_33 : decode cX5_chance 33 = .ok (.iconst 0, 1) := by decide +kernel
theorem dX5_chance_34 : decode cX5_chance 34 = .ok (.istore 7, 2) := by decide +kernel
theorem dX5_chance_36 : decode cX5_chance 36 = .ok (.iload 7, 2) := by decide +kernel
theorem dX5_chance_38 : decode cX5_chance 38 = .ok (.iload_n 2, 1) := by decide +kernel
theorem dX5_chance_39 : decode cX5_chance 39 = .ok (.if_icmp .ge 28, 3) := by decide +kernel
theorem dX5_chance_42 : decode cX5_chance 42 = .ok (.aload_n 0, 1) := by decide +kernel
theorem dX5_chance_43 : decode cX5_chance 43 = .ok (.iload_n 1, 1) := by decide +kernel
theorem dX5_chance_44 : decode cX5_chance 44 = .ok (.iload 7, 2) := by decide +kernel
theorem dX5_chance_46 : decode cX5_chance 46 = .ok (.iadd, 1) := by decide +kernel
theorem dX5_chance_47 : decode cX5_chance 47 = .ok (.iload_n 3, 1) := by decide +kernel
theorem dX5_chance_48 : decode cX5_chance 48 = .ok (.invokevirtual 220, 3) := by decide +kernel
theorem dX5_chance_51 : decode cX5_chance 51 = .ok (.iload 4, 2) := by decide +kernel
theorem dX5_chance_53 : decode cX5_chance 53 = .ok (.i2l, 1) := by decide +kernel
theorem dX5_chance_54 : decode cX5_chance 54 = .ok (.lcmp, 1) := by decide +kernel
theorem dX5_chance_55 : decode cX5_chance 55 = .ok (.ifCond .lt 6, 3) := by decide +kernel
theorem dX5_chance_58 : decode cX5_chance 58 = .ok (.iinc 6 1, 3) := by decide +kernel
theorem dX5_chance_61 : decode cX5_chance 61 = .ok (.iinc 7 1, 3) := by decide +kernel
theorem dX5_chance_64 : decode cX5_chance 64 = .ok (.goto (-28), 3) := by decide +kernel
theorem dX5_chance_67 : decode cX5_chance 67 = .ok (.iload 6, 2) := by decide +kernel
theorem dX5_chance_69 : decode cX5_chance 69 = .ok (.i2l, 1) := by decide +kernel
theorem dX5_chance_70 : decode cX5_chance 70 = .ok (.iload_n 2, 1) := by decide +kernel
theorem dX5_chance_71 : decode cX5_chance 71 = .ok (.i2l, 1) := by decide +kernel
theorem dX5_chance_72 : decode cX5_chance 72 = .ok (.iload 5, 2) := by decide +kernel
theorem dX5_chance_74 : decode cX5_chance 74 = .ok (.invokestatic 209, 3) := by decide +kernel
theorem dX5_chance_77 : decode cX5_chance 77 = .ok (.l2i, 1) := by decide +kernel
theorem dX5_chance_78 : decode cX5_chance 78 = .ok (.ireturn, 1) := by decide +kernel
theorem dX5_feed_0 : decode cX5_feed 0 = .ok (.iload_n 1, 1) := by decide +kernel
theorem dX5_feed_1 : decode cX5_feed 1 = .ok (.iconst 1, 1) := by decide +kernel
theorem dX5_feed_2 : decode cX5_feed 2 = .ok (.iconst 5, 1) := by decide +kernel
theorem dX5_feed_3 : decode cX5_feed 3 = .ok (.invokestatic 91, 3) := by decide +kernel
theorem dX5_feed_6 : decode cX5_feed 6 = .ok (.ifCond .eq 41, 3) := by decide +kernel
theorem dX5_feed_9 : decode cX5_feed 9 = .ok (.iload_n 2, 1) := by decide +kernel
theorem dX5_feed_10 : decode cX5_feed 10 = .ok (.invokestatic 224, 3) := by decide +kernel
theorem dX5_feed_13 : decode cX5_feed 13 = .ok (.ifCond .eq 34, 3) := by decide +kernel
theorem dX5_feed_16 : decode cX5_feed 16 = .ok (.iload_n 3, 1) := by decide +kernel
theorem dX5_feed_17 : decode cX5_feed 17 = .ok (.invokestatic 224, 3) := by decide +kernel
theorem dX5_feed_20 : decode cX5_feed 20 = .ok (.ifCond .eq 27, 3) := by decide +kernel
theorem dX5_feed_23 : decode cX5_feed 23 = .ok (.iload 4, 2) := by decide +kernel
theorem dX5_feed_25 : decode cX5_feed 25 = .ok (.invokestatic 224, 3) := by decide +kernel
theorem dX5_feed_28 : decode cX5_feed 28 = .ok (.ifCond .eq 19, 3) := by decide +kernel
theorem dX5_feed_31 : decode cX5_feed 31 = .ok (.iload 5, 2) := by decide +kernel
theorem dX5_feed_33 : decode cX5_feed 33 = .ok (.invokestatic 224, 3) := by decide +kernel
theorem dX5_feed_36 : decode cX5_feed 36 = .ok (.ifCond .eq 11, 3) := by decide +kernel
theorem dX5_feed_39 : decode cX5_feed 39 = .ok (.iload 6, 2) := by decide +kernel
theorem dX5_feed_41 : decode cX5_feed 41 = .ok (.invokestatic 224, 3) := by decide +kernel
theorem dX5_feed_44 : decode cX5_feed 44 = .ok (.ifCond .ne 6, 3) := by decide +kernel
theorem dX5_feed_47 : decode cX5_feed 47 = .ok (.bipush (-2), 2) := by decide +kernel
theorem dX5_feed_49 : decode cX5_feed 49 = .ok (.ireturn, 1) := by decide +kernel
theorem dX5_feed_50 : decode cX5_feed 50 = .ok (.aload_n 0, 1) := by decide +kernel
theorem dX5_feed_51 : decode cX5_feed 51 = .ok (.getfield 34, 3) := by decide +kernel
theorem dX5_feed_54 : decode cX5_feed 54 = .ok (.getfield 227, 3) := by decide +kernel
theorem dX5_feed_57 : decode cX5_feed 57 = .ok (.iload_n 1, 1) := by decide +kernel
theorem dX5_feed_58 : decode cX5_feed 58 = .ok (.iadd, 1) := by decide +kernel
theorem dX5_feed_59 : decode cX5_feed 59 = .ok (.bipush 60, 2) := by decide +kernel
theorem dX5_feed_61 : decode cX5_feed 61 = .ok (.if_icmp .le 6, 3) := by decide +kernel
theorem dX5_feed_64 : decode cX5_feed 64 = .ok (.bipush (-4), 2) := by decide +kernel
theorem dX5_feed_66 : decode cX5_feed 66 = .ok (.ireturn, 1) := by decide +kernel
theorem dX5_feed_67 : decode cX5_feed 67 = .ok (.iconst 0, 1) := by decide +kernel
theorem dX5_feed_68 : decode cX5_feed 68 = .ok (.istore 7, 2) := by decide +kernel
theorem dX5_feed_70 : decode cX5_feed 70 = .ok (.iload 7, 2) := by decide +kernel
theorem dX5_feed_72 : decode cX5_feed 72 = .ok (.iload_n 1, 1) := by decide +kernel
theorem dX5_feed_73 : decode cX5_feed 73 = .ok (.if_icmp .ge 59, 3) := by decide +kernel
theorem dX5_feed_76 : decode cX5_feed 76 = .ok (.aload_n 0, 1) := by decide +kernel
theorem dX5_feed_77 : decode cX5_feed 77 = .ok (.getfield 34, 3) := by decide +kernel
theorem dX5_feed_80 : decode cX5_feed 80 = .ok (.iload 7, 2) := by decide +kernel
theorem dX5_feed_82 : decode cX5_feed 82 = .ok (.ifCond .ne 7, 3) := by decide +kernel
theorem dX5_feed_85 : decode cX5_feed 85 = .ok (.iload_n 2, 1) := by decide +kernel
theorem dX5_feed_86 : decode cX5_feed 86 = .ok (.goto 37, 3) := by decide +kernel
theorem dX5_feed_89 : decode cX5_feed 89 = .ok (.iload 7, 2) := by decide +kernel
theorem dX5_feed_91 : decode cX5_feed 91 = .ok (.iconst 1, 1) := by decide +kernel
theorem dX5_feed_92 : decode cX5_feed 92 = .ok (.if_icmp .ne 7, 3) := by decide +kernel
theorem dX5_feed_95 : decode cX5_feed 95 = .ok (.iload_n 3, 1) := by decide +kernel
theorem dX5_feed_96 : decode cX5_feed 96 = .ok (.goto 27, 3) := by decide +kernel
theorem dX5_feed_99 : decode cX5_feed 99 = .ok (.iload 7, 2) := by decide +kernel
theorem dX5_feed_101 : decode cX5_feed 101 = .ok (.iconst 2, 1) := by decide +kernel
theorem dX5_feed_102 : decode cX5_feed 102 = .ok (.if_icmp .ne 8, 3) := by decide +kernel
theorem dX5_feed_105 : decode cX5_feed 105 = .ok (.iload 4, 2) := by decide +kernel
theorem dX5_feed_107 : decode cX5_feed 107 = .ok (.goto 16, 3) := by decide +kernel
theorem dX5_feed_110 : decode cX5_feed 110 = .ok (.iload 7, 2) := by decide +kernel
theorem dX5_feed_112 : decode cX5_feed 112 = .ok (.iconst 3, 1) := by decide +kernel
theorem dX5_feed_113 : decode cX5_feed 113 = .ok (.if_icmp .ne 8, 3) := by decide +kernel
theorem dX5_feed_116 : decode cX5_feed 116 = .ok (.iload 5, 2) := by decide +kernel
theorem dX5_feed_118 : decode cX5_feed 118 = .ok (.goto 5, 3) := by decide +kernel
theorem dX5_feed_121 : decode cX5_feed 121 = .ok (.iload 6, 2) := by decide +kernel
theorem dX5_feed_123 : decode cX5_feed 123 = .ok (.invokevirtual 230, 3) := by decide +kernel
theorem dX5_feed_126 : decode cX5_feed 126 = .ok (.iinc 7 1, 3) := by decide +kernel
theorem dX5_feed_129 : decode cX5_feed 129 = .ok (.goto (-59), 3) := by decide +kernel
theorem dX5_feed_132 : decode cX5_feed 132 = .ok (.aload_n 0, 1) := by decide +kernel
theorem dX5_feed_133 : decode cX5_feed 133 = .ok (.getfield 34, 3) := by decide +kernel
theorem dX5_feed_136 : decode cX5_feed 136 = .ok (.getfield 227, 3) := by decide +kernel
theorem dX5_feed_139 : decode cX5_feed 139 = .ok (.ireturn, 1) := by decide +kernel
theorem dX5_text_0 : decode cX5_text 0 = .ok (.aload_n 0, 1) := by decide +kernel
theorem dX5_text_1 : decode cX5_text 1 = .ok (.getfield 34, 3) := by decide +kernel
theorem dX5_text_4 : decode cX5_text 4 = .ok (.invokevirtual 233, 3) := by decide +kernel
theorem dX5_text_7 : decode cX5_text 7 = .ok (.istore_n 1, 1) := by decide +kernel
theorem dX5_text_8 : decode cX5_text 8 = .ok (.aload_n 0, 1) := by decide +kernel
theorem dX5_text_9 : decode cX5_text 9 = .ok (.getfield 34, 3) := by decide +kernel
theorem dX5_text_12 : decode cX5_text 12 = .ok (.iconst 0, 1) := by decide +kernel
theorem dX5_text_13 : decode cX5_text 13 = .ok (.putfield 227, 3) := by decide +kernel
theorem dX5_text_16 : decode cX5_text 16 = .ok (.iload_n 1, 1) := by decide +kernel
theorem dX5_text_17 : decode cX5_text 17 = .ok (.iconst (-1), 1) := by decide +kernel
theorem dX5_text_18 : decode cX5_text 18 = .ok (.if_icmp .eq 8, 3) := by decide +kernel
theorem dX5_text_21 : decode cX5_text 21 = .ok (.bipush (-100), 2) := by decide +kernel
theorem dX5_text_23 : decode cX5_text 23 = .ok (.iload_n 1, 1) := by decide +kernel
theorem dX5_text_24 : decode cX5_text 24 = .ok (.isub, 1) := by decide +kernel
theorem dX5_text_25 : decode cX5_text 25 = .ok (.ireturn, 1) := by decide +kernel
theorem dX5_text_26 : decode cX5_text 26 = .ok (.iconst 0, 1) := by decide +kernel
theorem dX5_text_27 : decode cX5_text 27 = .ok (.istore_n 2, 1) := by decide +kernel
theorem dX5_text_28 : decode cX5_text 28 = .ok (.iconst 0, 1) := by decide +kernel
theorem dX5_text_29 : decode cX5_text 29 = .ok (.istore_n 3, 1) := by decide +kernel
theorem dX5_text_30 : decode cX5_text 30 = .ok (.iconst 0, 1) := by decide +kernel
theorem dX5_text_31 : decode cX5_text 31 = .ok (.istore 4, 2) := by decide +kernel
theorem dX5_text_33 : decode cX5_text 33 = .ok (.iload 4, 2) := by decide +kernel
theorem dX5_text_35 : decode cX5_text 35 = .ok (.aload_n 0, 1) := by decide +kernel
theorem dX5_text_36 : decode cX5_text 36 = .ok (.getfield 34, 3) := by decide +kernel
theorem dX5_text_39 : decode cX5_text 39 = .ok (.getfield 236, 3) := by decide +kernel
theorem dX5_text_42 : decode cX5_text 42 = .ok (.if_icmp .ge 44, 3) := by decide +kernel
theorem dX5_text_45 : decode cX5_text 45 = .ok (.aload_n 0, 1) := by decide +kernel
theorem dX5_text_46 : decode cX5_text 46 = .ok (.getfield 34, 3) := by decide +kernel
theorem dX5_text_49 : decode cX5_text 49 = .ok (.iload_n 3, 1) := by decide +kernel
theorem dX5_text_50 : decode cX5_text 50 = .ok (.invokevirtual 239, 3) := by decide +kernel
theorem dX5_text_53 : decode cX5_text 53 = .ok (.istore 5, 2) := by decide +kernel
theorem dX5_text_55 : decode cX5_text 55 = .ok (.aload_n 0, 1) := by decide +kernel
theorem dX5_text_56 : decode cX5_text 56 = .ok (.iload 5, 2) := by decide +kernel
theorem dX5_text_58 : decode cX5_text 58 = .ok (.iload_n 3, 1) := by decide +kernel
theorem dX5_text_59 : decode cX5_text 59 = .ok (.iconst 1, 1) := by decide +kernel
theorem dX5_text_60 : decode cX5_text 60 = .ok (.iadd, 1) := by decide +kernel
theorem dX5_text_61 : decode cX5_text 61 = .ok (.invokevirtual 242, 3) := by decide +kernel
theorem dX5_text_64 : decode cX5_text 64 = .ok (.ifCond .lt 6, 3) := by decide +kernel
theorem dX5_text_67 : decode cX5_text 67 = .ok (.iinc 2 1, 3) := by decide +kernel
theorem dX5_text_70 : decode cX5_text 70 = .ok (.iload_n 3, 1) := by decide +kernel
theorem dX5_text_71 : decode cX5_text 71 = .ok (.iconst 1, 1) := by decide +kernel
theorem dX5_text_72 : decode cX5_text 72 = .ok (.iload 5, 2) := by decide +kernel
theorem dX5_text_74 : decode cX5_text 74 = .ok (.invokestatic 245, 3) := by decide +kernel
theorem dX5_text_77 : decode cX5_text 77 = .ok (.iadd, 1) := by decide +kernel
theorem dX5_text_78 : decode cX5_text 78 = .ok (.iadd, 1) := by decide +kernel
theorem dX5_text_79 : decode cX5_text 79 = .ok (.istore_n 3, 1) := by decide +kernel
theorem dX5_text_80 : decode cX5_text 80 = .ok (.iinc 4 1, 3) := by decide +kernel
theorem dX5_text_83 : decode cX5_text 83 = .ok (.goto (-50), 3) := by decide +kernel
theorem dX5_text_86 : decode cX5_text 86 = .ok (.iload_n 2, 1) := by decide +kernel
theorem dX5_text_87 : decode cX5_text 87 = .ok (.ireturn, 1) := by decide +kernel
theorem dX5_image_0 : decode cX5_image 0 = .ok (.aload_n 0, 1) := by decide +kernel
theorem dX5_image_1 : decode cX5_image 1 = .ok (.getfield 18, 3) := by decide +kernel
theorem dX5_image_4 : decode cX5_image 4 = .ok (.aload_n 0, 1) := by decide +kernel
theorem dX5_image_5 : decode cX5_image 5 = .ok (.getfield 12, 3) := by decide +kernel
theorem dX5_image_8 : decode cX5_image 8 = .ok (.invokevirtual 248, 3) := by decide +kernel
theorem dX5_image_11 : decode cX5_image 11 = .ok (.aload_n 0, 1) := by decide +kernel
theorem dX5_image_12 : decode cX5_image 12 = .ok (.iconst 1, 1) := by decide +kernel
theorem dX5_image_13 : decode cX5_image 13 = .ok (.putfield 21, 3) := by decide +kernel
theorem dX5_image_16 : decode cX5_image 16 = .ok (.aload_n 0, 1) := by decide +kernel
theorem dX5_image_17 : decode cX5_image 17 = .ok (.getfield 12, 3) := by decide +kernel
theorem dX5_image_20 : decode cX5_image 20 = .ok (.getfield 65, 3) := by decide +kernel
theorem dX5_image_23 : decode cX5_image 23 = .ok (.ireturn, 1) := by decide +kernel
theorem dX5_back_0 : decode cX5_back 0 = .ok (.aload_n 0, 1) := by decide +kernel
theorem dX5_back_1 : decode cX5_back 1 = .ok (.getfield 21, 3) := by decide +kernel
theorem dX5_back_4 : decode cX5_back 4 = .ok (.ifCond .ne 6, 3) := by decide +kernel
theorem dX5_back_7 : decode cX5_back 7 = .ok (.bipush (-3), 2) := by decide +kernel
theorem dX5_back_9 : decode cX5_back 9 = .ok (.ireturn, 1) := by decide +kernel
theorem dX5_back_10 : decode cX5_back 10 = .ok (.aload_n 0, 1) := by decide +kernel
theorem dX5_back_11 : decode cX5_back 11 = .ok (.getfield 12, 3) := by decide +kernel
theorem dX5_back_14 : decode cX5_back 14 = .ok (.aload_n 0, 1) := by decide +kernel
theorem dX5_back_15 : decode cX5_back 15 = .ok (.getfield 18, 3) := by decide +kernel
theorem dX5_back_18 : decode cX5_back 18 = .ok (.invokevirtual 248, 3) := by decide +kernel
theorem dX5_back_21 : decode cX5_back 21 = .ok (.aload_n 0, 1) := by decide +kernel
theorem dX5_back_22 : decode cX5_back 22 = .ok (.getfield 12, 3) := by decide +kernel
theorem dX5_back_25 : decode cX5_back 25 = .ok (.getfield 65, 3) := by decide +kernel
theorem dX5_back_28 : decode cX5_back 28 = .ok (.ireturn, 1) := by decide +kernel
theorem dX5_load_0 : decode cX5_load 0 = .ok (.iload_n 1, 1) := by decide +kernel
theorem dX5_load_1 : decode cX5_load 1 = .ok (.invokestatic 168, 3) := by decide +kernel
theorem dX5_load_4 : decode cX5_load 4 = .ok (.ifCond .eq 23, 3) := by decide +kernel
theorem dX5_load_7 : decode cX5_load 7 = .ok (.iload_n 2, 1) := by decide +kernel
theorem dX5_load_8 : decode cX5_load 8 = .ok (.iconst 0, 1) := by decide +kernel
theorem dX5_load_9 : decode cX5_load 9 = .ok (.iconst 1, 1) := by decide +kernel
theorem dX5_load_10 : decode cX5_load 10 = .ok (.invokestatic 91, 3) := by decide +kernel
theorem dX5_load_13 : decode cX5_load 13 = .ok (.ifCond .eq 14, 3) := by decide +kernel
theorem dX5_load_16 : decode cX5_load 16 = .ok (.iload 4, 2) := by decide +kernel
theorem dX5_load_18 : decode cX5_load 18 = .ok (.iconst 0, 1) := by decide +kernel
theorem dX5_load_19 : decode cX5_load 19 = .ok (.bipush 6, 2) := by decide +kernel
theorem dX5_load_21 : decode cX5_load 21 = .ok (.invokestatic 91, 3) := by decide +kernel
theorem dX5_load_24 : decode cX5_load 24 = .ok (.ifCond .ne 6, 3) := by decide +kernel
theorem dX5_load_27 : decode cX5_load 27 = .ok (.bipush (-2), 2) := by decide +kernel
theorem dX5_load_29 : decode cX5_load 29 = .ok (.ireturn, 1) := by decide +kernel
theorem dX5_load_30 : decode cX5_load 30 = .ok (.aload_n 0, 1) := by decide +kernel
theorem dX5_load_31 : decode cX5_load 31 = .ok (.getfield 27, 3) := by decide +kernel
theorem dX5_load_34 : decode cX5_load 34 = .ok (.iload_n 1, 1) := by decide +kernel
theorem dX5_load_35 : decode cX5_load 35 = .ok (.aaload, 1) := by decide +kernel
theorem dX5_load_36 : decode cX5_load 36 = .ok (.astore 5, 2) := by decide +kernel
theorem dX5_load_38 : decode cX5_load 38 = .ok (.aload 5, 2) := by decide +kernel
theorem dX5_load_40 : decode cX5_load 40 = .ok (.invokevirtual 175, 3) := by decide +kernel
theorem dX5_load_43 : decode cX5_load 43 = .ok (.ifCond .eq 6, 3) := by decide +kernel
theorem dX5_load_46 : decode cX5_load 46 = .ok (.bipush (-11), 2) := by decide +kernel
theorem dX5_load_48 : decode cX5_load 48 = .ok (.ireturn, 1) := by decide +kernel
theorem dX5_load_49 : decode cX5_load 49 = .ok (.aload 5, 2) := by decide +kernel
theorem dX5_load_51 : decode cX5_load 51 = .ok (.getfield 252, 3) := by decide +kernel
theorem dX5_load_54 : decode cX5_load 54 = .ok (.iload_n 2, 1) := by decide +kernel
theorem dX5_load_55 : decode cX5_load 55 = .ok (.if_icmp .eq 6, 3) := by decide +kernel
theorem dX5_load_58 : decode cX5_load 58 = .ok (.bipush (-13), 2) := by decide +kernel
theorem dX5_load_60 : decode cX5_load 60 = .ok (.ireturn, 1) := by decide +kernel
theorem dX5_load_61 : decode cX5_load 61 = .ok (.iconst 0, 1) := by decide +kernel
theorem dX5_load_62 : decode cX5_load 62 = .ok (.istore 6, 2) := by decide +kernel
theorem dX5_load_64 : decode cX5_load 64 = .ok (.iconst 0, 1) := by decide +kernel
theorem dX5_load_65 : decode cX5_load 65 = .ok (.istore 7, 2) := by decide +kernel
theorem dX5_load_67 : decode cX5_load 67 = .ok (.iload 7, 2) := by decide +kernel
theorem dX5_load_69 : decode cX5_load 69 = .ok (.iload 4, 2) := by decide +kernel
theorem dX5_load_71 : decode cX5_load 71 = .ok (.if_icmp .ge 47, 3) := by decide +kernel
theorem dX5_load_74 : decode cX5_load 74 = .ok (.aload 5, 2) := by decide +kernel
theorem dX5_load_76 : decode cX5_load 76 = .ok (.iload_n 3, 1) := by decide +kernel
theorem dX5_load_77 : decode cX5_load 77 = .ok (.i2l, 1) := by decide +kernel
theorem dX5_load_78 : decode cX5_load 78 = .ok (.iconst 4, 1) := by decide +kernel
theorem dX5_load_79 : decode cX5_load 79 = .ok (.iload 7, 2) := by decide +kernel
theorem dX5_load_81 : decode cX5_load 81 = .ok (.imul, 1) := by decide +kernel
theorem dX5_load_82 : decode cX5_load 82 = .ok (.i2l, 1) := by decide +kernel
theorem dX5_load_83 : decode cX5_load 83 = .ok (.ladd, 1) := by decide +kernel
theorem dX5_load_84 : decode cX5_load 84 = .ok (.iconst 4, 1) := by decide +kernel
theorem dX5_load_85 : decode cX5_load 85 = .ok (.invokevirtual 255, 3) := by decide +kernel
theorem dX5_load_88 : decode cX5_load 88 = .ok (.ifCond .ne 6, 3) := by decide +kernel
theorem dX5_load_91 : decode cX5_load 91 = .ok (.bipush (-12), 2) := by decide +kernel
theorem dX5_load_93 : decode cX5_load 93 = .ok (.ireturn, 1) := by decide +kernel
theorem dX5_load_94 : decode cX5_load 94 = .ok (.aload_n 0, 1) := by decide +kernel
theorem dX5_load_95 : decode cX5_load 95 = .ok (.aload 5, 2) := by decide +kernel
theorem dX5_load_97 : decode cX5_load 97 = .ok (.iload_n 3, 1) := by decide +kernel
theorem dX5_load_98 : decode cX5_load 98 = .ok (.iconst 4, 1) := by decide +kernel
theorem dX5_load_99 : decode cX5_load 99 = .ok (.iload 7, 2) := by decide +kernel
theorem dX5_load_101 : decode cX5_load 101 = .ok (.imul, 1) := by decide +kernel
theorem dX5_load_102 : decode cX5_load 102 = .ok (.iadd, 1) := by decide +kernel
theorem dX5_load_103 : decode cX5_load 103 = .ok (.invokevirtual 259, 3) := by decide +kernel
theorem dX5_load_106 : decode cX5_load 106 = .ok (.ifCond .lt 6, 3) := by decide +kernel
theorem dX5_load_109 : decode cX5_load 109 = .ok (.iinc 6 1, 3) := by decide +kernel
theorem dX5_load_112 : decode cX5_load 112 = .ok (.iinc 7 1, 3) := by decide +kernel
theorem dX5_load_115 : decode cX5_load 115 = .ok (.goto (-48), 3) := by decide +kernel
theorem dX5_load_118 : decode cX5_load 118 = .ok (.iload 6, 2) := by decide +kernel
theorem dX5_load_120 : decode cX5_load 120 = .ok (.ireturn, 1) := by decide +kernel
theorem dX5_count_0 : decode cX5_count 0 = .ok (.iload_n 1, 1) := by decide +kernel
theorem dX5_count_1 : decode cX5_count 1 = .ok (.tableswitch 87 0 5 #[39, 47, 55, 63, 71, 79], 39) := by decide +kernel
theorem dX5_count_40 : decode cX5_count 40 = .ok (.aload_n 0, 1) := by decide +kernel
theorem dX5_count_41 : decode cX5_count 41 = .ok (.getfield 12, 3) := by decide +kernel
theorem dX5_count_44 : decode cX5_count 44 = .ok (.getfield 65, 3) := by decide +kernel
theorem dX5_count_47 : decode cX5_count 47 = .ok (.ireturn, 1) := by decide +kernel
theorem dX5_count_48 : decode cX5_count 48 = .ok (.aload_n 0, 1) := by decide +kernel
theorem dX5_count_49 : decode cX5_count 49 = .ok (.getfield 12, 3) := by decide +kernel
theorem dX5_count_52 : decode cX5_count 52 = .ok (.getfield 141, 3) := by decide +kernel
theorem dX5_count_55 : decode cX5_count 55 = .ok (.ireturn, 1) := by decide +kernel
theorem dX5_count_56 : decode cX5_count 56 = .ok (.aload_n 0, 1) := by decide +kernel
theorem dX5_count_57 : decode cX5_count 57 = .ok (.getfield 34, 3) := by decide +kernel
theorem dX5_count_60 : decode cX5_count 60 = .ok (.getfield 227, 3) := by decide +kernel
theorem dX5_count_63 : decode cX5_count 63 = .ok (.ireturn, 1) := by decide +kernel
theorem dX5_count_64 : decode cX5_count 64 = .ok (.aload_n 0, 1) := by decide +kernel
theorem dX5_count_65 : decode cX5_count 65 = .ok (.getfield 12, 3) := by decide +kernel
theorem dX5_count_68 : decode cX5_count 68 = .ok (.invokevirtual 262, 3) := by decide +kernel
theorem dX5_count_71 : decode cX5_count 71 = .ok (.ireturn, 1) := by decide +kernel
theorem dX5_count_72 : decode cX5_count 72 = .ok (.aload_n 0, 1) := by decide +kernel
theorem dX5_count_73 : decode cX5_count 73 = .ok (.getfield 12, 3) := by decide +kernel
theorem dX5_count_76 : decode cX5_count 76 = .ok (.invokevirtual 265, 3) := by decide +kernel
theorem dX5_count_79 : decode cX5_count 79 = .ok (.ireturn, 1) := by decide +kernel
theorem dX5_count_80 : decode cX5_count 80 = .ok (.aload_n 0, 1) := by decide +kernel
theorem dX5_count_81 : decode cX5_count 81 = .ok (.getfield 12, 3) := by decide +kernel
theorem dX5_count_84 : decode cX5_count 84 = .ok (.getfield 81, 3) := by decide +kernel
theorem dX5_count_87 : decode cX5_count 87 = .ok (.ireturn, 1) := by decide +kernel
theorem dX5_count_88 : decode cX5_count 88 = .ok (.bipush (-2), 2) := by decide +kernel
theorem dX5_count_90 : decode cX5_count 90 = .ok (.ireturn, 1) := by decide +kernel
theorem dX5_sheet_0 : decode cX5_sheet 0 = .ok (.iload_n 1, 1) := by decide +kernel
theorem dX5_sheet_1 : decode cX5_sheet 1 = .ok (.invokestatic 168, 3) := by decide +kernel
theorem dX5_sheet_4 : decode cX5_sheet 4 = .ok (.ifCond .eq 12, 3) := by decide +kernel
theorem dX5_sheet_7 : decode cX5_sheet 7 = .ok (.iload_n 2, 1) := by decide +kernel
theorem dX5_sheet_8 : decode cX5_sheet 8 = .ok (.iconst (-1), 1) := by decide +kernel
theorem dX5_sheet_9 : decode cX5_sheet 9 = .ok (.iconst 1, 1) := by decide +kernel
theorem dX5_sheet_10 : decode cX5_sheet 10 = .ok (.invokestatic 91, 3) := by decide +kernel
theorem dX5_sheet_13 : decode cX5_sheet 13 = .ok (.ifCond .ne 6, 3) := by decide +kernel
theorem dX5_sheet_16 : decode cX5_sheet 16 = .ok (.bipush (-2), 2) := by decide +kernel
theorem dX5_sheet_18 : decode cX5_sheet 18 = .ok (.ireturn, 1) := by decide +kernel
theorem dX5_sheet_19 : decode cX5_sheet 19 = .ok (.iload_n 2, 1) := by decide +kernel
theorem dX5_sheet_20 : decode cX5_sheet 20 = .ok (.iconst (-1), 1) := by decide +kernel
theorem dX5_sheet_21 : decode cX5_sheet 21 = .ok (.if_icmp .ne 16, 3) := by decide +kernel
theorem dX5_sheet_24 : decode cX5_sheet 24 = .ok (.aload_n 0, 1) := by decide +kernel
theorem dX5_sheet_25 : decode cX5_sheet 25 = .ok (.getfield 27, 3) := by decide +kernel
theorem dX5_sheet_28 : decode cX5_sheet 28 = .ok (.iload_n 1, 1) := by decide +kernel
theorem dX5_sheet_29 : decode cX5_sheet 29 = .ok (.aaload, 1) := by decide +kernel
theorem dX5_sheet_30 : decode cX5_sheet 30 = .ok (.iconst (-1), 1) := by decide +kernel
theorem dX5_sheet_31 : decode cX5_sheet 31 = .ok (.iconst 0, 1) := by decide +kernel
theorem dX5_sheet_32 : decode cX5_sheet 32 = .ok (.invokevirtual 197, 3) := by decide +kernel
theorem dX5_sheet_35 : decode cX5_sheet 35 = .ok (.iconst 1, 1) := by decide +kernel
theorem dX5_sheet_36 : decode cX5_sheet 36 = .ok (.ireturn, 1) := by decide +kernel
theorem dX5_sheet_37 : decode cX5_sheet 37 = .ok (.iload_n 3, 1) := by decide +kernel
theorem dX5_sheet_38 : decode cX5_sheet 38 = .ok (.bipush 40, 2) := by decide +kernel
theorem dX5_sheet_40 : decode cX5_sheet 40 = .ok (.if_icmp .le 6, 3) := by decide +kernel
theorem dX5_sheet_43 : decode cX5_sheet 43 = .ok (.bipush (-2), 2) := by decide +kernel
theorem dX5_sheet_45 : decode cX5_sheet 45 = .ok (.ireturn, 1) := by decide +kernel
theorem dX5_sheet_46 : decode cX5_sheet 46 = .ok (.iload_n 3, 1) := by decide +kernel
theorem dX5_sheet_47 : decode cX5_sheet 47 = .ok (.ifCond .ge 6, 3) := by decide +kernel
theorem dX5_sheet_50 : decode cX5_sheet 50 = .ok (.bipush (-14), 2) := by decide +kernel
theorem dX5_sheet_52 : decode cX5_sheet 52 = .ok (.ireturn, 1) := by decide +kernel
theorem dX5_sheet_53 : decode cX5_sheet 53 = .ok (.aload_n 0, 1) := by decide +kernel
theorem dX5_sheet_54 : decode cX5_sheet 54 = .ok (.getfield 27, 3) := by decide +kernel
theorem dX5_sheet_57 : decode cX5_sheet 57 = .ok (.iload_n 1, 1) := by decide +kernel
theorem dX5_sheet_58 : decode cX5_sheet 58 = .ok (.aaload, 1) := by decide +kernel
theorem dX5_sheet_59 : decode cX5_sheet 59 = .ok (.iload_n 2, 1) := by decide +kernel
theorem dX5_sheet_60 : decode cX5_sheet 60 = .ok (.iload_n 3, 1) := by decide +kernel
theorem dX5_sheet_61 : decode cX5_sheet 61 = .ok (.invokevirtual 197, 3) := by decide +kernel
theorem dX5_sheet_64 : decode cX5_sheet 64 = .ok (.iconst 1, 1) := by decide +kernel
theorem dX5_sheet_65 : decode cX5_sheet 65 = .ok (.ireturn, 1) := by decide +kernel
theorem dX5_put_0 : decode cX5_put 0 = .ok (.iload_n 1, 1) := by decide +kernel
theorem dX5_put_1 : decode cX5_put 1 = .ok (.invokestatic 168, 3) := by decide +kernel
theorem dX5_put_4 : decode cX5_put 4 = .ok (.ifCond .ne 6, 3) := by decide +kernel
theorem dX5_put_7 : decode cX5_put 7 = .ok (.bipush (-2), 2) := by decide +kernel
theorem dX5_put_9 : decode cX5_put 9 = .ok (.ireturn, 1) := by decide +kernel
theorem dX5_put_10 : decode cX5_put 10 = .ok (.aload_n 0, 1) := by decide +kernel
theorem dX5_put_11 : decode cX5_put 11 = .ok (.getfield 27, 3) := by decide +kernel
theorem dX5_put_14 : decode cX5_put 14 = .ok (.iload_n 1, 1) := by decide +kernel
theorem dX5_put_15 : decode cX5_put 15 = .ok (.aaload, 1) := by decide +kernel
theorem dX5_put_16 : decode cX5_put 16 = .ok (.astore 5, 2) := by decide +kernel
theorem dX5_put_18 : decode cX5_put 18 = .ok (.aload 5, 2) := by decide +kernel
theorem dX5_put_20 : decode cX5_put 20 = .ok (.invokevirtual 175, 3) := by decide +kernel
theorem dX5_put_23 : decode cX5_put 23 = .ok (.ifCond .eq 6, 3) := by decide +kernel
theorem dX5_put_26 : decode cX5_put 26 = .ok (.bipush (-11), 2) := by decide +kernel
theorem dX5_put_28 : decode cX5_put 28 = .ok (.ireturn, 1) := by decide +kernel
theorem dX5_put_29 : decode cX5_put 29 = .ok (.aload 5, 2) := by decide +kernel
theorem dX5_put_31 : decode cX5_put 31 = .ok (.iload_n 2, 1) := by decide +kernel
theorem dX5_put_32 : decode cX5_put 32 = .ok (.i2l, 1) := by decide +kernel
theorem dX5_put_33 : decode cX5_put 33 = .ok (.iconst 1, 1) := by decide +kernel
theorem dX5_put_34 : decode cX5_put 34 = .ok (.invokevirtual 255, 3) := by decide +kernel
theorem dX5_put_37 : decode cX5_put 37 = .ok (.ifCond .ne 6, 3) := by decide +kernel
theorem dX5_put_40 : decode cX5_put 40 = .ok (.bipush (-12), 2) := by decide +kernel
theorem dX5_put_42 : decode cX5_put 42 = .ok (.ireturn, 1) := by decide +kernel
theorem dX5_put_43 : decode cX5_put 43 = .ok (.aload 5, 2) := by decide +kernel
theorem dX5_put_45 : decode cX5_put 45 = .ok (.iload_n 2, 1) := by decide +kernel
theorem dX5_put_46 : decode cX5_put 46 = .ok (.lload_n 3, 1) := by decide +kernel
theorem dX5_put_47 : decode cX5_put 47 = .ok (.invokevirtual 201, 3) := by decide +kernel
theorem dX5_put_50 : decode cX5_put 50 = .ok (.iconst 1, 1) := by decide +kernel
theorem dX5_put_51 : decode cX5_put 51 = .ok (.ireturn, 1) := by decide +kernel
theorem dX5_item_0 : decode cX5_item 0 = .ok (.iload_n 1, 1) := by decide +kernel
theorem dX5_item_1 : decode cX5_item 1 = .ok (.invokestatic 168, 3) := by decide +kernel
theorem dX5_item_4 : decode cX5_item 4 = .ok (.ifCond .eq 30, 3) := by decide +kernel
theorem dX5_item_7 : decode cX5_item 7 = .ok (.aload_n 0, 1) := by decide +kernel
theorem dX5_item_8 : decode cX5_item 8 = .ok (.getfield 27, 3) := by decide +kernel
theorem dX5_item_11 : decode cX5_item 11 = .ok (.iload_n 1, 1) := by decide +kernel
theorem dX5_item_12 : decode cX5_item 12 = .ok (.aaload, 1) := by decide +kernel
theorem dX5_item_13 : decode cX5_item 13 = .ok (.invokevirtual 175, 3) := by decide +kernel
theorem dX5_item_16 : decode cX5_item 16 = .ok (.ifCond .ne 18, 3) := by decide +kernel
theorem dX5_item_19 : decode cX5_item 19 = .ok (.aload_n 0, 1) := by decide +kernel
theorem dX5_item_20 : decode cX5_item 20 = .ok (.getfield 27, 3) := by decide +kernel
theorem dX5_item_23 : decode cX5_item 23 = .ok (.iload_n 1, 1) := by decide +kernel
theorem dX5_item_24 : decode cX5_item 24 = .ok (.aaload, 1) := by decide +kernel
theorem dX5_item_25 : decode cX5_item 25 = .ok (.iload_n 2, 1) := by decide +kernel
theorem dX5_item_26 : decode cX5_item 26 = .ok (.i2l, 1) := by decide +kernel
theorem dX5_item_27 : decode cX5_item 27 = .ok (.iconst 1, 1) := by decide +kernel
theorem dX5_item_28 : decode cX5_item 28 = .ok (.invokevirtual 255, 3) := by decide +kernel
theorem dX5_item_31 : decode cX5_item 31 = .ok (.ifCond .ne 7, 3) := by decide +kernel
theorem dX5_item_34 : decode cX5_item 34 = .ok (.ldc2_w 131, 3) := by decide +kernel
theorem dX5_item_37 : decode cX5_item 37 = .ok (.lreturn, 1) := by decide +kernel
theorem dX5_item_38 : decode cX5_item 38 = .ok (.aload_n 0, 1) := by decide +kernel
theorem dX5_item_39 : decode cX5_item 39 = .ok (.getfield 27, 3) := by decide +kernel
theorem dX5_item_42 : decode cX5_item 42 = .ok (.iload_n 1, 1) := by decide +kernel
theorem dX5_item_43 : decode cX5_item 43 = .ok (.aaload, 1) := by decide +kernel
theorem dX5_item_44 : decode cX5_item 44 = .ok (.getfield 268, 3) := by decide +kernel
theorem dX5_item_47 : decode cX5_item 47 = .ok (.iload_n 2, 1) := by decide +kernel
theorem dX5_item_48 : decode cX5_item 48 = .ok (.laload, 1) := by decide +kernel
theorem dX5_item_49 : decode cX5_item 49 = .ok (.lreturn, 1) := by decide +kernel
theorem dX5_copy_0 : decode cX5_copy 0 = .ok (.iload_n 1, 1) := by decide +kernel
theorem dX5_copy_1 : decode cX5_copy 1 = .ok (.invokestatic 168, 3) := by decide +kernel
theorem dX5_copy_4 : decode cX5_copy 4 = .ok (.ifCond .eq 10, 3) := by decide +kernel
theorem dX5_copy_7 : decode cX5_copy 7 = .ok (.iload_n 3, 1) := by decide +kernel
theorem dX5_copy_8 : decode cX5_copy 8 = .ok (.invokestatic 168, 3) := by decide +kernel
theorem dX5_copy_11 : decode cX5_copy 11 = .ok (.ifCond .ne 6, 3) := by decide +kernel
theorem dX5_copy_14 : decode cX5_copy 14 = .ok (.bipush (-2), 2) := by decide +kernel
theorem dX5_copy_16 : decode cX5_copy 16 = .ok (.ireturn, 1) := by decide +kernel
theorem dX5_copy_17 : decode cX5_copy 17 = .ok (.aload_n 0, 1) := by decide +kernel
theorem dX5_copy_18 : decode cX5_copy 18 = .ok (.getfield 27, 3) := by decide +kernel
theorem dX5_copy_21 : decode cX5_copy 21 = .ok (.iload_n 1, 1) := by decide +kernel
theorem dX5_copy_22 : decode cX5_copy 22 = .ok (.aaload, 1) := by decide +kernel
theorem dX5_copy_23 : decode cX5_copy 23 = .ok (.astore 6, 2) := by decide +kernel
theorem dX5_copy_25 : decode cX5_copy 25 = .ok (.aload_n 0, 1) := by decide +kernel
theorem dX5_copy_26 : decode cX5_copy 26 = .ok (.getfield 27, 3) := by decide +kernel
theorem dX5_copy_29 : decode cX5_copy 29 = .ok (.iload_n 3, 1) := by decide +kernel
theorem dX5_copy_30 : decode cX5_copy 30 = .ok (.aaload, 1) := by decide +kernel
theorem dX5_copy_31 : decode cX5_copy 31 = .ok (.astore 7, 2) := by decide +kernel
theorem dX5_copy_33 : decode cX5_copy 33 = .ok (.aload 6, 2) := by decide +kernel
theorem dX5_copy_35 : decode cX5_copy 35 = .ok (.invokevirtual 175, 3) := by decide +kernel
theorem dX5_copy_38 : decode cX5_copy 38 = .ok (.ifCond .ne 11, 3) := by decide +kernel
theorem dX5_copy_41 : decode cX5_copy 41 = .ok (.aload 7, 2) := by decide +kernel
theorem dX5_copy_43 : decode cX5_copy 43 = .ok (.invokevirtual 175, 3) := by decide +kernel
theorem dX5_copy_46 : decode cX5_copy 46 = .ok (.ifCond .eq 6, 3) := by decide +kernel
theorem dX5_copy_49 : decode cX5_copy 49 = .ok (.bipush (-11), 2) := by decide +kernel
theorem dX5_copy_51 : decode cX5_copy 51 = .ok (.ireturn, 1) := by decide +kernel
theorem dX5_copy_52 : decode cX5_copy 52 = .ok (.aload 6, 2) := by decide +kernel
theorem dX5_copy_54 : decode cX5_copy 54 = .ok (.getfield 252, 3) := by decide +kernel
theorem dX5_copy_57 : decode cX5_copy 57 = .ok (.aload 7, 2) := by decide +kernel
theorem dX5_copy_59 : decode cX5_copy 59 = .ok (.getfield 252, 3) := by decide +kernel
theorem dX5_copy_62 : decode cX5_copy 62 = .ok (.if_icmp .eq 6, 3) := by decide +kernel
theorem dX5_copy_65 : decode cX5_copy 65 = .ok (.bipush (-13), 2) := by decide +kernel
theorem dX5_copy_67 : decode cX5_copy 67 = .ok (.ireturn, 1) := by decide +kernel
theorem dX5_copy_68 : decode cX5_copy 68 = .ok (.aload 6, 2) := by decide +kernel
theorem dX5_copy_70 : decode cX5_copy 70 = .ok (.iload_n 2, 1) := by decide +kernel
theorem dX5_copy_71 : decode cX5_copy 71 = .ok (.i2l, 1) := by decide +kernel
theorem dX5_copy_72 : decode cX5_copy 72 = .ok (.iload 5, 2) := by decide +kernel
theorem dX5_copy_74 : decode cX5_copy 74 = .ok (.invokevirtual 255, 3) := by decide +kernel
theorem dX5_copy_77 : decode cX5_copy 77 = .ok (.ifCond .eq 16, 3) := by decide +kernel
theorem dX5_copy_80 : decode cX5_copy 80 = .ok (.aload 7, 2) := by decide +kernel
theorem dX5_copy_82 : decode cX5_copy 82 = .ok (.iload 4, 2) := by decide +kernel
theorem dX5_copy_84 : decode cX5_copy 84 = .ok (.i2l, 1) := by decide +kernel
theorem dX5_copy_85 : decode cX5_copy 85 = .ok (.iload 5, 2) := by decide +kernel
theorem dX5_copy_87 : decode cX5_copy 87 = .ok (.invokevirtual 255, 3) := by decide +kernel
theorem dX5_copy_90 : decode cX5_copy 90 = .ok (.ifCond .ne 6, 3) := by decide +kernel
theorem dX5_copy_93 : decode cX5_copy 93 = .ok (.bipush (-12), 2) := by decide +kernel
theorem dX5_copy_95 : decode cX5_copy 95 = .ok (.ireturn, 1) := by decide +kernel
theorem dX5_copy_96 : decode cX5_copy 96 = .ok (.aload 6, 2) := by decide +kernel
theorem dX5_copy_98 : decode cX5_copy 98 = .ok (.getfield 268, 3) := by decide +kernel
theorem dX5_copy_101 : decode cX5_copy 101 = .ok (.iload_n 2, 1) := by decide +kernel
theorem dX5_copy_102 : decode cX5_copy 102 = .ok (.aload 7, 2) := by decide +kernel
theorem dX5_copy_104 : decode cX5_copy 104 = .ok (.getfield 268, 3) := by decide +kernel
theorem dX5_copy_107 : decode cX5_copy 107 = .ok (.iload 4, 2) := by decide +kernel
theorem dX5_copy_109 : decode cX5_copy 109 = .ok (.iload 5, 2) := by decide +kernel
theorem dX5_copy_111 : decode cX5_copy 111 = .ok (.invokestatic 271, 3) := by decide +kernel
theorem dX5_copy_114 : decode cX5_copy 114 = .ok (.iload 5, 2) := by decide +kernel
theorem dX5_copy_116 : decode cX5_copy 116 = .ok (.ireturn, 1) := by decide +kernel
theorem dX5_within_0 : decode cX5_within 0 = .ok (.iload_n 0, 1) := by decide +kernel
theorem dX5_within_1 : decode cX5_within 1 = .ok (.iload_n 1, 1) := by decide +kernel
theorem dX5_within_2 : decode cX5_within 2 = .ok (.if_icmp .lt 12, 3) := by decide +kernel
theorem dX5_within_5 : decode cX5_within 5 = .ok (.iload_n 0, 1) := by decide +kernel
theorem dX5_within_6 : decode cX5_within 6 = .ok (.iload_n 2, 1) := by decide +kernel
theorem dX5_within_7 : decode cX5_within 7 = .ok (.if_icmp .gt 7, 3) := by decide +kernel
theorem dX5_within_10 : decode cX5_within 10 = .ok (.iconst 1, 1) := by decide +kernel
theorem dX5_within_11 : decode cX5_within 11 = .ok (.goto 4, 3) := by decide +kernel
theorem dX5_within_14 : decode cX5_within 14 = .ok (.iconst 0, 1) := by decide +kernel
theorem dX5_within_15 : decode cX5_within 15 = .ok (.ireturn, 1) := by decide +kernel
theorem dX5_allows_0 : decode cX5_allows 0 = .ok (.iload_n 0, 1) := by decide +kernel
theorem dX5_allows_1 : decode cX5_allows 1 = .ok (.iconst 0, 1) := by decide +kernel
theorem dX5_allows_2 : decode cX5_allows 2 = .ok (.iconst 3, 1) := by decide +kernel
theorem dX5_allows_3 : decode cX5_allows 3 = .ok (.invokestatic 91, 3) := by decide +kernel
theorem dX5_allows_6 : decode cX5_allows 6 = .ok (.ifCond .eq 20, 3) := by decide +kernel
theorem dX5_allows_9 : decode cX5_allows 9 = .ok (.iload_n 1, 1) := by decide +kernel
theorem dX5_allows_10 : decode cX5_allows 10 = .ok (.iconst 0, 1) := by decide +kernel
theorem dX5_allows_11 : decode cX5_allows 11 = .ok (.getstatic 190, 3) := by decide +kernel
theorem dX5_allows_14 : decode cX5_allows 14 = .ok (.iload_n 0, 1) := by decide +kernel
theorem dX5_allows_15 : decode cX5_allows 15 = .ok (.iaload, 1) := by decide +kernel
theorem dX5_allows_16 : decode cX5_allows 16 = .ok (.invokestatic 91, 3) := by decide +kernel
theorem dX5_allows_19 : decode cX5_allows 19 = .ok (.ifCond .eq 7, 3) := by decide +kernel
theorem dX5_allows_22 : decode cX5_allows 22 = .ok (.iconst 1, 1) := by decide +kernel
theorem dX5_allows_23 : decode cX5_allows 23 = .ok (.goto 4, 3) := by decide +kernel
theorem dX5_allows_26 : decode cX5_allows 26 = .ok (.iconst 0, 1) := by decide +kernel
theorem dX5_allows_27 : decode cX5_allows 27 = .ok (.ireturn, 1) := by decide +kernel
theorem dX5_isTeeth_0 : decode cX5_isTeeth 0 = .ok (.iload_n 0, 1) := by decide +kernel
theorem dX5_isTeeth_1 : decode cX5_isTeeth 1 = .ok (.bipush 8, 2) := by decide +kernel
theorem dX5_isTeeth_3 : decode cX5_isTeeth 3 = .ok (.sipush 200, 3) := by decide +kernel
theorem dX5_isTeeth_6 : decode cX5_isTeeth 6 = .ok (.invokestatic 91, 3) := by decide +kernel
theorem dX5_isTeeth_9 : decode cX5_isTeeth 9 = .ok (.ireturn, 1) := by decide +kernel
theorem dX5_isTick_0 : decode cX5_isTick 0 = .ok (.iload_n 0, 1) := by decide +kernel
theorem dX5_isTick_1 : decode cX5_isTick 1 = .ok (.iconst 0, 1) := by decide +kernel
theorem dX5_isTick_2 : decode cX5_isTick 2 = .ok (.ldc 140, 2) := by decide +kernel
theorem dX5_isTick_4 : decode cX5_isTick 4 = .ok (.invokestatic 91, 3) := by decide +kernel
theorem dX5_isTick_7 : decode cX5_isTick 7 = .ok (.ireturn, 1) := by decide +kernel
theorem dX5_isByte_0 : decode cX5_isByte 0 = .ok (.iload_n 0, 1) := by decide +kernel
theorem dX5_isByte_1 : decode cX5_isByte 1 = .ok (.iconst 0, 1) := by decide +kernel
theorem dX5_isByte_2 : decode cX5_isByte 2 = .ok (.sipush 255, 3) := by decide +kernel
theorem dX5_isByte_5 : decode cX5_isByte 5 = .ok (.invokestatic 91, 3) := by decide +kernel
theorem dX5_isByte_8 : decode cX5_isByte 8 = .ok (.ireturn, 1) := by decide +kernel
theorem dX5_isSheet_0 : decode cX5_isSheet 0 = .ok (.iload_n 0, 1) := by decide +kernel
theorem dX5_isSheet_1 : decode cX5_isSheet 1 = .ok (.iconst 0, 1) := by decide +kernel
theorem dX5_isSheet_2 : decode cX5_isSheet 2 = .ok (.iconst 3, 1) := by decide +kernel
theorem dX5_isSheet_3 : decode cX5_isSheet 3 = .ok (.invokestatic 91, 3) := by decide +kernel
theorem dX5_isSheet_6 : decode cX5_isSheet 6 = .ok (.ireturn, 1) := by decide +kernel
theorem dX5_misfit_0 : decode cX5_misfit 0 = .ok (.iload_n 0, 1) := by decide +kernel
theorem dX5_misfit_1 : decode cX5_misfit 1 = .ok (.iload_n 1, 1) := by decide +kernel
theorem dX5_misfit_2 : decode cX5_misfit 2 = .ok (.iadd, 1) := by decide +kernel
theorem dX5_misfit_3 : decode cX5_misfit 3 = .ok (.sipush 300, 3) := by decide +kernel
theorem dX5_misfit_6 : decode cX5_misfit 6 = .ok (.if_icmp .le 5, 3) := by decide +kernel
theorem dX5_misfit_9 : decode cX5_misfit 9 = .ok (.iconst 1, 1) := by decide +kernel
theorem dX5_misfit_10 : decode cX5_misfit 10 = .ok (.ireturn, 1) := by decide +kernel
theorem dX5_misfit_11 : decode cX5_misfit 11 = .ok (.iload_n 0, 1) := by decide +kernel
theorem dX5_misfit_12 : decode cX5_misfit 12 = .ok (.bipush 6, 2) := by decide +kernel
theorem dX5_misfit_14 : decode cX5_misfit 14 = .ok (.iload_n 1, 1) := by decide +kernel
theorem dX5_misfit_15 : decode cX5_misfit 15 = .ok (.imul, 1) := by decide +kernel
theorem dX5_misfit_16 : decode cX5_misfit 16 = .ok (.if_icmp .gt 11, 3) := by decide +kernel
theorem dX5_misfit_19 : decode cX5_misfit 19 = .ok (.iload_n 1, 1) := by decide +kernel
theorem dX5_misfit_20 : decode cX5_misfit 20 = .ok (.bipush 6, 2) := by decide +kernel
theorem dX5_misfit_22 : decode cX5_misfit 22 = .ok (.iload_n 0, 1) := by decide +kernel
theorem dX5_misfit_23 : decode cX5_misfit 23 = .ok (.imul, 1) := by decide +kernel
theorem dX5_misfit_24 : decode cX5_misfit 24 = .ok (.if_icmp .le 7, 3) := by decide +kernel
theorem dX5_misfit_27 : decode cX5_misfit 27 = .ok (.iconst 2, 1) := by decide +kernel
theorem dX5_misfit_28 : decode cX5_misfit 28 = .ok (.goto 4, 3) := by decide +kernel
theorem dX5_misfit_31 : decode cX5_misfit 31 = .ok (.iconst 0, 1) := by decide +kernel
theorem dX5_misfit_32 : decode cX5_misfit 32 = .ok (.ireturn, 1) := by decide +kernel
theorem dX5_cut_0 : decode cX5_cut 0 = .ok (.lload_n 2, 1) := by decide +kernel
theorem dX5_cut_1 : decode cX5_cut 1 = .ok (.lconst 0, 1) := by decide +kernel
theorem dX5_cut_2 : decode cX5_cut 2 = .ok (.lcmp, 1) := by decide +kernel
theorem dX5_cut_3 : decode cX5_cut 3 = .ok (.ifCond .ne 7, 3) := by decide +kernel
theorem dX5_cut_6 : decode cX5_cut 6 = .ok (.lconst 0, 1) := by decide +kernel
theorem dX5_cut_7 : decode cX5_cut 7 = .ok (.goto 6, 3) := by decide +kernel
theorem dX5_cut_10 : decode cX5_cut 10 = .ok (.lload_n 0, 1) := by decide +kernel
theorem dX5_cut_11 : decode cX5_cut 11 = .ok (.lload_n 2, 1) := by decide +kernel
theorem dX5_cut_12 : decode cX5_cut 12 = .ok (.ldiv, 1) := by decide +kernel
theorem dX5_cut_13 : decode cX5_cut 13 = .ok (.lreturn, 1) := by decide +kernel
theorem dX5_greatestDivisor_0 : decode cX5_greatestDivisor 0 = .ok (.lload_n 0, 1) := by decide +kernel
theorem dX5_greatestDivisor_1 : decode cX5_greatestDivisor 1 = .ok (.lstore 4, 2) := by decide +kernel
theorem dX5_greatestDivisor_3 : decode cX5_greatestDivisor 3 = .ok (.lload_n 2, 1) := by decide +kernel
theorem dX5_greatestDivisor_4 : decode cX5_greatestDivisor 4 = .ok (.lstore 6, 2) := by decide +kernel
theorem dX5_greatestDivisor_6 : decode cX5_greatestDivisor 6 = .ok (.iconst 0, 1) := by decide +kernel
theorem dX5_greatestDivisor_7 : decode cX5_greatestDivisor 7 = .ok (.istore 8, 2) := by decide +kernel
theorem dX5_greatestDivisor_9 : decode cX5_greatestDivisor 9 = .ok (.iload 8, 2) := by decide +kernel
theorem dX5_greatestDivisor_11 : decode cX5_greatestDivisor 11 = .ok (.sipush 1000, 3) := by decide +kernel
theorem dX5_greatestDivisor_14 : decode cX5_greatestDivisor 14 = .ok (.if_icmp .ge 31, 3) := by decide +kernel
theorem dX5_greatestDivisor_17 : decode cX5_greatestDivisor 17 = .ok (.lload 6, 2) := by decide +kernel
theorem dX5_greatestDivisor_19 : decode cX5_greatestDivisor 19 = .ok (.lconst 0, 1) := by decide +kernel
theorem dX5_greatestDivisor_20 : decode cX5_greatestDivisor 20 = .ok (.lcmp, 1) := by decide +kernel
theorem dX5_greatestDivisor_21 : decode cX5_greatestDivisor 21 = .ok (.ifCond .eq 24, 3) := by decide +kernel
theorem dX5_greatestDivisor_24 : decode cX5_greatestDivisor 24 = .ok (.lload 4, 2) := by decide +kernel
theorem dX5_greatestDivisor_26 : decode cX5_greatestDivisor 26 = .ok (.lload 6, 2) := by decide +kernel
theorem dX5_greatestDivisor_28 : decode cX5_greatestDivisor 28 = .ok (.lrem, 1) := by decide +kernel
theorem dX5_greatestDivisor_29 : decode cX5_greatestDivisor 29 = .ok (.lstore 9, 2) := by decide +kernel
theorem dX5_greatestDivisor_31 : decode cX5_greatestDivisor 31 = .ok (.lload 6, 2) := by decide +kernel
theorem dX5_greatestDivisor_33 : decode cX5_greatestDivisor 33 = .ok (.lstore 4, 2) := by decide +kernel
theorem dX5_greatestDivisor_35 : decode cX5_greatestDivisor 35 = .ok (.lload 9, 2) := by decide +kernel
theorem dX5_greatestDivisor_37 : decode cX5_greatestDivisor 37 = .ok (.lstore 6, 2) := by decide +kernel
theorem dX5_greatestDivisor_39 : decode cX5_greatestDivisor 39 = .ok (.iinc 8 1, 3) := by decide +kernel
theorem dX5_greatestDivisor_42 : decode cX5_greatestDivisor 42 = .ok (.goto (-33), 3) := by decide +kernel
theorem dX5_greatestDivisor_45 : decode cX5_greatestDivisor 45 = .ok (.lload 4, 2) := by decide +kernel
theorem dX5_greatestDivisor_47 : decode cX5_greatestDivisor 47 = .ok (.lreturn, 1) := by decide +kernel
theorem dX5_lowest_0 : decode cX5_lowest 0 = .ok (.iload 4, 2) := by decide +kernel
theorem dX5_lowest_2 : decode cX5_lowest 2 = .ok (.ifCond .ne 7, 3) := by decide +kernel
theorem dX5_lowest_5 : decode cX5_lowest 5 = .ok (.lload_n 0, 1) := by decide +kernel
theorem dX5_lowest_6 : decode cX5_lowest 6 = .ok (.goto 4, 3) := by decide +kernel
theorem dX5_lowest_9 : decode cX5_lowest 9 = .ok (.lload_n 2, 1) := by decide +kernel
theorem dX5_lowest_10 : decode cX5_lowest 10 = .ok (.lload_n 0, 1) := by decide +kernel
theorem dX5_lowest_11 : decode cX5_lowest 11 = .ok (.invokestatic 205, 3) := by decide +kernel
theorem dX5_lowest_14 : decode cX5_lowest 14 = .ok (.lload_n 2, 1) := by decide +kernel
theorem dX5_lowest_15 : decode cX5_lowest 15 = .ok (.invokestatic 277, 3) := by decide +kernel
theorem dX5_lowest_18 : decode cX5_lowest 18 = .ok (.invokestatic 281, 3) := by decide +kernel
theorem dX5_lowest_21 : decode cX5_lowest 21 = .ok (.lreturn, 1) := by decide +kernel
theorem dX5_change_0 : decode cX5_change 0 = .ok (.aload_n 0, 1) := by decide +kernel
theorem dX5_change_1 : decode cX5_change 1 = .ok (.getfield 12, 3) := by decide +kernel
theorem dX5_change_4 : decode cX5_change 4 = .ok (.iload_n 1, 1) := by decide +kernel
theorem dX5_change_5 : decode cX5_change 5 = .ok (.invokevirtual 69, 3) := by decide +kernel
theorem dX5_change_8 : decode cX5_change 8 = .ok (.astore 4, 2) := by decide +kernel
theorem dX5_change_10 : decode cX5_change 10 = .ok (.aload 4, 2) := by decide +kernel
theorem dX5_change_12 : decode cX5_change 12 = .ok (.ifnull 11, 3) := by decide +kernel
theorem dX5_change_15 : decode cX5_change 15 = .ok (.iload_n 2, 1) := by decide +kernel
theorem dX5_change_16 : decode cX5_change 16 = .ok (.iload_n 3, 1) := by decide +kernel
theorem dX5_change_17 : decode cX5_change 17 = .ok (.invokestatic 57, 3) := by decide +kernel
theorem dX5_change_20 : decode cX5_change 20 = .ok (.ifCond .ne 6, 3) := by decide +kernel
theorem dX5_change_23 : decode cX5_change 23 = .ok (.bipush (-2), 2) := by decide +kernel
theorem dX5_change_25 : decode cX5_change 25 = .ok (.ireturn, 1) := by decide +kernel
theorem dX5_change_26 : decode cX5_change 26 = .ok (.aload 4, 2) := by decide +kernel
theorem dX5_change_28 : decode cX5_change 28 = .ok (.getfield 102, 3) := by decide +kernel
theorem dX5_change_31 : decode cX5_change 31 = .ok (.iload_n 2, 1) := by decide +kernel
theorem dX5_change_32 : decode cX5_change 32 = .ok (.iaload, 1) := by decide +kernel
theorem dX5_change_33 : decode cX5_change 33 = .ok (.istore 5, 2) := by decide +kernel
theorem dX5_change_35 : decode cX5_change 35 = .ok (.aload 4, 2) := by decide +kernel
theorem dX5_change_37 : decode cX5_change 37 = .ok (.getfield 102, 3) := by decide +kernel
theorem dX5_change_40 : decode cX5_change 40 = .ok (.iload_n 2, 1) := by decide +kernel
theorem dX5_change_41 : decode cX5_change 41 = .ok (.iload_n 3, 1) := by decide +kernel
theorem dX5_change_42 : decode cX5_change 42 = .ok (.iastore, 1) := by decide +kernel
theorem dX5_change_43 : decode cX5_change 43 = .ok (.iload 5, 2) := by decide +kernel
theorem dX5_change_45 : decode cX5_change 45 = .ok (.ireturn, 1) := by decide +kernel
theorem dX5_think_0 : decode cX5_think 0 = .ok (.aload_n 0, 1) := by decide +kernel
theorem dX5_think_1 : decode cX5_think 1 = .ok (.getfield 41, 3) := by decide +kernel
theorem dX5_think_4 : decode cX5_think 4 = .ok (.aload_n 1, 1) := by decide +kernel
theorem dX5_think_5 : decode cX5_think 5 = .ok (.invokevirtual 284, 3) := by decide +kernel
theorem dX5_think_8 : decode cX5_think 8 = .ok (.iconst 0, 1) := by decide +kernel
theorem dX5_think_9 : decode cX5_think 9 = .ok (.istore 4, 2) := by decide +kernel
theorem dX5_think_11 : decode cX5_think 11 = .ok (.iload 4, 2) := by decide +kernel
theorem dX5_think_13 : decode cX5_think 13 = .ok (.iload_n 3, 1) := by decide +kernel
theorem dX5_think_14 : decode cX5_think 14 = .ok (.if_icmp .ge 46, 3) := by decide +kernel
theorem dX5_think_17 : decode cX5_think 17 = .ok (.iload 4, 2) := by decide +kernel
theorem dX5_think_19 : decode cX5_think 19 = .ok (.aload_n 0, 1) := by decide +kernel
theorem dX5_think_20 : decode cX5_think 20 = .ok (.getfield 45, 3) := by decide +kernel
theorem dX5_think_23 : decode cX5_think 23 = .ok (.arraylength, 1) := by decide +kernel
theorem dX5_think_24 : decode cX5_think 24 = .ok (.if_icmp .ge 36, 3) := by decide +kernel
theorem dX5_think_27 : decode cX5_think 27 = .ok (.aload_n 0, 1) := by decide +kernel
theorem dX5_think_28 : decode cX5_think 28 = .ok (.getfield 45, 3) := by decide +kernel
theorem dX5_think_31 : decode cX5_think 31 = .ok (.iload 4, 2) := by decide +kernel
theorem dX5_think_33 : decode cX5_think 33 = .ok (.aload_n 0, 1) := by decide +kernel
theorem dX5_think_34 : decode cX5_think 34 = .ok (.getfield 12, 3) := by decide +kernel
theorem dX5_think_37 : decode cX5_think 37 = .ok (.iload_n 2, 1) := by decide +kernel
theorem dX5_think_38 : decode cX5_think 38 = .ok (.iload 4, 2) := by decide +kernel
theorem dX5_think_40 : decode cX5_think 40 = .ok (.iadd, 1) := by decide +kernel
theorem dX5_think_41 : decode cX5_think 41 = .ok (.invokevirtual 144, 3) := by decide +kernel
theorem dX5_think_44 : decode cX5_think 44 = .ok (.aload_n 1, 1) := by decide +kernel
theorem dX5_think_45 : decode cX5_think 45 = .ok (.iload_n 2, 1) := by decide +kernel
theorem dX5_think_46 : decode cX5_think 46 = .ok (.iload 4, 2) := by decide +kernel
theorem dX5_think_48 : decode cX5_think 48 = .ok (.iadd, 1) := by decide +kernel
theorem dX5_think_49 : decode cX5_think 49 = .ok (.invokevirtual 151, 3) := by decide +kernel
theorem dX5_think_52 : decode cX5_think 52 = .ok (.lsub, 1) := by decide +kernel
theorem dX5_think_53 : decode cX5_think 53 = .ok (.lastore, 1) := by decide +kernel
theorem dX5_think_54 : decode cX5_think 54 = .ok (.iinc 4 1, 3) := by decide +kernel
theorem dX5_think_57 : decode cX5_think 57 = .ok (.goto (-46), 3) := by decide +kernel
theorem dX5_think_60 : decode cX5_think 60 = .ok (.return_, 1) := by decide +kernel
theorem dX5_firstOtherwise_0 : decode cX5_firstOtherwise 0 = .ok (.iconst 0, 1) := by decide +kernel
theorem dX5_firstOtherwise_1 : decode cX5_firstOtherwise 1 = .ok (.istore_n 3, 1) := by decide +kernel
theorem dX5_firstOtherwise_2 : decode cX5_firstOtherwise 2 = .ok (.iload_n 3, 1) := by decide +kernel
theorem dX5_firstOtherwise_3 : decode cX5_firstOtherwise 3 = .ok (.aload_n 1, 1) := by decide +kernel
theorem dX5_firstOtherwise_4 : decode cX5_firstOtherwise 4 = .ok (.getfield 287, 3) := by decide +kernel
theorem dX5_firstOtherwise_7 : decode cX5_firstOtherwise 7 = .ok (.if_icmp .ge 31, 3) := by decide +kernel
theorem dX5_firstOtherwise_10 : decode cX5_firstOtherwise 10 = .ok (.aload_n 1, 1) := by decide +kernel
theorem dX5_firstOtherwise_11 : decode cX5_firstOtherwise 11 = .ok (.getfield 268, 3) := by decide +kernel
theorem dX5_firstOtherwise_14 : decode cX5_firstOtherwise 14 = .ok (.iload_n 3, 1) := by decide +kernel
theorem dX5_firstOtherwise_15 : decode cX5_firstOtherwise 15 = .ok (.laload, 1) := by decide +kernel
theorem dX5_firstOtherwise_16 : decode cX5_firstOtherwise 16 = .ok (.aload_n 0, 1) := by decide +kernel
theorem dX5_firstOtherwise_17 : decode cX5_firstOtherwise 17 = .ok (.getfield 12, 3) := by decide +kernel
theorem dX5_firstOtherwise_20 : decode cX5_firstOtherwise 20 = .ok (.iload_n 2, 1) := by decide +kernel
theorem dX5_firstOtherwise_21 : decode cX5_firstOtherwise 21 = .ok (.iload_n 3, 1) := by decide +kernel
theorem dX5_firstOtherwise_22 : decode cX5_firstOtherwise 22 = .ok (.iadd, 1) := by decide +kernel
theorem dX5_firstOtherwise_23 : decode cX5_firstOtherwise 23 = .ok (.invokevirtual 144, 3) := by decide +kernel
theorem dX5_firstOtherwise_26 : decode cX5_firstOtherwise 26 = .ok (.lcmp, 1) := by decide +kernel
theorem dX5_firstOtherwise_27 : decode cX5_firstOtherwise 27 = .ok (.ifCond .eq 5, 3) := by decide +kernel
theorem dX5_firstOtherwise_30 : decode cX5_firstOtherwise 30 = .ok (.iload_n 3, 1) := by decide +kernel
theorem dX5_firstOtherwise_31 : decode cX5_firstOtherwise 31 = .ok (.ireturn, 1) := by decide +kernel
theorem dX5_firstOtherwise_32 : decode cX5_firstOtherwise 32 = .ok (.iinc 3 1, 3) := by decide +kernel
theorem dX5_firstOtherwise_35 : decode cX5_firstOtherwise 35 = .ok (.goto (-33), 3) := by decide +kernel
theorem dX5_firstOtherwise_38 : decode cX5_firstOtherwise 38 = .ok (.iconst (-1), 1) := by decide +kernel
theorem dX5_firstOtherwise_39 : decode cX5_firstOtherwise 39 = .ok (.ireturn, 1) := by decide +kernel
theorem dX5_wrongBy_0 : decode cX5_wrongBy 0 = .ok (.getstatic 190, 3) := by decide +kernel
theorem dX5_wrongBy_3 : decode cX5_wrongBy 3 = .ok (.iload_n 1, 1) := by decide +kernel
theorem dX5_wrongBy_4 : decode cX5_wrongBy 4 = .ok (.iaload, 1) := by decide +kernel
theorem dX5_wrongBy_5 : decode cX5_wrongBy 5 = .ok (.iconst 1, 1) := by decide +kernel
theorem dX5_wrongBy_6 : decode cX5_wrongBy 6 = .ok (.iadd, 1) := by decide +kernel
theorem dX5_wrongBy_7 : decode cX5_wrongBy 7 = .ok (.istore 4, 2) := by decide +kernel
theorem dX5_wrongBy_9 : decode cX5_wrongBy 9 = .ok (.iconst 0, 1) := by decide +kernel
theorem dX5_wrongBy_10 : decode cX5_wrongBy 10 = .ok (.istore 5, 2) := by decide +kernel
theorem dX5_wrongBy_12 : decode cX5_wrongBy 12 = .ok (.iload 5, 2) := by decide +kernel
theorem dX5_wrongBy_14 : decode cX5_wrongBy 14 = .ok (.aload_n 0, 1) := by decide +kernel
theorem dX5_wrongBy_15 : decode cX5_wrongBy 15 = .ok (.getfield 12, 3) := by decide +kernel
theorem dX5_wrongBy_18 : decode cX5_wrongBy 18 = .ok (.getfield 65, 3) := by decide +kernel
theorem dX5_wrongBy_21 : decode cX5_wrongBy 21 = .ok (.if_icmp .ge 73, 3) := by decide +kernel
theorem dX5_wrongBy_24 : decode cX5_wrongBy 24 = .ok (.aload_n 0, 1) := by decide +kernel
theorem dX5_wrongBy_25 : decode cX5_wrongBy 25 = .ok (.aload_n 0, 1) := by decide +kernel
theorem dX5_wrongBy_26 : decode cX5_wrongBy 26 = .ok (.getfield 12, 3) := by decide +kernel
theorem dX5_wrongBy_29 : decode cX5_wrongBy 29 = .ok (.getfield 288, 3) := by decide +kernel
theorem dX5_wrongBy_32 : decode cX5_wrongBy 32 = .ok (.iload 5, 2) := by decide +kernel
theorem dX5_wrongBy_34 : decode cX5_wrongBy 34 = .ok (.aaload, 1) := by decide +kernel
theorem dX5_wrongBy_35 : decode cX5_wrongBy 35 = .ok (.iload_n 3, 1) := by decide +kernel
theorem dX5_wrongBy_36 : decode cX5_wrongBy 36 = .ok (.aload_n 2, 1) := by decide +kernel
theorem dX5_wrongBy_37 : decode cX5_wrongBy 37 = .ok (.getfield 287, 3) := by decide +kernel
theorem dX5_wrongBy_40 : decode cX5_wrongBy 40 = .ok (.invokevirtual 186, 3) := by decide +kernel
theorem dX5_wrongBy_43 : decode cX5_wrongBy 43 = .ok (.iconst 0, 1) := by decide +kernel
theorem dX5_wrongBy_44 : decode cX5_wrongBy 44 = .ok (.istore 6, 2) := by decide +kernel
theorem dX5_wrongBy_46 : decode cX5_wrongBy 46 = .ok (.iload 6, 2) := by decide +kernel
theorem dX5_wrongBy_48 : decode cX5_wrongBy 48 = .ok (.iload 4, 2) := by decide +kernel
theorem dX5_wrongBy_50 : decode cX5_wrongBy 50 = .ok (.if_icmp .ge 38, 3) := by decide +kernel
theorem dX5_wrongBy_53 : decode cX5_wrongBy 53 = .ok (.aload_n 0, 1) := by decide +kernel
theorem dX5_wrongBy_54 : decode cX5_wrongBy 54 = .ok (.getfield 41, 3) := by decide +kernel
theorem dX5_wrongBy_57 : decode cX5_wrongBy 57 = .ok (.getfield 102, 3) := by decide +kernel
theorem dX5_wrongBy_60 : decode cX5_wrongBy 60 = .ok (.iload_n 1, 1) := by decide +kernel
theorem dX5_wrongBy_61 : decode cX5_wrongBy 61 = .ok (.iload 6, 2) := by decide +kernel
theorem dX5_wrongBy_63 : decode cX5_wrongBy 63 = .ok (.iastore, 1) := by decide +kernel
theorem dX5_wrongBy_64 : decode cX5_wrongBy 64 = .ok (.aload_n 0, 1) := by decide +kernel
theorem dX5_wrongBy_65 : decode cX5_wrongBy 65 = .ok (.aload_n 2, 1) := by decide +kernel
theorem dX5_wrongBy_66 : decode cX5_wrongBy 66 = .ok (.iload_n 3, 1) := by decide +kernel
theorem dX5_wrongBy_67 : decode cX5_wrongBy 67 = .ok (.invokevirtual 292, 3) := by decide +kernel
theorem dX5_wrongBy_70 : decode cX5_wrongBy 70 = .ok (.ifCond .eq 12, 3) := by decide +kernel
theorem dX5_wrongBy_73 : decode cX5_wrongBy 73 = .ok (.iload 4, 2) := by decide +kernel
theorem dX5_wrongBy_75 : decode cX5_wrongBy 75 = .ok (.iload 5, 2) := by decide +kernel
theorem dX5_wrongBy_77 : decode cX5_wrongBy 77 = .ok (.imul, 1) := by decide +kernel
theorem dX5_wrongBy_78 : decode cX5_wrongBy 78 = .ok (.iload 6, 2) := by decide +kernel
theorem dX5_wrongBy_80 : decode cX5_wrongBy 80 = .ok (.iadd, 1) := by decide +kernel
theorem dX5_wrongBy_81 : decode cX5_wrongBy 81 = .ok (.ireturn, 1) := by decide +kernel
theorem dX5_wrongBy_82 : decode cX5_wrongBy 82 = .ok (.iinc 6 1, 3) := by decide +kernel
theorem dX5_wrongBy_85 : decode cX5_wrongBy 85 = .ok (.goto (-39), 3) := by decide +kernel
theorem dX5_wrongBy_88 : decode cX5_wrongBy 88 = .ok (.iinc 5 1, 3) := by decide +kernel
theorem dX5_wrongBy_91 : decode cX5_wrongBy 91 = .ok (.goto (-79), 3) := by decide +kernel
theorem dX5_wrongBy_94 : decode cX5_wrongBy 94 = .ok (.iconst (-1), 1) := by decide +kernel
theorem dX5_wrongBy_95 : decode cX5_wrongBy 95 = .ok (.ireturn, 1) := by decide +kernel
theorem dX5_isAllSo_0 : decode cX5_isAllSo 0 = .ok (.iconst 0, 1) := by decide +kernel
theorem dX5_isAllSo_1 : decode cX5_isAllSo 1 = .ok (.istore_n 3, 1) := by decide +kernel
theorem dX5_isAllSo_2 : decode cX5_isAllSo 2 = .ok (.iload_n 3, 1) := by decide +kernel
theorem dX5_isAllSo_3 : decode cX5_isAllSo 3 = .ok (.aload_n 1, 1) := by decide +kernel
theorem dX5_isAllSo_4 : decode cX5_isAllSo 4 = .ok (.getfield 287, 3) := by decide +kernel
theorem dX5_isAllSo_7 : decode cX5_isAllSo 7 = .ok (.if_icmp .ge 47, 3) := by decide +kernel
theorem dX5_isAllSo_10 : decode cX5_isAllSo 10 = .ok (.iload_n 3, 1) := by decide +kernel
theorem dX5_isAllSo_11 : decode cX5_isAllSo 11 = .ok (.aload_n 0, 1) := by decide +kernel
theorem dX5_isAllSo_12 : decode cX5_isAllSo 12 = .ok (.getfield 45, 3) := by decide +kernel
theorem dX5_isAllSo_15 : decode cX5_isAllSo 15 = .ok (.arraylength, 1) := by decide +kernel
theorem dX5_isAllSo_16 : decode cX5_isAllSo 16 = .ok (.if_icmp .ge 38, 3) := by decide +kernel
theorem dX5_isAllSo_19 : decode cX5_isAllSo 19 = .ok (.aload_n 1, 1) := by decide +kernel
theorem dX5_isAllSo_20 : decode cX5_isAllSo 20 = .ok (.getfield 268, 3) := by decide +kernel
theorem dX5_isAllSo_23 : decode cX5_isAllSo 23 = .ok (.iload_n 3, 1) := by decide +kernel
theorem dX5_isAllSo_24 : decode cX5_isAllSo 24 = .ok (.laload, 1) := by decide +kernel
theorem dX5_isAllSo_25 : decode cX5_isAllSo 25 = .ok (.aload_n 0, 1) := by decide +kernel
theorem dX5_isAllSo_26 : decode cX5_isAllSo 26 = .ok (.getfield 45, 3) := by decide +kernel
theorem dX5_isAllSo_29 : decode cX5_isAllSo 29 = .ok (.iload_n 3, 1) := by decide +kernel
theorem dX5_isAllSo_30 : decode cX5_isAllSo 30 = .ok (.laload, 1) := by decide +kernel
theorem dX5_isAllSo_31 : decode cX5_isAllSo 31 = .ok (.aload_n 0, 1) := by decide +kernel
theorem dX5_isAllSo_32 : decode cX5_isAllSo 32 = .ok (.getfield 41, 3) := by decide +kernel
theorem dX5_isAllSo_35 : decode cX5_isAllSo 35 = .ok (.iload_n 2, 1) := by decide +kernel
theorem dX5_isAllSo_36 : decode cX5_isAllSo 36 = .ok (.iload_n 3, 1) := by decide +kernel
theorem dX5_isAllSo_37 : decode cX5_isAllSo 37 = .ok (.iadd, 1) := by decide +kernel
theorem dX5_isAllSo_38 : decode cX5_isAllSo 38 = .ok (.invokevirtual 151, 3) := by decide +kernel
theorem dX5_isAllSo_41 : decode cX5_isAllSo 41 = .ok (.ladd, 1) := by decide +kernel
theorem dX5_isAllSo_42 : decode cX5_isAllSo 42 = .ok (.lcmp, 1) := by decide +kernel
theorem dX5_isAllSo_43 : decode cX5_isAllSo 43 = .ok (.ifCond .eq 5, 3) := by decide +kernel
theorem dX5_isAllSo_46 : decode cX5_isAllSo 46 = .ok (.iconst 0, 1) := by decide +kernel
theorem dX5_isAllSo_47 : decode cX5_isAllSo 47 = .ok (.ireturn, 1) := by decide +kernel
theorem dX5_isAllSo_48 : decode cX5_isAllSo 48 = .ok (.iinc 3 1, 3) := by decide +kernel
theorem dX5_isAllSo_51 : decode cX5_isAllSo 51 = .ok (.goto (-49), 3) := by decide +kernel
theorem dX5_isAllSo_54 : decode cX5_isAllSo 54 = .ok (.iconst 1, 1) := by decide +kernel
theorem dX5_isAllSo_55 : decode cX5_isAllSo 55 = .ok (.ireturn, 1) := by decide +kernel
theorem dX5_hasHighs_0 : decode cX5_hasHighs 0 = .ok (.iconst 0, 1) := by decide +kernel
theorem dX5_hasHighs_1 : decode cX5_hasHighs 1 = .ok (.istore 4, 2) := by decide +kernel
theorem dX5_hasHighs_3 : decode cX5_hasHighs 3 = .ok (.aload_n 0, 1) := by decide +kernel
theorem dX5_hasHighs_4 : decode cX5_hasHighs 4 = .ok (.getfield 52, 3) := by decide +kernel
theorem dX5_hasHighs_7 : decode cX5_hasHighs 7 = .ok (.aload_n 0, 1) := by decide +kernel
theorem dX5_hasHighs_8 : decode cX5_hasHighs 8 = .ok (.getfield 45, 3) := by decide +kernel
theorem dX5_hasHighs_11 : decode cX5_hasHighs 11 = .ok (.iconst 0, 1) := by decide +kernel
theorem dX5_hasHighs_12 : decode cX5_hasHighs 12 = .ok (.laload, 1) := by decide +kernel
theorem dX5_hasHighs_13 : decode cX5_hasHighs 13 = .ok (.aload_n 0, 1) := by decide +kernel
theorem dX5_hasHighs_14 : decode cX5_hasHighs 14 = .ok (.getfield 41, 3) := by decide +kernel
theorem dX5_hasHighs_17 : decode cX5_hasHighs 17 = .ok (.iload_n 2, 1) := by decide +kernel
theorem dX5_hasHighs_18 : decode cX5_hasHighs 18 = .ok (.invokevirtual 151, 3) := by decide +kernel
theorem dX5_hasHighs_21 : decode cX5_hasHighs 21 = .ok (.ladd, 1) := by decide +kernel
theorem dX5_hasHighs_22 : decode cX5_hasHighs 22 = .ok (.invokevirtual 158, 3) := by decide +kernel
theorem dX5_hasHighs_25 : decode cX5_hasHighs 25 = .ok (.iconst 1, 1) := by decide +kernel
theorem dX5_hasHighs_26 : decode cX5_hasHighs 26 = .ok (.istore 5, 2) := by decide +kernel
theorem dX5_hasHighs_28 : decode cX5_hasHighs 28 = .ok (.iload 5, 2) := by decide +kernel
theorem dX5_hasHighs_30 : decode cX5_hasHighs 30 = .ok (.iload_n 3, 1) := by decide +kernel
theorem dX5_hasHighs_31 : decode cX5_hasHighs 31 = .ok (.if_icmp .gt 103, 3) := by decide +kernel
theorem dX5_hasHighs_34 : decode cX5_hasHighs 34 = .ok (.iload 5, 2) := by decide +kernel
theorem dX5_hasHighs_36 : decode cX5_hasHighs 36 = .ok (.aload_n 0, 1) := by decide +kernel
theorem dX5_hasHighs_37 : decode cX5_hasHighs 37 = .ok (.getfield 45, 3) := by decide +kernel
theorem dX5_hasHighs_40 : decode cX5_hasHighs 40 = .ok (.arraylength, 1) := by decide +kernel
theorem dX5_hasHighs_41 : decode cX5_hasHighs 41 = .ok (.if_icmp .ge 93, 3) := by decide +kernel
theorem dX5_hasHighs_44 : decode cX5_hasHighs 44 = .ok (.iload 4, 2) := by decide +kernel
theorem dX5_hasHighs_46 : decode cX5_hasHighs 46 = .ok (.aload_n 1, 1) := by decide +kernel
theorem dX5_hasHighs_47 : decode cX5_hasHighs 47 = .ok (.getfield 287, 3) := by decide +kernel
theorem dX5_hasHighs_50 : decode cX5_hasHighs 50 = .ok (.if_icmp .ge 84, 3) := by decide +kernel
theorem dX5_hasHighs_53 : decode cX5_hasHighs 53 = .ok (.aload_n 0, 1) := by decide +kernel
theorem dX5_hasHighs_54 : decode cX5_hasHighs 54 = .ok (.getfield 52, 3) := by decide +kernel
theorem dX5_hasHighs_57 : decode cX5_hasHighs 57 = .ok (.aload_n 0, 1) := by decide +kernel
theorem dX5_hasHighs_58 : decode cX5_hasHighs 58 = .ok (.getfield 45, 3) := by decide +kernel
theorem dX5_hasHighs_61 : decode cX5_hasHighs 61 = .ok (.iload 5, 2) := by decide +kernel
theorem dX5_hasHighs_63 : decode cX5_hasHighs 63 = .ok (.laload, 1) := by decide +kernel
theorem dX5_hasHighs_64 : decode cX5_hasHighs 64 = .ok (.aload_n 0, 1) := by decide +kernel
theorem dX5_hasHighs_65 : decode cX5_hasHighs 65 = .ok (.getfield 41, 3) := by decide +kernel
theorem dX5_hasHighs_68 : decode cX5_hasHighs 68 = .ok (.iload_n 2, 1) := by decide +kernel
theorem dX5_hasHighs_69 : decode cX5_hasHighs 69 = .ok (.iload 5, 2) := by decide +kernel
theorem dX5_hasHighs_71 : decode cX5_hasHighs 71 = .ok (.iadd, 1) := by decide +kernel
theorem dX5_hasHighs_72 : decode cX5_hasHighs 72 = .ok (.invokevirtual 151, 3) := by decide +kernel
theorem dX5_hasHighs_75 : decode cX5_hasHighs 75 = .ok (.ladd, 1) := by decide +kernel
theorem dX5_hasHighs_76 : decode cX5_hasHighs 76 = .ok (.invokevirtual 164, 3) := by decide +kernel
theorem dX5_hasHighs_79 : decode cX5_hasHighs 79 = .ok (.iconst 1, 1) := by decide +kernel
theorem dX5_hasHighs_80 : decode cX5_hasHighs 80 = .ok (.if_icmp .ne 7, 3) := by decide +kernel
theorem dX5_hasHighs_83 : decode cX5_hasHighs 83 = .ok (.iconst 1, 1) := by decide +kernel
theorem dX5_hasHighs_84 : decode cX5_hasHighs 84 = .ok (.goto 4, 3) := by decide +kernel
theorem dX5_hasHighs_87 : decode cX5_hasHighs 87 = .ok (.iconst 0, 1) := by decide +kernel
theorem dX5_hasHighs_88 : decode cX5_hasHighs 88 = .ok (.istore 6, 2) := by decide +kernel
theorem dX5_hasHighs_90 : decode cX5_hasHighs 90 = .ok (.iload 6, 2) := by decide +kernel
theorem dX5_hasHighs_92 : decode cX5_hasHighs 92 = .ok (.aload_n 1, 1) := by decide +kernel
theorem dX5_hasHighs_93 : decode cX5_hasHighs 93 = .ok (.getfield 268, 3) := by decide +kernel
theorem dX5_hasHighs_96 : decode cX5_hasHighs 96 = .ok (.iload 4, 2) := by decide +kernel
theorem dX5_hasHighs_98 : decode cX5_hasHighs 98 = .ok (.laload, 1) := by decide +kernel
theorem dX5_hasHighs_99 : decode cX5_hasHighs 99 = .ok (.iload_n 2, 1) := by decide +kernel
theorem dX5_hasHighs_100 : decode cX5_hasHighs 100 = .ok (.iload 5, 2) := by decide +kernel
theorem dX5_hasHighs_102 : decode cX5_hasHighs 102 = .ok (.iadd, 1) := by decide +kernel
theorem dX5_hasHighs_103 : decode cX5_hasHighs 103 = .ok (.iconst 1, 1) := by decide +kernel
theorem dX5_hasHighs_104 : decode cX5_hasHighs 104 = .ok (.isub, 1) := by decide +kernel
theorem dX5_hasHighs_105 : decode cX5_hasHighs 105 = .ok (.i2l, 1) := by decide +kernel
theorem dX5_hasHighs_106 : decode cX5_hasHighs 106 = .ok (.lcmp, 1) := by decide +kernel
theorem dX5_hasHighs_107 : decode cX5_hasHighs 107 = .ok (.ifCond .ne 7, 3) := by decide +kernel
theorem dX5_hasHighs_110 : decode cX5_hasHighs 110 = .ok (.iconst 1, 1) := by decide +kernel
theorem dX5_hasHighs_111 : decode cX5_hasHighs 111 = .ok (.goto 4, 3) := by decide +kernel
theorem dX5_hasHighs_114 : decode cX5_hasHighs 114 = .ok (.iconst 0, 1) := by decide +kernel
theorem dX5_hasHighs_115 : decode cX5_hasHighs 115 = .ok (.if_icmp .eq 5, 3) := by decide +kernel
theorem dX5_hasHighs_118 : decode cX5_hasHighs 118 = .ok (.iconst 0, 1) := by decide +kernel
theorem dX5_hasHighs_119 : decode cX5_hasHighs 119 = .ok (.ireturn, 1) := by decide +kernel
theorem dX5_hasHighs_120 : decode cX5_hasHighs 120 = .ok (.iload 6, 2) := by decide +kernel
theorem dX5_hasHighs_122 : decode cX5_hasHighs 122 = .ok (.ifCond .eq 6, 3) := by decide +kernel
theorem dX5_hasHighs_125 : decode cX5_hasHighs 125 = .ok (.iinc 4 1, 3) := by decide +kernel
theorem dX5_hasHighs_128 : decode cX5_hasHighs 128 = .ok (.iinc 5 1, 3) := by decide +kernel
theorem dX5_hasHighs_131 : decode cX5_hasHighs 131 = .ok (.goto (-103), 3) := by decide +kernel
theorem dX5_hasHighs_134 : decode cX5_hasHighs 134 = .ok (.iload 4, 2) := by decide +kernel
theorem dX5_hasHighs_136 : decode cX5_hasHighs 136 = .ok (.aload_n 1, 1) := by decide +kernel
theorem dX5_hasHighs_137 : decode cX5_hasHighs 137 = .ok (.getfield 287, 3) := by decide +kernel
theorem dX5_hasHighs_140 : decode cX5_hasHighs 140 = .ok (.if_icmp .ne 7, 3) := by decide +kernel
theorem dX5_hasHighs_143 : decode cX5_hasHighs 143 = .ok (.iconst 1, 1) := by decide +kernel
theorem dX5_hasHighs_144 : decode cX5_hasHighs 144 = .ok (.goto 4, 3) := by decide +kernel
theorem dX5_hasHighs_147 : decode cX5_hasHighs 147 = .ok (.iconst 0, 1) := by decide +kernel
theorem dX5_hasHighs_148 : decode cX5_hasHighs 148 = .ok (.ireturn, 1) := by decide +kernel
theorem dX5_levelByLot_0 : decode cX5_levelByLot 0 = .ok (.iload_n 1, 1) := by decide +kernel
theorem dX5_levelByLot_1 : decode cX5_levelByLot 1 = .ok (.istore_n 3, 1) := by decide +kernel
theorem dX5_levelByLot_2 : decode cX5_levelByLot 2 = .ok (.lconst 0, 1) := by decide +kernel
theorem dX5_levelByLot_3 : decode cX5_levelByLot 3 = .ok (.lstore 4, 2) := by decide +kernel
theorem dX5_levelByLot_5 : decode cX5_levelByLot 5 = .ok (.iconst 0, 1) := by decide +kernel
theorem dX5_levelByLot_6 : decode cX5_levelByLot 6 = .ok (.istore 6, 2) := by decide +kernel
theorem dX5_levelByLot_8 : decode cX5_levelByLot 8 = .ok (.iload 6, 2) := by decide +kernel
theorem dX5_levelByLot_10 : decode cX5_levelByLot 10 = .ok (.aload_n 0, 1) := by decide +kernel
theorem dX5_levelByLot_11 : decode cX5_levelByLot 11 = .ok (.getfield 12, 3) := by decide +kernel
theorem dX5_levelByLot_14 : decode cX5_levelByLot 14 = .ok (.getfield 65, 3) := by decide +kernel
theorem dX5_levelByLot_17 : decode cX5_levelByLot 17 = .ok (.if_icmp .ge 66, 3) := by decide +kernel
theorem dX5_levelByLot_20 : decode cX5_levelByLot 20 = .ok (.iload_n 3, 1) := by decide +kernel
theorem dX5_levelByLot_21 : decode cX5_levelByLot 21 = .ok (.ldc_w 296, 3) := by decide +kernel
theorem dX5_levelByLot_24 : decode cX5_levelByLot 24 = .ok (.imul, 1) := by decide +kernel
theorem dX5_levelByLot_25 : decode cX5_levelByLot 25 = .ok (.sipush 12345, 3) := by decide +kernel
theorem dX5_levelByLot_28 : decode cX5_levelByLot 28 = .ok (.iadd, 1) := by decide +kernel
theorem dX5_levelByLot_29 : decode cX5_levelByLot 29 = .ok (.istore_n 3, 1) := by decide +kernel
theorem dX5_levelByLot_30 : decode cX5_levelByLot 30 = .ok (.aload_n 0, 1) := by decide +kernel
theorem dX5_levelByLot_31 : decode cX5_levelByLot 31 = .ok (.getfield 41, 3) := by decide +kernel
theorem dX5_levelByLot_34 : decode cX5_levelByLot 34 = .ok (.aload_n 0, 1) := by decide +kernel
theorem dX5_levelByLot_35 : decode cX5_levelByLot 35 = .ok (.getfield 12, 3) := by decide +kernel
theorem dX5_levelByLot_38 : decode cX5_levelByLot 38 = .ok (.getfield 288, 3) := by decide +kernel
theorem dX5_levelByLot_41 : decode cX5_levelByLot 41 = .ok (.iload 6, 2) := by decide +kernel
theorem dX5_levelByLot_43 : decode cX5_levelByLot 43 = .ok (.aaload, 1) := by decide +kernel
theorem dX5_levelByLot_44 : decode cX5_levelByLot 44 = .ok (.invokevirtual 284, 3) := by decide +kernel
theorem dX5_levelByLot_47 : decode cX5_levelByLot 47 = .ok (.aload_n 0, 1) := by decide +kernel
theorem dX5_levelByLot_48 : decode cX5_levelByLot 48 = .ok (.getfield 41, 3) := by decide +kernel
theorem dX5_levelByLot_51 : decode cX5_levelByLot 51 = .ok (.getfield 102, 3) := by decide +kernel
theorem dX5_levelByLot_54 : decode cX5_levelByLot 54 = .ok (.iconst 3, 1) := by decide +kernel
theorem dX5_levelByLot_55 : decode cX5_levelByLot 55 = .ok (.iload_n 3, 1) := by decide +kernel
theorem dX5_levelByLot_56 : decode cX5_levelByLot 56 = .ok (.bipush 9, 2) := by decide +kernel
theorem dX5_levelByLot_58 : decode cX5_levelByLot 58 = .ok (.iushr, 1) := by decide +kernel
theorem dX5_levelByLot_59 : decode cX5_levelByLot 59 = .ok (.sipush 1024, 3) := by decide +kernel
theorem dX5_levelByLot_62 : decode cX5_levelByLot 62 = .ok (.irem, 1) := by decide +kernel
theorem dX5_levelByLot_63 : decode cX5_levelByLot 63 = .ok (.iastore, 1) := by decide +kernel
theorem dX5_levelByLot_64 : decode cX5_levelByLot 64 = .ok (.lload 4, 2) := by decide +kernel
theorem dX5_levelByLot_66 : decode cX5_levelByLot 66 = .ok (.aload_n 0, 1) := by decide +kernel
theorem dX5_levelByLot_67 : decode cX5_levelByLot 67 = .ok (.getfield 41, 3) := by decide +kernel
theorem dX5_levelByLot_70 : decode cX5_levelByLot 70 = .ok (.iload_n 2, 1) := by decide +kernel
theorem dX5_levelByLot_71 : decode cX5_levelByLot 71 = .ok (.invokevirtual 151, 3) := by decide +kernel
theorem dX5_levelByLot_74 : decode cX5_levelByLot 74 = .ok (.ladd, 1) := by decide +kernel
theorem dX5_levelByLot_75 : decode cX5_levelByLot 75 = .ok (.lstore 4, 2) := by decide +kernel
theorem dX5_levelByLot_77 : decode cX5_levelByLot 77 = .ok (.iinc 6 1, 3) := by decide +kernel
theorem dX5_levelByLot_80 : decode cX5_levelByLot 80 = .ok (.goto (-72), 3) := by decide +kernel
theorem dX5_levelByLot_83 : decode cX5_levelByLot 83 = .ok (.lload 4, 2) := by decide +kernel
theorem dX5_levelByLot_85 : decode cX5_levelByLot 85 = .ok (.lreturn, 1) := by decide +kernel
theorem dX5_doClause_0 : decode cX5_doClause 0 = .ok (.aload_n 0, 1) := by decide +kernel
theorem dX5_doClause_1 : decode cX5_doClause 1 = .ok (.getfield 34, 3) := by decide +kernel
theorem dX5_doClause_4 : decode cX5_doClause 4 = .ok (.iload_n 2, 1) := by decide +kernel
theorem dX5_doClause_5 : decode cX5_doClause 5 = .ok (.invokevirtual 239, 3) := by decide +kernel
theorem dX5_doClause_8 : decode cX5_doClause 8 = .ok (.istore_n 3, 1) := by decide +kernel
theorem dX5_doClause_9 : decode cX5_doClause 9 = .ok (.aload_n 0, 1) := by decide +kernel
theorem dX5_doClause_10 : decode cX5_doClause 10 = .ok (.getfield 34, 3) := by decide +kernel
theorem dX5_doClause_13 : decode cX5_doClause 13 = .ok (.iload_n 2, 1) := by decide +kernel
theorem dX5_doClause_14 : decode cX5_doClause 14 = .ok (.iconst 1, 1) := by decide +kernel
theorem dX5_doClause_15 : decode cX5_doClause 15 = .ok (.iadd, 1) := by decide +kernel
theorem dX5_doClause_16 : decode cX5_doClause 16 = .ok (.invokevirtual 239, 3) := by decide +kernel
theorem dX5_doClause_19 : decode cX5_doClause 19 = .ok (.istore 4, 2) := by decide +kernel
theorem dX5_doClause_21 : decode cX5_doClause 21 = .ok (.aload_n 0, 1) := by decide +kernel
theorem dX5_doClause_22 : decode cX5_doClause 22 = .ok (.getfield 34, 3) := by decide +kernel
theorem dX5_doClause_25 : decode cX5_doClause 25 = .ok (.iload_n 2, 1) := by decide +kernel
theorem dX5_doClause_26 : decode cX5_doClause 26 = .ok (.iconst 2, 1) := by decide +kernel
theorem dX5_doClause_27 : decode cX5_doClause 27 = .ok (.iadd, 1) := by decide +kernel
theorem dX5_doClause_28 : decode cX5_doClause 28 = .ok (.invokevirtual 239, 3) := by decide +kernel
theorem dX5_doClause_31 : decode cX5_doClause 31 = .ok (.istore 5, 2) := by decide +kernel
theorem dX5_doClause_33 : decode cX5_doClause 33 = .ok (.iload_n 1, 1) := by decide +kernel
theorem dX5_doClause_34 : decode cX5_doClause 34 = .ok (.tableswitch 88 0 4 #[34, 54, 64, 70, 79], 34) := by decide +kernel
theorem dX5_doClause_68 : decode cX5_doClause 68 = .ok (.aload_n 0, 1) := by decide +kernel
theorem dX5_doClause_69 : decode cX5_doClause 69 = .ok (.iload_n 3, 1) := by decide +kernel
theorem dX5_doClause_70 : decode cX5_doClause 70 = .ok (.iload 4, 2) := by decide +kernel
theorem dX5_doClause_72 : decode cX5_doClause 72 = .ok (.iload 5, 2) := by decide +kernel
theorem dX5_doClause_74 : decode cX5_doClause 74 = .ok (.aload_n 0, 1) := by decide +kernel
theorem dX5_doClause_75 : decode cX5_doClause 75 = .ok (.getfield 34, 3) := by decide +kernel
theorem dX5_doClause_78 : decode cX5_doClause 78 = .ok (.iload_n 2, 1) := by decide +kernel
theorem dX5_doClause_79 : decode cX5_doClause 79 = .ok (.iconst 3, 1) := by decide +kernel
theorem dX5_doClause_80 : decode cX5_doClause 80 = .ok (.iadd, 1) := by decide +kernel
theorem dX5_doClause_81 : decode cX5_doClause 81 = .ok (.invokevirtual 239, 3) := by decide +kernel
theorem dX5_doClause_84 : decode cX5_doClause 84 = .ok (.invokevirtual 297, 3) := by decide +kernel
theorem dX5_doClause_87 : decode cX5_doClause 87 = .ok (.ireturn, 1) := by decide +kernel
theorem dX5_doClause_88 : decode cX5_doClause 88 = .ok (.aload_n 0, 1) := by decide +kernel
theorem dX5_doClause_89 : decode cX5_doClause 89 = .ok (.iload_n 3, 1) := by decide +kernel
theorem dX5_doClause_90 : decode cX5_doClause 90 = .ok (.iload 4, 2) := by decide +kernel
theorem dX5_doClause_92 : decode cX5_doClause 92 = .ok (.iload 5, 2) := by decide +kernel
theorem dX5_doClause_94 : decode cX5_doClause 94 = .ok (.invokevirtual 300, 3) := by decide +kernel
theorem dX5_doClause_97 : decode cX5_doClause 97 = .ok (.ireturn, 1) := by decide +kernel
theorem dX5_doClause_98 : decode cX5_doClause 98 = .ok (.aload_n 0, 1) := by decide +kernel
theorem dX5_doClause_99 : decode cX5_doClause 99 = .ok (.iload_n 3, 1) := by decide +kernel
theorem dX5_doClause_100 : decode cX5_doClause 100 = .ok (.invokevirtual 303, 3) := by decide +kernel
theorem dX5_doClause_103 : decode cX5_doClause 103 = .ok (.ireturn, 1) := by decide +kernel
theorem dX5_doClause_104 : decode cX5_doClause 104 = .ok (.aload_n 0, 1) := by decide +kernel
theorem dX5_doClause_105 : decode cX5_doClause 105 = .ok (.iload_n 3, 1) := by decide +kernel
theorem dX5_doClause_106 : decode cX5_doClause 106 = .ok (.iconst 3, 1) := by decide +kernel
theorem dX5_doClause_107 : decode cX5_doClause 107 = .ok (.iload 4, 2) := by decide +kernel
theorem dX5_doClause_109 : decode cX5_doClause 109 = .ok (.invokevirtual 98, 3) := by decide +kernel
theorem dX5_doClause_112 : decode cX5_doClause 112 = .ok (.ireturn, 1) := by decide +kernel
theorem dX5_doClause_113 : decode cX5_doClause 113 = .ok (.aload_n 0, 1) := by decide +kernel
theorem dX5_doClause_114 : decode cX5_doClause 114 = .ok (.iload_n 3, 1) := by decide +kernel
theorem dX5_doClause_115 : decode cX5_doClause 115 = .ok (.iconst 2, 1) := by decide +kernel
theorem dX5_doClause_116 : decode cX5_doClause 116 = .ok (.iload 4, 2) := by decide +kernel
theorem dX5_doClause_118 : decode cX5_doClause 118 = .ok (.invokevirtual 98, 3) := by decide +kernel
theorem dX5_doClause_121 : decode cX5_doClause 121 = .ok (.ireturn, 1) := by decide +kernel
theorem dX5_doClause_122 : decode cX5_doClause 122 = .ok (.bipush (-2), 2) := by decide +kernel
theorem dX5_doClause_124 : decode cX5_doClause 124 = .ok (.ireturn, 1) := by decide +kernel
theorem dX5_numbersOf_0 : decode cX5_numbersOf 0 = .ok (.iload_n 0, 1) := by decide +kernel
theorem dX5_numbersOf_1 : decode cX5_numbersOf 1 = .ok (.iconst 0, 1) := by decide +kernel
theorem dX5_numbersOf_2 : decode cX5_numbersOf 2 = .ok (.iconst 4, 1) := by decide +kernel
theorem dX5_numbersOf_3 : decode cX5_numbersOf 3 = .ok (.invokestatic 91, 3) := by decide +kernel
theorem dX5_numbersOf_6 : decode cX5_numbersOf 6 = .ok (.ifCond .eq 11, 3) := by decide +kernel
theorem dX5_numbersOf_9 : decode cX5_numbersOf 9 = .ok (.getstatic 305, 3) := by decide +kernel
theorem dX5_numbersOf_12 : decode cX5_numbersOf 12 = .ok (.iload_n 0, 1) := by decide +kernel
theorem dX5_numbersOf_13 : decode cX5_numbersOf 13 = .ok (.iaload, 1) := by decide +kernel
theorem dX5_numbersOf_14 : decode cX5_numbersOf 14 = .ok (.goto 4, 3) := by decide +kernel
theorem dX5_numbersOf_17 : decode cX5_numbersOf 17 = .ok (.iconst 0, 1) := by decide +kernel
theorem dX5_numbersOf_18 : decode cX5_numbersOf 18 = .ok (.ireturn, 1) := by decide +kernel
theorem dX5_spellingOf_0 : decode cX5_spellingOf 0 = .ok (.iload_n 0, 1) := by decide +kernel
theorem dX5_spellingOf_1 : decode cX5_spellingOf 1 = .ok (.tableswitch 55 0 4 #[35, 39, 43, 47, 51], 35) := by decide +kernel
theorem dX5_spellingOf_36 : decode cX5_spellingOf 36 = .ok (.ldc_w 308, 3) := by decide +kernel
theorem dX5_spellingOf_39 : decode cX5_spellingOf 39 = .ok (.areturn, 1) := by decide +kernel
theorem dX5_spellingOf_40 : decode cX5_spellingOf 40 = .ok (.ldc_w 309, 3) := by decide +kernel
theorem dX5_spellingOf_43 : decode cX5_spellingOf 43 = .ok (.areturn, 1) := by decide +kernel
theorem dX5_spellingOf_44 : decode cX5_spellingOf 44 = .ok (.ldc_w 310, 3) := by decide +kernel
theorem dX5_spellingOf_47 : decode cX5_spellingOf 47 = .ok (.areturn, 1) := by decide +kernel
theorem dX5_spellingOf_48 : decode cX5_spellingOf 48 = .ok (.ldc_w 311, 3) := by decide +kernel
theorem dX5_spellingOf_51 : decode cX5_spellingOf 51 = .ok (.areturn, 1) := by decide +kernel
theorem dX5_spellingOf_52 : decode cX5_spellingOf 52 = .ok (.ldc_w 313, 3) := by decide +kernel
theorem dX5_spellingOf_55 : decode cX5_spellingOf 55 = .ok (.areturn, 1) := by decide +kernel
theorem dX5_spellingOf_56 : decode cX5_spellingOf 56 = .ok (.ldc_w 315, 3) := by decide +kernel
theorem dX5_spellingOf_59 : decode cX5_spellingOf 59 = .ok (.areturn, 1) := by decide +kernel
theorem dX5_partFrom_0 : decode cX5_partFrom 0 = .ok (.aload_n 0, 1) := by decide +kernel
theorem dX5_partFrom_1 : decode cX5_partFrom 1 = .ok (.aload_n 1, 1) := by decide +kernel
theorem dX5_partFrom_2 : decode cX5_partFrom 2 = .ok (.getfield 268, 3) := by decide +kernel
theorem dX5_partFrom_5 : decode cX5_partFrom 5 = .ok (.iload_n 2, 1) := by decide +kernel
theorem dX5_partFrom_6 : decode cX5_partFrom 6 = .ok (.laload, 1) := by decide +kernel
theorem dX5_partFrom_7 : decode cX5_partFrom 7 = .ok (.l2i, 1) := by decide +kernel
theorem dX5_partFrom_8 : decode cX5_partFrom 8 = .ok (.aload_n 1, 1) := by decide +kernel
theorem dX5_partFrom_9 : decode cX5_partFrom 9 = .ok (.getfield 268, 3) := by decide +kernel
theorem dX5_partFrom_12 : decode cX5_partFrom 12 = .ok (.iload_n 2, 1) := by decide +kernel
theorem dX5_partFrom_13 : decode cX5_partFrom 13 = .ok (.iconst 1, 1) := by decide +kernel
theorem dX5_partFrom_14 : decode cX5_partFrom 14 = .ok (.iadd, 1) := by decide +kernel
theorem dX5_partFrom_15 : decode cX5_partFrom 15 = .ok (.laload, 1) := by decide +kernel
theorem dX5_partFrom_16 : decode cX5_partFrom 16 = .ok (.l2i, 1) := by decide +kernel
theorem dX5_partFrom_17 : decode cX5_partFrom 17 = .ok (.aload_n 1, 1) := by decide +kernel
theorem dX5_partFrom_18 : decode cX5_partFrom 18 = .ok (.getfield 268, 3) := by decide +kernel
theorem dX5_partFrom_21 : decode cX5_partFrom 21 = .ok (.iload_n 2, 1) := by decide +kernel
theorem dX5_partFrom_22 : decode cX5_partFrom 22 = .ok (.iconst 2, 1) := by decide +kernel
theorem dX5_partFrom_23 : decode cX5_partFrom 23 = .ok (.iadd, 1) := by decide +kernel
theorem dX5_partFrom_24 : decode cX5_partFrom 24 = .ok (.laload, 1) := by decide +kernel
theorem dX5_partFrom_25 : decode cX5_partFrom 25 = .ok (.l2i, 1) := by decide +kernel
theorem dX5_partFrom_26 : decode cX5_partFrom 26 = .ok (.aload_n 1, 1) := by decide +kernel
theorem dX5_partFrom_27 : decode cX5_partFrom 27 = .ok (.getfield 268, 3) := by decide +kernel
theorem dX5_partFrom_30 : decode cX5_partFrom 30 = .ok (.iload_n 2, 1) := by decide +kernel
theorem dX5_partFrom_31 : decode cX5_partFrom 31 = .ok (.iconst 3, 1) := by decide +kernel
theorem dX5_partFrom_32 : decode cX5_partFrom 32 = .ok (.iadd, 1) := by decide +kernel
theorem dX5_partFrom_33 : decode cX5_partFrom 33 = .ok (.laload, 1) := by decide +kernel
theorem dX5_partFrom_34 : decode cX5_partFrom 34 = .ok (.l2i, 1) := by decide +kernel
theorem dX5_partFrom_35 : decode cX5_partFrom 35 = .ok (.invokevirtual 297, 3) := by decide +kernel
theorem dX5_partFrom_38 : decode cX5_partFrom 38 = .ok (.ireturn, 1) := by decide +kernel
theorem dX6_init_0 : decode cX6_init 0 = .ok (.aload_n 0, 1) := by decide +kernel
theorem dX6_init_1 : decode cX6_init 1 = .ok (.invokespecial 5, 3) := by decide +kernel
theorem dX6_init_4 : decode cX6_init 4 = .ok (.aload_n 0, 1) := by decide +kernel
theorem dX6_init_5 : decode cX6_init 5 = .ok (.bipush 69, 2) := by decide +kernel
theorem dX6_init_7 : decode cX6_init 7 = .ok (.newarray .int, 2) := by decide +kernel
theorem dX6_init_9 : decode cX6_init 9 = .ok (.putfield 11, 3) := by decide +kernel
theorem dX6_init_12 : decode cX6_init 12 = .ok (.aload_n 0, 1) := by decide +kernel
theorem dX6_init_13 : decode cX6_init 13 = .ok (.bipush 69, 2) := by decide +kernel
theorem dX6_init_15 : decode cX6_init 15 = .ok (.newarray .int, 2) := by decide +kernel
theorem dX6_init_17 : decode cX6_init 17 = .ok (.putfield 15, 3) := by decide +kernel
theorem dX6_init_20 : decode cX6_init 20 = .ok (.aload_n 0, 1) := by decide +kernel
theorem dX6_init_21 : decode cX6_init 21 = .ok (.iconst 4, 1) := by decide +kernel
theorem dX6_init_22 : decode cX6_init 22 = .ok (.newarray .int, 2) := by decide +kernel
theorem dX6_init_24 : decode cX6_init 24 = .ok (.dup, 1) := by decide +kernel
theorem dX6_init_25 : decode cX6_init 25 = .ok (.iconst 0, 1) := by decide +kernel
theorem dX6_init_26 : decode cX6_init 26 = .ok (.iconst (-1), 1) := by decide +kernel
theorem dX6_init_27 : decode cX6_init 27 = .ok (.iastore, 1) := by decide +kernel
theorem dX6_init_28 : decode cX6_init 28 = .ok (.dup, 1) := by decide +kernel
theorem dX6_init_29 : decode cX6_init 29 = .ok (.iconst 1, 1) := by decide +kernel
theorem dX6_init_30 : decode cX6_init 30 = .ok (.iconst (-1), 1) := by decide +kernel
theorem dX6_init_31 : decode cX6_init 31 = .ok (.iastore, 1) := by decide +kernel
theorem dX6_init_32 : decode cX6_init 32 = .ok (.dup, 1) := by decide +kernel
theorem dX6_init_33 : decode cX6_init 33 = .ok (.iconst 2, 1) := by decide +kernel
theorem dX6_init_34 : decode cX6_init 34 = .ok (.iconst (-1), 1) := by decide +kernel
theorem dX6_init_35 : decode cX6_init 35 = .ok (.iastore, 1) := by decide +kernel
theorem dX6_init_36 : decode cX6_init 36 = .ok (.dup, 1) := by decide +kernel
theorem dX6_init_37 : decode cX6_init 37 = .ok (.iconst 3, 1) := by decide +kernel
theorem dX6_init_38 : decode cX6_init 38 = .ok (.iconst (-1), 1) := by decide +kernel
theorem dX6_init_39 : decode cX6_init 39 = .ok (.iastore, 1) := by decide +kernel
theorem dX6_init_40 : decode cX6_init 40 = .ok (.putfield 18, 3) := by decide +kernel
theorem dX6_init_43 : decode cX6_init 43 = .ok (.aload_n 0, 1) := by decide +kernel
theorem dX6_init_44 : decode cX6_init 44 = .ok (.iconst 4, 1) := by decide +kernel
theorem dX6_init_45 : decode cX6_init 45 = .ok (.newarray .int, 2) := by decide +kernel
theorem dX6_init_47 : decode cX6_init 47 = .ok (.putfield 21, 3) := by decide +kernel
theorem dX6_init_50 : decode cX6_init 50 = .ok (.aload_n 0, 1) := by decide +kernel
theorem dX6_init_51 : decode cX6_init 51 = .ok (.sipush 160, 3) := by decide +kernel
theorem dX6_init_54 : decode cX6_init 54 = .ok (.newarray .long, 2) := by decide +kernel
theorem dX6_init_56 : decode cX6_init 56 = .ok (.putfield 24, 3) := by decide +kernel
theorem dX6_init_59 : decode cX6_init 59 = .ok (.aload_n 0, 1) := by decide +kernel
theorem dX6_init_60 : decode cX6_init 60 = .ok (.sipush 201, 3) := by decide +kernel
theorem dX6_init_63 : decode cX6_init 63 = .ok (.newarray .long, 2) := by decide +kernel
theorem dX6_init_65 : decode cX6_init 65 = .ok (.putfield 28, 3) := by decide +kernel
theorem dX6_init_68 : decode cX6_init 68 = .ok (.aload_n 0, 1) := by decide +kernel
theorem dX6_init_69 : decode cX6_init 69 = .ok (.bipush 6, 2) := by decide +kernel
theorem dX6_init_71 : decode cX6_init 71 = .ok (.newarray .int, 2) := by decide +kernel
theorem dX6_init_73 : decode cX6_init 73 = .ok (.putfield 31, 3) := by decide +kernel
theorem dX6_init_76 : decode cX6_init 76 = .ok (.aload_n 0, 1) := by decide +kernel
theorem dX6_init_77 : decode cX6_init 77 = .ok (.bipush 60, 2) := by decide +kernel
theorem dX6_init_79 : decode cX6_init 79 = .ok (.newarray .int, 2) := by decide +kernel
theorem dX6_init_81 : decode cX6_init 81 = .ok (.putfield 34, 3) := by decide +kernel
theorem dX6_init_84 : decode cX6_init 84 = .ok (.aload_n 0, 1) := by decide +kernel
theorem dX6_init_85 : decode cX6_init 85 = .ok (.iconst 4, 1) := by decide +kernel
theorem dX6_init_86 : decode cX6_init 86 = .ok (.newarray .int, 2) := by decide +kernel
theorem dX6_init_88 : decode cX6_init 88 = .ok (.putfield 37, 3) := by decide +kernel
theorem dX6_init_91 : decode cX6_init 91 = .ok (.aload_n 0, 1) := by decide +kernel
theorem dX6_init_92 : decode cX6_init 92 = .ok (.ldc 40, 2) := by decide +kernel
theorem dX6_init_94 : decode cX6_init 94 = .ok (.putfield 42, 3) := by decide +kernel
theorem dX6_init_97 : decode cX6_init 97 = .ok (.aload_n 0, 1) := by decide +kernel
theorem dX6_init_98 : decode cX6_init 98 = .ok (.bipush 40, 2) := by decide +kernel
theorem dX6_init_100 : decode cX6_init 100 = .ok (.newarray .long, 2) := by decide +kernel
theorem dX6_init_102 : decode cX6_init 102 = .ok (.putfield 46, 3) := by decide +kernel
theorem dX6_init_105 : decode cX6_init 105 = .ok (.aload_n 0, 1) := by decide +kernel
theorem dX6_init_106 : decode cX6_init 106 = .ok (.getfield 11, 3) := by decide +kernel
theorem dX6_init_109 : decode cX6_init 109 = .ok (.bipush 67, 2) := by decide +kernel
theorem dX6_init_111 : decode cX6_init 111 = .ok (.bipush 64, 2) := by decide +kernel
theorem dX6_init_113 : decode cX6_init 113 = .ok (.iastore, 1) := by decide +kernel
theorem dX6_init_114 : decode cX6_init 114 = .ok (.return_, 1) := by decide +kernel
theorem dX6_isIn_0 : decode cX6_isIn 0 = .ok (.lload_n 0, 1) := by decide +kernel
theorem dX6_isIn_1 : decode cX6_isIn 1 = .ok (.lload_n 2, 1) := by decide +kernel
theorem dX6_isIn_2 : decode cX6_isIn 2 = .ok (.lcmp, 1) := by decide +kernel
theorem dX6_isIn_3 : decode cX6_isIn 3 = .ok (.ifCond .lt 14, 3) := by decide +kernel
theorem dX6_isIn_6 : decode cX6_isIn 6 = .ok (.lload_n 0, 1) := by decide +kernel
theorem dX6_isIn_7 : decode cX6_isIn 7 = .ok (.lload 4, 2) := by decide +kernel
theorem dX6_isIn_9 : decode cX6_isIn 9 = .ok (.lcmp, 1) := by decide +kernel
theorem dX6_isIn_10 : decode cX6_isIn 10 = .ok (.ifCond .gt 7, 3) := by decide +kernel
theorem dX6_isIn_13 : decode cX6_isIn 13 = .ok (.iconst 1, 1) := by decide +kernel
theorem dX6_isIn_14 : decode cX6_isIn 14 = .ok (.goto 4, 3) := by decide +kernel
theorem dX6_isIn_17 : decode cX6_isIn 17 = .ok (.iconst 0, 1) := by decide +kernel
theorem dX6_isIn_18 : decode cX6_isIn 18 = .ok (.ireturn, 1) := by decide +kernel
theorem dX6_isPart_0 : decode cX6_isPart 0 = .ok (.iload_n 1, 1) := by decide +kernel
theorem dX6_isPart_1 : decode cX6_isPart 1 = .ok (.i2l, 1) := by decide +kernel
theorem dX6_isPart_2 : decode cX6_isPart 2 = .ok (.lconst 0, 1) := by decide +kernel
theorem dX6_isPart_3 : decode cX6_isPart 3 = .ok (.aload_n 0, 1) := by decide +kernel
theorem dX6_isPart_4 : decode cX6_isPart 4 = .ok (.getfield 11, 3) := by decide +kernel
theorem dX6_isPart_7 : decode cX6_isPart 7 = .ok (.bipush 66, 2) := by decide +kernel
theorem dX6_isPart_9 : decode cX6_isPart 9 = .ok (.iaload, 1) := by decide +kernel
theorem dX6_isPart_10 : decode cX6_isPart 10 = .ok (.iconst 1, 1) := by decide +kernel
theorem dX6_isPart_11 : decode cX6_isPart 11 = .ok (.isub, 1) := by decide +kernel
theorem dX6_isPart_12 : decode cX6_isPart 12 = .ok (.i2l, 1) := by decide +kernel
theorem dX6_isPart_13 : decode cX6_isPart 13 = .ok (.invokestatic 49, 3) := by decide +kernel
theorem dX6_isPart_16 : decode cX6_isPart 16 = .ok (.ireturn, 1) := by decide +kernel
theorem dX6_at_0 : decode cX6_at 0 = .ok (.aload_n 0, 1) := by decide +kernel
theorem dX6_at_1 : decode cX6_at 1 = .ok (.getfield 11, 3) := by decide +kernel
theorem dX6_at_4 : decode cX6_at 4 = .ok (.bipush 11, 2) := by decide +kernel
theorem dX6_at_6 : decode cX6_at 6 = .ok (.iload_n 1, 1) := by decide +kernel
theorem dX6_at_7 : decode cX6_at 7 = .ok (.imul, 1) := by decide +kernel
theorem dX6_at_8 : decode cX6_at 8 = .ok (.iload_n 2, 1) := by decide +kernel
theorem dX6_at_9 : decode cX6_at 9 = .ok (.iadd, 1) := by decide +kernel
theorem dX6_at_10 : decode cX6_at 10 = .ok (.iaload, 1) := by decide +kernel
theorem dX6_at_11 : decode cX6_at 11 = .ok (.ireturn, 1) := by decide +kernel
theorem dX6_lays_0 : decode cX6_lays 0 = .ok (.aload_n 0, 1) := by decide +kernel
theorem dX6_lays_1 : decode cX6_lays 1 = .ok (.getfield 11, 3) := by decide +kernel
theorem dX6_lays_4 : decode cX6_lays 4 = .ok (.bipush 11, 2) := by decide +kernel
theorem dX6_lays_6 : decode cX6_lays 6 = .ok (.iload_n 1, 1) := by decide +kernel
theorem dX6_lays_7 : decode cX6_lays 7 = .ok (.imul, 1) := by decide +kernel
theorem dX6_lays_8 : decode cX6_lays 8 = .ok (.iload_n 2, 1) := by decide +kernel
theorem dX6_lays_9 : decode cX6_lays 9 = .ok (.iadd, 1) := by decide +kernel
theorem dX6_lays_10 : decode cX6_lays 10 = .ok (.iload_n 3, 1) := by decide +kernel
theorem dX6_lays_11 : decode cX6_lays 11 = .ok (.iastore, 1) := by decide +kernel
theorem dX6_lays_12 : decode cX6_lays 12 = .ok (.return_, 1) := by decide +kernel
theorem dX6_isLine_0 : decode cX6_isLine 0 = .ok (.iload_n 0, 1) := by decide +kernel
theorem dX6_isLine_1 : decode cX6_isLine 1 = .ok (.ifCond .eq 8, 3) := by decide +kernel
theorem dX6_isLine_4 : decode cX6_isLine 4 = .ok (.iload_n 0, 1) := by decide +kernel
theorem dX6_isLine_5 : decode cX6_isLine 5 = .ok (.iconst 1, 1) := by decide +kernel
theorem dX6_isLine_6 : decode cX6_isLine 6 = .ok (.if_icmp .ne 7, 3) := by decide +kernel
theorem dX6_isLine_9 : decode cX6_isLine 9 = .ok (.iconst 1, 1) := by decide +kernel
theorem dX6_isLine_10 : decode cX6_isLine 10 = .ok (.goto 4, 3) := by decide +kernel
theorem dX6_isLine_13 : decode cX6_isLine 13 = .ok (.iconst 0, 1) := by decide +kernel
theorem dX6_isLine_14 : decode cX6_isLine 14 = .ok (.ireturn, 1) := by decide +kernel
theorem dX6_mayBe_0 : decode cX6_mayBe 0 = .ok (.iload_n 1, 1) := by decide +kernel
theorem dX6_mayBe_1 : decode cX6_mayBe 1 = .ok (.i2l, 1) := by decide +kernel
theorem dX6_mayBe_2 : decode cX6_mayBe 2 = .ok (.lconst 0, 1) := by decide +kernel
theorem dX6_mayBe_3 : decode cX6_mayBe 3 = .ok (.iload_n 0, 1) := by decide +kernel
theorem dX6_mayBe_4 : decode cX6_mayBe 4 = .ok (.ifCond .ne 9, 3) := by decide +kernel
theorem dX6_mayBe_7 : decode cX6_mayBe 7 = .ok (.ldc2_w 53, 3) := by decide +kernel
theorem dX6_mayBe_10 : decode cX6_mayBe 10 = .ok (.goto 28, 3) := by decide +kernel
theorem dX6_mayBe_13 : decode cX6_mayBe 13 = .ok (.iload_n 0, 1) := by decide +kernel
theorem dX6_mayBe_14 : decode cX6_mayBe 14 = .ok (.iconst 1, 1) := by decide +kernel
theorem dX6_mayBe_15 : decode cX6_mayBe 15 = .ok (.if_icmp .ne 9, 3) := by decide +kernel
theorem dX6_mayBe_18 : decode cX6_mayBe 18 = .ok (.ldc2_w 55, 3) := by decide +kernel
theorem dX6_mayBe_21 : decode cX6_mayBe 21 = .ok (.goto 17, 3) := by decide +kernel
theorem dX6_mayBe_24 : decode cX6_mayBe 24 = .ok (.iload_n 0, 1) := by decide +kernel
theorem dX6_mayBe_25 : decode cX6_mayBe 25 = .ok (.iconst 2, 1) := by decide +kernel
theorem dX6_mayBe_26 : decode cX6_mayBe 26 = .ok (.if_icmp .ne 9, 3) := by decide +kernel
theorem dX6_mayBe_29 : decode cX6_mayBe 29 = .ok (.ldc2_w 57, 3) := by decide +kernel
theorem dX6_mayBe_32 : decode cX6_mayBe 32 = .ok (.goto 6, 3) := by decide +kernel
theorem dX6_mayBe_35 : decode cX6_mayBe 35 = .ok (.ldc2_w 59, 3) := by decide +kernel
theorem dX6_mayBe_38 : decode cX6_mayBe 38 = .ok (.invokestatic 49, 3) := by decide +kernel
theorem dX6_mayBe_41 : decode cX6_mayBe 41 = .ok (.ireturn, 1) := by decide +kernel
theorem dX6_part_0 : decode cX6_part 0 = .ok (.iconst 0, 1) := by decide +kernel
theorem dX6_part_1 : decode cX6_part 1 = .ok (.iload_n 1, 1) := by decide +kernel
theorem dX6_part_2 : decode cX6_part 2 = .ok (.invokestatic 61, 3) := by decide +kernel
theorem dX6_part_5 : decode cX6_part 5 = .ok (.ifCond .eq 28, 3) := by decide +kernel
theorem dX6_part_8 : decode cX6_part 8 = .ok (.iconst 1, 1) := by decide +kernel
theorem dX6_part_9 : decode cX6_part 9 = .ok (.iload_n 2, 1) := by decide +kernel
theorem dX6_part_10 : decode cX6_part 10 = .ok (.invokestatic 61, 3) := by decide +kernel
theorem dX6_part_13 : decode cX6_part 13 = .ok (.ifCond .eq 20, 3) := by decide +kernel
theorem dX6_part_16 : decode cX6_part 16 = .ok (.iconst 2, 1) := by decide +kernel
theorem dX6_part_17 : decode cX6_part 17 = .ok (.iload_n 3, 1) := by decide +kernel
theorem dX6_part_18 : decode cX6_part 18 = .ok (.invokestatic 61, 3) := by decide +kernel
theorem dX6_part_21 : decode cX6_part 21 = .ok (.ifCond .eq 12, 3) := by decide +kernel
theorem dX6_part_24 : decode cX6_part 24 = .ok (.iconst 3, 1) := by decide +kernel
theorem dX6_part_25 : decode cX6_part 25 = .ok (.iload 4, 2) := by decide +kernel
theorem dX6_part_27 : decode cX6_part 27 = .ok (.invokestatic 61, 3) := by decide +kernel
theorem dX6_part_30 : decode cX6_part 30 = .ok (.ifCond .ne 6, 3) := by decide +kernel
theorem dX6_part_33 : decode cX6_part 33 = .ok (.bipush (-2), 2) := by decide +kernel
theorem dX6_part_35 : decode cX6_part 35 = .ok (.ireturn, 1) := by decide +kernel
theorem dX6_part_36 : decode cX6_part 36 = .ok (.aload_n 0, 1) := by decide +kernel
theorem dX6_part_37 : decode cX6_part 37 = .ok (.getfield 11, 3) := by decide +kernel
theorem dX6_part_40 : decode cX6_part 40 = .ok (.bipush 66, 2) := by decide +kernel
theorem dX6_part_42 : decode cX6_part 42 = .ok (.iaload, 1) := by decide +kernel
theorem dX6_part_43 : decode cX6_part 43 = .ok (.bipush 6, 2) := by decide +kernel
theorem dX6_part_45 : decode cX6_part 45 = .ok (.if_icmp .ne 6, 3) := by decide +kernel
theorem dX6_part_48 : decode cX6_part 48 = .ok (.bipush (-4), 2) := by decide +kernel
theorem dX6_part_50 : decode cX6_part 50 = .ok (.ireturn, 1) := by decide +kernel
theorem dX6_part_51 : decode cX6_part 51 = .ok (.aload_n 0, 1) := by decide +kernel
theorem dX6_part_52 : decode cX6_part 52 = .ok (.getfield 11, 3) := by decide +kernel
theorem dX6_part_55 : decode cX6_part 55 = .ok (.bipush 66, 2) := by decide +kernel
theorem dX6_part_57 : decode cX6_part 57 = .ok (.iaload, 1) := by decide +kernel
theorem dX6_part_58 : decode cX6_part 58 = .ok (.istore 5, 2) := by decide +kernel
theorem dX6_part_60 : decode cX6_part 60 = .ok (.aload_n 0, 1) := by decide +kernel
theorem dX6_part_61 : decode cX6_part 61 = .ok (.getfield 11, 3) := by decide +kernel
theorem dX6_part_64 : decode cX6_part 64 = .ok (.bipush 66, 2) := by decide +kernel
theorem dX6_part_66 : decode cX6_part 66 = .ok (.dup2, 1) := by decide +kernel
theorem dX6_part_67 : decode cX6_part 67 = .ok (.iaload, 1) := by decide +kernel
theorem dX6_part_68 : decode cX6_part 68 = .ok (.iconst 1, 1) := by decide +kernel
theorem dX6_part_69 : decode cX6_part 69 = .ok (.iadd, 1) := by decide +kernel
theorem dX6_part_70 : decode cX6_part 70 = .ok (.iastore, 1) := by decide +kernel
theorem dX6_part_71 : decode cX6_part 71 = .ok (.aload_n 0, 1) := by decide +kernel
theorem dX6_part_72 : decode cX6_part 72 = .ok (.iload 5, 2) := by decide +kernel
theorem dX6_part_74 : decode cX6_part 74 = .ok (.iconst 0, 1) := by decide +kernel
theorem dX6_part_75 : decode cX6_part 75 = .ok (.iload_n 1, 1) := by decide +kernel
theorem dX6_part_76 : decode cX6_part 76 = .ok (.invokevirtual 65, 3) := by decide +kernel
theorem dX6_part_79 : decode cX6_part 79 = .ok (.aload_n 0, 1) := by decide +kernel
theorem dX6_part_80 : decode cX6_part 80 = .ok (.iload 5, 2) := by decide +kernel
theorem dX6_part_82 : decode cX6_part 82 = .ok (.iconst 1, 1) := by decide +kernel
theorem dX6_part_83 : decode cX6_part 83 = .ok (.iload_n 2, 1) := by decide +kernel
theorem dX6_part_84 : decode cX6_part 84 = .ok (.invokevirtual 65, 3) := by decide +kernel
theorem dX6_part_87 : decode cX6_part 87 = .ok (.aload_n 0, 1) := by decide +kernel
theorem dX6_part_88 : decode cX6_part 88 = .ok (.iload 5, 2) := by decide +kernel
theorem dX6_part_90 : decode cX6_part 90 = .ok (.iconst 2, 1) := by decide +kernel
theorem dX6_part_91 : decode cX6_part 91 = .ok (.iload_n 3, 1) := by decide +kernel
theorem dX6_part_92 : decode cX6_part 92 = .ok (.invokevirtual 65, 3) := by decide +kernel
theorem dX6_part_95 : decode cX6_part 95 = .ok (.aload_n 0, 1) := by decide +kernel
theorem dX6_part_96 : decode cX6_part 96 = .ok (.iload 5, 2) := by decide +kernel
theorem dX6_part_98 : decode cX6_part 98 = .ok (.iconst 3, 1) := by decide +kernel
theorem dX6_part_99 : decode cX6_part 99 = .ok (.iload 4, 2) := by decide +kernel
theorem dX6_part_101 : decode cX6_part 101 = .ok (.invokevirtual 65, 3) := by decide +kernel
theorem dX6_part_104 : decode cX6_part 104 = .ok (.aload_n 0, 1) := by decide +kernel
theorem dX6_part_105 : decode cX6_part 105 = .ok (.iload 5, 2) := by decide +kernel
theorem dX6_part_107 : decode cX6_part 107 = .ok (.iconst 4, 1) := by decide +kernel
theorem dX6_part_108 : decode cX6_part 108 = .ok (.iconst 0, 1) := by decide +kernel
theorem dX6_part_109 : decode cX6_part 109 = .ok (.invokevirtual 65, 3) := by decide +kernel
theorem dX6_part_112 : decode cX6_part 112 = .ok (.iload 5, 2) := by decide +kernel
theorem dX6_part_114 : decode cX6_part 114 = .ok (.ireturn, 1) := by decide +kernel
theorem dX6_drop_0 : decode cX6_drop 0 = .ok (.aload_n 0, 1) := by decide +kernel
theorem dX6_drop_1 : decode cX6_drop 1 = .ok (.getfield 11, 3) := by decide +kernel
theorem dX6_drop_4 : decode cX6_drop 4 = .ok (.bipush 66, 2) := by decide +kernel
theorem dX6_drop_6 : decode cX6_drop 6 = .ok (.iaload, 1) := by decide +kernel
theorem dX6_drop_7 : decode cX6_drop 7 = .ok (.ifCond .ne 6, 3) := by decide +kernel
theorem dX6_drop_10 : decode cX6_drop 10 = .ok (.bipush (-3), 2) := by decide +kernel
theorem dX6_drop_12 : decode cX6_drop 12 = .ok (.ireturn, 1) := by decide +kernel
theorem dX6_drop_13 : decode cX6_drop 13 = .ok (.aload_n 0, 1) := by decide +kernel
theorem dX6_drop_14 : decode cX6_drop 14 = .ok (.getfield 11, 3) := by decide +kernel
theorem dX6_drop_17 : decode cX6_drop 17 = .ok (.bipush 66, 2) := by decide +kernel
theorem dX6_drop_19 : decode cX6_drop 19 = .ok (.dup2, 1) := by decide +kernel
theorem dX6_drop_20 : decode cX6_drop 20 = .ok (.iaload, 1) := by decide +kernel
theorem dX6_drop_21 : decode cX6_drop 21 = .ok (.iconst 1, 1) := by decide +kernel
theorem dX6_drop_22 : decode cX6_drop 22 = .ok (.isub, 1) := by decide +kernel
theorem dX6_drop_23 : decode cX6_drop 23 = .ok (.iastore, 1) := by decide +kernel
theorem dX6_drop_24 : decode cX6_drop 24 = .ok (.aload_n 0, 1) := by decide +kernel
theorem dX6_drop_25 : decode cX6_drop 25 = .ok (.getfield 11, 3) := by decide +kernel
theorem dX6_drop_28 : decode cX6_drop 28 = .ok (.bipush 66, 2) := by decide +kernel
theorem dX6_drop_30 : decode cX6_drop 30 = .ok (.iaload, 1) := by decide +kernel
theorem dX6_drop_31 : decode cX6_drop 31 = .ok (.ireturn, 1) := by decide +kernel
theorem dX6_gear_0 : decode cX6_gear 0 = .ok (.aload_n 0, 1) := by decide +kernel
theorem dX6_gear_1 : decode cX6_gear 1 = .ok (.iload_n 1, 1) := by decide +kernel
theorem dX6_gear_2 : decode cX6_gear 2 = .ok (.invokevirtual 69, 3) := by decide +kernel
theorem dX6_gear_5 : decode cX6_gear 5 = .ok (.ifCond .eq 31, 3) := by decide +kernel
theorem dX6_gear_8 : decode cX6_gear 8 = .ok (.iload_n 2, 1) := by decide +kernel
theorem dX6_gear_9 : decode cX6_gear 9 = .ok (.i2l, 1) := by decide +kernel
theorem dX6_gear_10 : decode cX6_gear 10 = .ok (.ldc2_w 73, 3) := by decide +kernel
theorem dX6_gear_13 : decode cX6_gear 13 = .ok (.ldc2_w 75, 3) := by decide +kernel
theorem dX6_gear_16 : decode cX6_gear 16 = .ok (.invokestatic 49, 3) := by decide +kernel
theorem dX6_gear_19 : decode cX6_gear 19 = .ok (.ifCond .eq 17, 3) := by decide +kernel
theorem dX6_gear_22 : decode cX6_gear 22 = .ok (.iload_n 3, 1) := by decide +kernel
theorem dX6_gear_23 : decode cX6_gear 23 = .ok (.i2l, 1) := by decide +kernel
theorem dX6_gear_24 : decode cX6_gear 24 = .ok (.ldc2_w 73, 3) := by decide +kernel
theorem dX6_gear_27 : decode cX6_gear 27 = .ok (.ldc2_w 75, 3) := by decide +kernel
theorem dX6_gear_30 : decode cX6_gear 30 = .ok (.invokestatic 49, 3) := by decide +kernel
theorem dX6_gear_33 : decode cX6_gear 33 = .ok (.ifCond .ne 6, 3) := by decide +kernel
theorem dX6_gear_36 : decode cX6_gear 36 = .ok (.bipush (-2), 2) := by decide +kernel
theorem dX6_gear_38 : decode cX6_gear 38 = .ok (.ireturn, 1) := by decide +kernel
theorem dX6_gear_39 : decode cX6_gear 39 = .ok (.aload_n 0, 1) := by decide +kernel
theorem dX6_gear_40 : decode cX6_gear 40 = .ok (.iload_n 1, 1) := by decide +kernel
theorem dX6_gear_41 : decode cX6_gear 41 = .ok (.iconst 4, 1) := by decide +kernel
theorem dX6_gear_42 : decode cX6_gear 42 = .ok (.invokevirtual 77, 3) := by decide +kernel
theorem dX6_gear_45 : decode cX6_gear 45 = .ok (.istore 4, 2) := by decide +kernel
theorem dX6_gear_47 : decode cX6_gear 47 = .ok (.iload 4, 2) := by decide +kernel
theorem dX6_gear_49 : decode cX6_gear 49 = .ok (.iconst 3, 1) := by decide +kernel
theorem dX6_gear_50 : decode cX6_gear 50 = .ok (.if_icmp .ne 6, 3) := by decide +kernel
theorem dX6_gear_53 : decode cX6_gear 53 = .ok (.bipush (-4), 2) := by decide +kernel
theorem dX6_gear_55 : decode cX6_gear 55 = .ok (.ireturn, 1) := by decide +kernel
theorem dX6_gear_56 : decode cX6_gear 56 = .ok (.aload_n 0, 1) := by decide +kernel
theorem dX6_gear_57 : decode cX6_gear 57 = .ok (.iload_n 1, 1) := by decide +kernel
theorem dX6_gear_58 : decode cX6_gear 58 = .ok (.iconst 5, 1) := by decide +kernel
theorem dX6_gear_59 : decode cX6_gear 59 = .ok (.iload 4, 2) := by decide +kernel
theorem dX6_gear_61 : decode cX6_gear 61 = .ok (.iadd, 1) := by decide +kernel
theorem dX6_gear_62 : decode cX6_gear 62 = .ok (.iload_n 2, 1) := by decide +kernel
theorem dX6_gear_63 : decode cX6_gear 63 = .ok (.invokevirtual 65, 3) := by decide +kernel
theorem dX6_gear_66 : decode cX6_gear 66 = .ok (.aload_n 0, 1) := by decide +kernel
theorem dX6_gear_67 : decode cX6_gear 67 = .ok (.iload_n 1, 1) := by decide +kernel
theorem dX6_gear_68 : decode cX6_gear 68 = .ok (.bipush 8, 2) := by decide +kernel
theorem dX6_gear_70 : decode cX6_gear 70 = .ok (.iload 4, 2) := by decide +kernel
theorem dX6_gear_72 : decode cX6_gear 72 = .ok (.iadd, 1) := by decide +kernel
theorem dX6_gear_73 : decode cX6_gear 73 = .ok (.iload_n 3, 1) := by decide +kernel
theorem dX6_gear_74 : decode cX6_gear 74 = .ok (.invokevirtual 65, 3) := by decide +kernel
theorem dX6_gear_77 : decode cX6_gear 77 = .ok (.aload_n 0, 1) := by decide +kernel
theorem dX6_gear_78 : decode cX6_gear 78 = .ok (.iload_n 1, 1) := by decide +kernel
theorem dX6_gear_79 : decode cX6_gear 79 = .ok (.iconst 4, 1) := by decide +kernel
theorem dX6_gear_80 : decode cX6_gear 80 = .ok (.iload 4, 2) := by decide +kernel
theorem dX6_gear_82 : decode cX6_gear 82 = .ok (.iconst 1, 1) := by decide +kernel
theorem dX6_gear_83 : decode cX6_gear 83 = .ok (.iadd, 1) := by decide +kernel
theorem dX6_gear_84 : decode cX6_gear 84 = .ok (.invokevirtual 65, 3) := by decide +kernel
theorem dX6_gear_87 : decode cX6_gear 87 = .ok (.iload 4, 2) := by decide +kernel
theorem dX6_gear_89 : decode cX6_gear 89 = .ok (.iconst 1, 1) := by decide +kernel
theorem dX6_gear_90 : decode cX6_gear 90 = .ok (.iadd, 1) := by decide +kernel
theorem dX6_gear_91 : decode cX6_gear 91 = .ok (.ireturn, 1) := by decide +kernel
theorem dX6_ungear_0 : decode cX6_ungear 0 = .ok (.aload_n 0, 1) := by decide +kernel
theorem dX6_ungear_1 : decode cX6_ungear 1 = .ok (.iload_n 1, 1) := by decide +kernel
theorem dX6_ungear_2 : decode cX6_ungear 2 = .ok (.invokevirtual 69, 3) := by decide +kernel
theorem dX6_ungear_5 : decode cX6_ungear 5 = .ok (.ifCond .ne 6, 3) := by decide +kernel
theorem dX6_ungear_8 : decode cX6_ungear 8 = .ok (.bipush (-2), 2) := by decide +kernel
theorem dX6_ungear_10 : decode cX6_ungear 10 = .ok (.ireturn, 1) := by decide +kernel
theorem dX6_ungear_11 : decode cX6_ungear 11 = .ok (.aload_n 0, 1) := by decide +kernel
theorem dX6_ungear_12 : decode cX6_ungear 12 = .ok (.iload_n 1, 1) := by decide +kernel
theorem dX6_ungear_13 : decode cX6_ungear 13 = .ok (.iconst 4, 1) := by decide +kernel
theorem dX6_ungear_14 : decode cX6_ungear 14 = .ok (.invokevirtual 77, 3) := by decide +kernel
theorem dX6_ungear_17 : decode cX6_ungear 17 = .ok (.ifCond .ne 6, 3) := by decide +kernel
theorem dX6_ungear_20 : decode cX6_ungear 20 = .ok (.bipush (-3), 2) := by decide +kernel
theorem dX6_ungear_22 : decode cX6_ungear 22 = .ok (.ireturn, 1) := by decide +kernel
theorem dX6_ungear_23 : decode cX6_ungear 23 = .ok (.aload_n 0, 1) := by decide +kernel
theorem dX6_ungear_24 : decode cX6_ungear 24 = .ok (.iload_n 1, 1) := by decide +kernel
theorem dX6_ungear_25 : decode cX6_ungear 25 = .ok (.iconst 4, 1) := by decide +kernel
theorem dX6_ungear_26 : decode cX6_ungear 26 = .ok (.aload_n 0, 1) := by decide +kernel
theorem dX6_ungear_27 : decode cX6_ungear 27 = .ok (.iload_n 1, 1) := by decide +kernel
theorem dX6_ungear_28 : decode cX6_ungear 28 = .ok (.iconst 4, 1) := by decide +kernel
theorem dX6_ungear_29 : decode cX6_ungear 29 = .ok (.invokevirtual 77, 3) := by decide +kernel
theorem dX6_ungear_32 : decode cX6_ungear 32 = .ok (.iconst 1, 1) := by decide +kernel
theorem dX6_ungear_33 : decode cX6_ungear 33 = .ok (.isub, 1) := by decide +kernel
theorem dX6_ungear_34 : decode cX6_ungear 34 = .ok (.invokevirtual 65, 3) := by decide +kernel
theorem dX6_ungear_37 : decode cX6_ungear 37 = .ok (.aload_n 0, 1) := by decide +kernel
theorem dX6_ungear_38 : decode cX6_ungear 38 = .ok (.iload_n 1, 1) := by decide +kernel
theorem dX6_ungear_39 : decode cX6_ungear 39 = .ok (.iconst 4, 1) := by decide +kernel
theorem dX6_ungear_40 : decode cX6_ungear 40 = .ok (.invokevirtual 77, 3) := by decide +kernel
theorem dX6_ungear_43 : decode cX6_ungear 43 = .ok (.ireturn, 1) := by decide +kernel
theorem dX6_shaft_0 : decode cX6_shaft 0 = .ok (.iload_n 1, 1) := by decide +kernel
theorem dX6_shaft_1 : decode cX6_shaft 1 = .ok (.i2l, 1) := by decide +kernel
theorem dX6_shaft_2 : decode cX6_shaft 2 = .ok (.lconst 1, 1) := by decide +kernel
theorem dX6_shaft_3 : decode cX6_shaft 3 = .ok (.ldc2_w 57, 3) := by decide +kernel
theorem dX6_shaft_6 : decode cX6_shaft 6 = .ok (.invokestatic 49, 3) := by decide +kernel
theorem dX6_shaft_9 : decode cX6_shaft 9 = .ok (.ifCond .ne 6, 3) := by decide +kernel
theorem dX6_shaft_12 : decode cX6_shaft 12 = .ok (.bipush (-2), 2) := by decide +kernel
theorem dX6_shaft_14 : decode cX6_shaft 14 = .ok (.ireturn, 1) := by decide +kernel
theorem dX6_shaft_15 : decode cX6_shaft 15 = .ok (.aload_n 0, 1) := by decide +kernel
theorem dX6_shaft_16 : decode cX6_shaft 16 = .ok (.getfield 11, 3) := by decide +kernel
theorem dX6_shaft_19 : decode cX6_shaft 19 = .ok (.bipush 67, 2) := by decide +kernel
theorem dX6_shaft_21 : decode cX6_shaft 21 = .ok (.iaload, 1) := by decide +kernel
theorem dX6_shaft_22 : decode cX6_shaft 22 = .ok (.istore_n 2, 1) := by decide +kernel
theorem dX6_shaft_23 : decode cX6_shaft 23 = .ok (.aload_n 0, 1) := by decide +kernel
theorem dX6_shaft_24 : decode cX6_shaft 24 = .ok (.getfield 11, 3) := by decide +kernel
theorem dX6_shaft_27 : decode cX6_shaft 27 = .ok (.bipush 67, 2) := by decide +kernel
theorem dX6_shaft_29 : decode cX6_shaft 29 = .ok (.iload_n 1, 1) := by decide +kernel
theorem dX6_shaft_30 : decode cX6_shaft 30 = .ok (.iastore, 1) := by decide +kernel
theorem dX6_shaft_31 : decode cX6_shaft 31 = .ok (.iload_n 2, 1) := by decide +kernel
theorem dX6_shaft_32 : decode cX6_shaft 32 = .ok (.ireturn, 1) := by decide +kernel
theorem dX6_becomes_0 : decode cX6_becomes 0 = .ok (.aload_n 0, 1) := by decide +kernel
theorem dX6_becomes_1 : decode cX6_becomes 1 = .ok (.iload_n 1, 1) := by decide +kernel
theorem dX6_becomes_2 : decode cX6_becomes 2 = .ok (.invokevirtual 69, 3) := by decide +kernel
theorem dX6_becomes_5 : decode cX6_becomes 5 = .ok (.ifCond .eq 11, 3) := by decide +kernel
theorem dX6_becomes_8 : decode cX6_becomes 8 = .ok (.iload_n 2, 1) := by decide +kernel
theorem dX6_becomes_9 : decode cX6_becomes 9 = .ok (.iload_n 3, 1) := by decide +kernel
theorem dX6_becomes_10 : decode cX6_becomes 10 = .ok (.invokestatic 61, 3) := by decide +kernel
theorem dX6_becomes_13 : decode cX6_becomes 13 = .ok (.ifCond .ne 6, 3) := by decide +kernel
theorem dX6_becomes_16 : decode cX6_becomes 16 = .ok (.bipush (-2), 2) := by decide +kernel
theorem dX6_becomes_18 : decode cX6_becomes 18 = .ok (.ireturn, 1) := by decide +kernel
theorem dX6_becomes_19 : decode cX6_becomes 19 = .ok (.aload_n 0, 1) := by decide +kernel
theorem dX6_becomes_20 : decode cX6_becomes 20 = .ok (.iload_n 1, 1) := by decide +kernel
theorem dX6_becomes_21 : decode cX6_becomes 21 = .ok (.iload_n 2, 1) := by decide +kernel
theorem dX6_becomes_22 : decode cX6_becomes 22 = .ok (.invokevirtual 77, 3) := by decide +kernel
theorem dX6_becomes_25 : decode cX6_becomes 25 = .ok (.istore 4, 2) := by decide +kernel
theorem dX6_becomes_27 : decode cX6_becomes 27 = .ok (.aload_n 0, 1) := by decide +kernel
theorem dX6_becomes_28 : decode cX6_becomes 28 = .ok (.iload_n 1, 1) := by decide +kernel
theorem dX6_becomes_29 : decode cX6_becomes 29 = .ok (.iload_n 2, 1) := by decide +kernel
theorem dX6_becomes_30 : decode cX6_becomes 30 = .ok (.iload_n 3, 1) := by decide +kernel
theorem dX6_becomes_31 : decode cX6_becomes 31 = .ok (.invokevirtual 65, 3) := by decide +kernel
theorem dX6_becomes_34 : decode cX6_becomes 34 = .ok (.iload 4, 2) := by decide +kernel
theorem dX6_becomes_36 : decode cX6_becomes 36 = .ok (.ireturn, 1) := by decide +kernel
theorem dX6_set_0 : decode cX6_set 0 = .ok (.iload_n 2, 1) := by decide +kernel
theorem dX6_set_1 : decode cX6_set 1 = .ok (.i2l, 1) := by decide +kernel
theorem dX6_set_2 : decode cX6_set 2 = .ok (.lconst 0, 1) := by decide +kernel
theorem dX6_set_3 : decode cX6_set 3 = .ok (.ldc2_w 81, 3) := by decide +kernel
theorem dX6_set_6 : decode cX6_set 6 = .ok (.invokestatic 49, 3) := by decide +kernel
theorem dX6_set_9 : decode cX6_set 9 = .ok (.ifCond .eq 15, 3) := by decide +kernel
theorem dX6_set_12 : decode cX6_set 12 = .ok (.aload_n 0, 1) := by decide +kernel
theorem dX6_set_13 : decode cX6_set 13 = .ok (.iload_n 1, 1) := by decide +kernel
theorem dX6_set_14 : decode cX6_set 14 = .ok (.iload_n 2, 1) := by decide +kernel
theorem dX6_set_15 : decode cX6_set 15 = .ok (.iconst 1, 1) := by decide +kernel
theorem dX6_set_16 : decode cX6_set 16 = .ok (.iadd, 1) := by decide +kernel
theorem dX6_set_17 : decode cX6_set 17 = .ok (.iload_n 3, 1) := by decide +kernel
theorem dX6_set_18 : decode cX6_set 18 = .ok (.invokevirtual 83, 3) := by decide +kernel
theorem dX6_set_21 : decode cX6_set 21 = .ok (.goto 5, 3) := by decide +kernel
theorem dX6_set_24 : decode cX6_set 24 = .ok (.bipush (-2), 2) := by decide +kernel
theorem dX6_set_26 : decode cX6_set 26 = .ok (.ireturn, 1) := by decide +kernel
theorem dX6_kind_0 : decode cX6_kind 0 = .ok (.aload_n 0, 1) := by decide +kernel
theorem dX6_kind_1 : decode cX6_kind 1 = .ok (.iload_n 1, 1) := by decide +kernel
theorem dX6_kind_2 : decode cX6_kind 2 = .ok (.iconst 0, 1) := by decide +kernel
theorem dX6_kind_3 : decode cX6_kind 3 = .ok (.iload_n 2, 1) := by decide +kernel
theorem dX6_kind_4 : decode cX6_kind 4 = .ok (.invokevirtual 83, 3) := by decide +kernel
theorem dX6_kind_7 : decode cX6_kind 7 = .ok (.ireturn, 1) := by decide +kernel
theorem dX6_of_0 : decode cX6_of 0 = .ok (.aload_n 0, 1) := by decide +kernel
theorem dX6_of_1 : decode cX6_of 1 = .ok (.iload_n 1, 1) := by decide +kernel
theorem dX6_of_2 : decode cX6_of 2 = .ok (.invokevirtual 69, 3) := by decide +kernel
theorem dX6_of_5 : decode cX6_of 5 = .ok (.ifCond .ne 6, 3) := by decide +kernel
theorem dX6_of_8 : decode cX6_of 8 = .ok (.bipush (-2), 2) := by decide +kernel
theorem dX6_of_10 : decode cX6_of 10 = .ok (.ireturn, 1) := by decide +kernel
theorem dX6_of_11 : decode cX6_of 11 = .ok (.iload_n 2, 1) := by decide +kernel
theorem dX6_of_12 : decode cX6_of 12 = .ok (.i2l, 1) := by decide +kernel
theorem dX6_of_13 : decode cX6_of 13 = .ok (.lconst 0, 1) := by decide +kernel
theorem dX6_of_14 : decode cX6_of 14 = .ok (.ldc2_w 87, 3) := by decide +kernel
theorem dX6_of_17 : decode cX6_of 17 = .ok (.invokestatic 49, 3) := by decide +kernel
theorem dX6_of_20 : decode cX6_of 20 = .ok (.ifCond .eq 10, 3) := by decide +kernel
theorem dX6_of_23 : decode cX6_of 23 = .ok (.aload_n 0, 1) := by decide +kernel
theorem dX6_of_24 : decode cX6_of 24 = .ok (.iload_n 1, 1) := by decide +kernel
theorem dX6_of_25 : decode cX6_of 25 = .ok (.iload_n 2, 1) := by decide +kernel
theorem dX6_of_26 : decode cX6_of 26 = .ok (.invokevirtual 77, 3) := by decide +kernel
theorem dX6_of_29 : decode cX6_of 29 = .ok (.ireturn, 1) := by decide +kernel
theorem dX6_of_30 : decode cX6_of 30 = .ok (.iload_n 2, 1) := by decide +kernel
theorem dX6_of_31 : decode cX6_of 31 = .ok (.i2l, 1) := by decide +kernel
theorem dX6_of_32 : decode cX6_of 32 = .ok (.ldc2_w 89, 3) := by decide +kernel
theorem dX6_of_35 : decode cX6_of 35 = .ok (.ldc2_w 91, 3) := by decide +kernel
theorem dX6_of_38 : decode cX6_of 38 = .ok (.invokestatic 49, 3) := by decide +kernel
theorem dX6_of_41 : decode cX6_of 41 = .ok (.ifCond .ne 20, 3) := by decide +kernel
theorem dX6_of_44 : decode cX6_of 44 = .ok (.iload_n 2, 1) := by decide +kernel
theorem dX6_of_45 : decode cX6_of 45 = .ok (.i2l, 1) := by decide +kernel
theorem dX6_of_46 : decode cX6_of 46 = .ok (.ldc2_w 93, 3) := by decide +kernel
theorem dX6_of_49 : decode cX6_of 49 = .ok (.ldc2_w 95, 3) := by decide +kernel
theorem dX6_of_52 : decode cX6_of 52 = .ok (.invokestatic 49, 3) := by decide +kernel
theorem dX6_of_55 : decode cX6_of 55 = .ok (.ifCond .ne 6, 3) := by decide +kernel
theorem dX6_of_58 : decode cX6_of 58 = .ok (.bipush (-2), 2) := by decide +kernel
theorem dX6_of_60 : decode cX6_of 60 = .ok (.ireturn, 1) := by decide +kernel
theorem dX6_of_61 : decode cX6_of 61 = .ok (.iload_n 2, 1) := by decide +kernel
theorem dX6_of_62 : decode cX6_of 62 = .ok (.bipush 10, 2) := by decide +kernel
theorem dX6_of_64 : decode cX6_of 64 = .ok (.irem, 1) := by decide +kernel
theorem dX6_of_65 : decode cX6_of 65 = .ok (.istore_n 3, 1) := by decide +kernel
theorem dX6_of_66 : decode cX6_of 66 = .ok (.iload_n 3, 1) := by decide +kernel
theorem dX6_of_67 : decode cX6_of 67 = .ok (.aload_n 0, 1) := by decide +kernel
theorem dX6_of_68 : decode cX6_of 68 = .ok (.iload_n 1, 1) := by decide +kernel
theorem dX6_of_69 : decode cX6_of 69 = .ok (.iconst 4, 1) := by decide +kernel
theorem dX6_of_70 : decode cX6_of 70 = .ok (.invokevirtual 77, 3) := by decide +kernel
theorem dX6_of_73 : decode cX6_of 73 = .ok (.if_icmp .ge 25, 3) := by decide +kernel
theorem dX6_of_76 : decode cX6_of 76 = .ok (.aload_n 0, 1) := by decide +kernel
theorem dX6_of_77 : decode cX6_of 77 = .ok (.iload_n 1, 1) := by decide +kernel
theorem dX6_of_78 : decode cX6_of 78 = .ok (.iload_n 2, 1) := by decide +kernel
theorem dX6_of_79 : decode cX6_of 79 = .ok (.bipush 20, 2) := by decide +kernel
theorem dX6_of_81 : decode cX6_of 81 = .ok (.if_icmp .ge 7, 3) := by decide +kernel
theorem dX6_of_84 : decode cX6_of 84 = .ok (.iconst 5, 1) := by decide +kernel
theorem dX6_of_85 : decode cX6_of 85 = .ok (.goto 5, 3) := by decide +kernel
theorem dX6_of_88 : decode cX6_of 88 = .ok (.bipush 8, 2) := by decide +kernel
theorem dX6_of_90 : decode cX6_of 90 = .ok (.iload_n 3, 1) := by decide +kernel
theorem dX6_of_91 : decode cX6_of 91 = .ok (.iadd, 1) := by decide +kernel
theorem dX6_of_92 : decode cX6_of 92 = .ok (.invokevirtual 77, 3) := by decide +kernel
theorem dX6_of_95 : decode cX6_of 95 = .ok (.goto 4, 3) := by decide +kernel
theorem dX6_of_98 : decode cX6_of 98 = .ok (.iconst (-1), 1) := by decide +kernel
theorem dX6_of_99 : decode cX6_of 99 = .ok (.ireturn, 1) := by decide +kernel
theorem dX6_above_0 : decode cX6_above 0 = .ok (.iload_n 0, 1) := by decide +kernel
theorem dX6_above_1 : decode cX6_above 1 = .ok (.iconst 4, 1) := by decide +kernel
theorem dX6_above_2 : decode cX6_above 2 = .ok (.if_icmp .ne 7, 3) := by decide +kernel
theorem dX6_above_5 : decode cX6_above 5 = .ok (.iconst 1, 1) := by decide +kernel
theorem dX6_above_6 : decode cX6_above 6 = .ok (.goto 13, 3) := by decide +kernel
theorem dX6_above_9 : decode cX6_above 9 = .ok (.iload_n 0, 1) := by decide +kernel
theorem dX6_above_10 : decode cX6_above 10 = .ok (.iconst 5, 1) := by decide +kernel
theorem dX6_above_11 : decode cX6_above 11 = .ok (.if_icmp .ne 7, 3) := by decide +kernel
theorem dX6_above_14 : decode cX6_above 14 = .ok (.iconst 3, 1) := by decide +kernel
theorem dX6_above_15 : decode cX6_above 15 = .ok (.goto 4, 3) := by decide +kernel
theorem dX6_above_18 : decode cX6_above 18 = .ok (.iconst 0, 1) := by decide +kernel
theorem dX6_above_19 : decode cX6_above 19 = .ok (.ireturn, 1) := by decide +kernel
theorem dX6_taken_0 : decode cX6_taken 0 = .ok (.aload_n 0, 1) := by decide +kernel
theorem dX6_taken_1 : decode cX6_taken 1 = .ok (.iload_n 1, 1) := by decide +kernel
theorem dX6_taken_2 : decode cX6_taken 2 = .ok (.invokevirtual 69, 3) := by decide +kernel
theorem dX6_taken_5 : decode cX6_taken 5 = .ok (.ifCond .eq 11, 3) := by decide +kernel
theorem dX6_taken_8 : decode cX6_taken 8 = .ok (.iconst 0, 1) := by decide +kernel
theorem dX6_taken_9 : decode cX6_taken 9 = .ok (.iload_n 2, 1) := by decide +kernel
theorem dX6_taken_10 : decode cX6_taken 10 = .ok (.invokestatic 61, 3) := by decide +kernel
theorem dX6_taken_13 : decode cX6_taken 13 = .ok (.ifCond .ne 6, 3) := by decide +kernel
theorem dX6_taken_16 : decode cX6_taken 16 = .ok (.bipush (-2), 2) := by decide +kernel
theorem dX6_taken_18 : decode cX6_taken 18 = .ok (.ireturn, 1) := by decide +kernel
theorem dX6_taken_19 : decode cX6_taken 19 = .ok (.aload_n 0, 1) := by decide +kernel
theorem dX6_taken_20 : decode cX6_taken 20 = .ok (.iload_n 1, 1) := by decide +kernel
theorem dX6_taken_21 : decode cX6_taken 21 = .ok (.iconst 0, 1) := by decide +kernel
theorem dX6_taken_22 : decode cX6_taken 22 = .ok (.invokevirtual 77, 3) := by decide +kernel
theorem dX6_taken_25 : decode cX6_taken 25 = .ok (.istore_n 3, 1) := by decide +kernel
theorem dX6_taken_26 : decode cX6_taken 26 = .ok (.iload_n 3, 1) := by decide +kernel
theorem dX6_taken_27 : decode cX6_taken 27 = .ok (.iload_n 2, 1) := by decide +kernel
theorem dX6_taken_28 : decode cX6_taken 28 = .ok (.if_icmp .eq 15, 3) := by decide +kernel
theorem dX6_taken_31 : decode cX6_taken 31 = .ok (.iload_n 3, 1) := by decide +kernel
theorem dX6_taken_32 : decode cX6_taken 32 = .ok (.ifCond .eq 11, 3) := by decide +kernel
theorem dX6_taken_35 : decode cX6_taken 35 = .ok (.iload_n 3, 1) := by decide +kernel
theorem dX6_taken_36 : decode cX6_taken 36 = .ok (.invokestatic 97, 3) := by decide +kernel
theorem dX6_taken_39 : decode cX6_taken 39 = .ok (.istore_n 3, 1) := by decide +kernel
theorem dX6_taken_40 : decode cX6_taken 40 = .ok (.goto (-14), 3) := by decide +kernel
theorem dX6_taken_43 : decode cX6_taken 43 = .ok (.iload_n 3, 1) := by decide +kernel
theorem dX6_taken_44 : decode cX6_taken 44 = .ok (.iload_n 2, 1) := by decide +kernel
theorem dX6_taken_45 : decode cX6_taken 45 = .ok (.if_icmp .ne 12, 3) := by decide +kernel
theorem dX6_taken_48 : decode cX6_taken 48 = .ok (.aload_n 0, 1) := by decide +kernel
theorem dX6_taken_49 : decode cX6_taken 49 = .ok (.iload_n 1, 1) := by decide +kernel
theorem dX6_taken_50 : decode cX6_taken 50 = .ok (.iconst 3, 1) := by decide +kernel
theorem dX6_taken_51 : decode cX6_taken 51 = .ok (.invokevirtual 77, 3) := by decide +kernel
theorem dX6_taken_54 : decode cX6_taken 54 = .ok (.goto 5, 3) := by decide +kernel
theorem dX6_taken_57 : decode cX6_taken 57 = .ok (.bipush (-13), 2) := by decide +kernel
theorem dX6_taken_59 : decode cX6_taken 59 = .ok (.ireturn, 1) := by decide +kernel
theorem dX6_why_0 : decode cX6_why 0 = .ok (.iload_n 0, 1) := by decide +kernel
theorem dX6_why_1 : decode cX6_why 1 = .ok (.iload_n 1, 1) := by decide +kernel
theorem dX6_why_2 : decode cX6_why 2 = .ok (.iadd, 1) := by decide +kernel
theorem dX6_why_3 : decode cX6_why 3 = .ok (.sipush 300, 3) := by decide +kernel
theorem dX6_why_6 : decode cX6_why 6 = .ok (.if_icmp .le 5, 3) := by decide +kernel
theorem dX6_why_9 : decode cX6_why 9 = .ok (.iconst 1, 1) := by decide +kernel
theorem dX6_why_10 : decode cX6_why 10 = .ok (.ireturn, 1) := by decide +kernel
theorem dX6_why_11 : decode cX6_why 11 = .ok (.iload_n 0, 1) := by decide +kernel
theorem dX6_why_12 : decode cX6_why 12 = .ok (.bipush 6, 2) := by decide +kernel
theorem dX6_why_14 : decode cX6_why 14 = .ok (.iload_n 1, 1) := by decide +kernel
theorem dX6_why_15 : decode cX6_why 15 = .ok (.imul, 1) := by decide +kernel
theorem dX6_why_16 : decode cX6_why 16 = .ok (.if_icmp .gt 11, 3) := by decide +kernel
theorem dX6_why_19 : decode cX6_why 19 = .ok (.iload_n 1, 1) := by decide +kernel
theorem dX6_why_20 : decode cX6_why 20 = .ok (.bipush 6, 2) := by decide +kernel
theorem dX6_why_22 : decode cX6_why 22 = .ok (.iload_n 0, 1) := by decide +kernel
theorem dX6_why_23 : decode cX6_why 23 = .ok (.imul, 1) := by decide +kernel
theorem dX6_why_24 : decode cX6_why 24 = .ok (.if_icmp .le 7, 3) := by decide +kernel
theorem dX6_why_27 : decode cX6_why 27 = .ok (.iconst 2, 1) := by decide +kernel
theorem dX6_why_28 : decode cX6_why 28 = .ok (.goto 4, 3) := by decide +kernel
theorem dX6_why_31 : decode cX6_why 31 = .ok (.iconst 0, 1) := by decide +kernel
theorem dX6_why_32 : decode cX6_why 32 = .ok (.ireturn, 1) := by decide +kernel
theorem dX6_jamOf_0 : decode cX6_jamOf 0 = .ok (.iconst 0, 1) := by decide +kernel
theorem dX6_jamOf_1 : decode cX6_jamOf 1 = .ok (.istore_n 2, 1) := by decide +kernel
theorem dX6_jamOf_2 : decode cX6_jamOf 2 = .ok (.iload_n 2, 1) := by decide +kernel
theorem dX6_jamOf_3 : decode cX6_jamOf 3 = .ok (.aload_n 0, 1) := by decide +kernel
theorem dX6_jamOf_4 : decode cX6_jamOf 4 = .ok (.iload_n 1, 1) := by decide +kernel
theorem dX6_jamOf_5 : decode cX6_jamOf 5 = .ok (.iconst 4, 1) := by decide +kernel
theorem dX6_jamOf_6 : decode cX6_jamOf 6 = .ok (.invokevirtual 77, 3) := by decide +kernel
theorem dX6_jamOf_9 : decode cX6_jamOf 9 = .ok (.if_icmp .ge 34, 3) := by decide +kernel
theorem dX6_jamOf_12 : decode cX6_jamOf 12 = .ok (.aload_n 0, 1) := by decide +kernel
theorem dX6_jamOf_13 : decode cX6_jamOf 13 = .ok (.iload_n 1, 1) := by decide +kernel
theorem dX6_jamOf_14 : decode cX6_jamOf 14 = .ok (.iconst 5, 1) := by decide +kernel
theorem dX6_jamOf_15 : decode cX6_jamOf 15 = .ok (.iload_n 2, 1) := by decide +kernel
theorem dX6_jamOf_16 : decode cX6_jamOf 16 = .ok (.iadd, 1) := by decide +kernel
theorem dX6_jamOf_17 : decode cX6_jamOf 17 = .ok (.invokevirtual 77, 3) := by decide +kernel
theorem dX6_jamOf_20 : decode cX6_jamOf 20 = .ok (.aload_n 0, 1) := by decide +kernel
theorem dX6_jamOf_21 : decode cX6_jamOf 21 = .ok (.iload_n 1, 1) := by decide +kernel
theorem dX6_jamOf_22 : decode cX6_jamOf 22 = .ok (.bipush 8, 2) := by decide +kernel
theorem dX6_jamOf_24 : decode cX6_jamOf 24 = .ok (.iload_n 2, 1) := by decide +kernel
theorem dX6_jamOf_25 : decode cX6_jamOf 25 = .ok (.iadd, 1) := by decide +kernel
theorem dX6_jamOf_26 : decode cX6_jamOf 26 = .ok (.invokevirtual 77, 3) := by decide +kernel
theorem dX6_jamOf_29 : decode cX6_jamOf 29 = .ok (.invokestatic 101, 3) := by decide +kernel
theorem dX6_jamOf_32 : decode cX6_jamOf 32 = .ok (.ifCond .eq 5, 3) := by decide +kernel
theorem dX6_jamOf_35 : decode cX6_jamOf 35 = .ok (.iload_n 2, 1) := by decide +kernel
theorem dX6_jamOf_36 : decode cX6_jamOf 36 = .ok (.ireturn, 1) := by decide +kernel
theorem dX6_jamOf_37 : decode cX6_jamOf 37 = .ok (.iinc 2 1, 3) := by decide +kernel
theorem dX6_jamOf_40 : decode cX6_jamOf 40 = .ok (.goto (-38), 3) := by decide +kernel
theorem dX6_jamOf_43 : decode cX6_jamOf 43 = .ok (.iconst (-1), 1) := by decide +kernel
theorem dX6_jamOf_44 : decode cX6_jamOf 44 = .ok (.ireturn, 1) := by decide +kernel
theorem dX6_jam_0 : decode cX6_jam 0 = .ok (.aload_n 0, 1) := by decide +kernel
theorem dX6_jam_1 : decode cX6_jam 1 = .ok (.iload_n 1, 1) := by decide +kernel
theorem dX6_jam_2 : decode cX6_jam 2 = .ok (.invokevirtual 69, 3) := by decide +kernel
theorem dX6_jam_5 : decode cX6_jam 5 = .ok (.ifCond .eq 15, 3) := by decide +kernel
theorem dX6_jam_8 : decode cX6_jam 8 = .ok (.iload_n 2, 1) := by decide +kernel
theorem dX6_jam_9 : decode cX6_jam 9 = .ok (.i2l, 1) := by decide +kernel
theorem dX6_jam_10 : decode cX6_jam 10 = .ok (.lconst 0, 1) := by decide +kernel
theorem dX6_jam_11 : decode cX6_jam 11 = .ok (.ldc2_w 104, 3) := by decide +kernel
theorem dX6_jam_14 : decode cX6_jam 14 = .ok (.invokestatic 49, 3) := by decide +kernel
theorem dX6_jam_17 : decode cX6_jam 17 = .ok (.ifCond .ne 6, 3) := by decide +kernel
theorem dX6_jam_20 : decode cX6_jam 20 = .ok (.bipush (-2), 2) := by decide +kernel
theorem dX6_jam_22 : decode cX6_jam 22 = .ok (.ireturn, 1) := by decide +kernel
theorem dX6_jam_23 : decode cX6_jam 23 = .ok (.aload_n 0, 1) := by decide +kernel
theorem dX6_jam_24 : decode cX6_jam 24 = .ok (.iload_n 1, 1) := by decide +kernel
theorem dX6_jam_25 : decode cX6_jam 25 = .ok (.invokevirtual 106, 3) := by decide +kernel
theorem dX6_jam_28 : decode cX6_jam 28 = .ok (.istore_n 3, 1) := by decide +kernel
theorem dX6_jam_29 : decode cX6_jam 29 = .ok (.iload_n 3, 1) := by decide +kernel
theorem dX6_jam_30 : decode cX6_jam 30 = .ok (.iconst (-1), 1) := by decide +kernel
theorem dX6_jam_31 : decode cX6_jam 31 = .ok (.if_icmp .ne 18, 3) := by decide +kernel
theorem dX6_jam_34 : decode cX6_jam 34 = .ok (.iload_n 2, 1) := by decide +kernel
theorem dX6_jam_35 : decode cX6_jam 35 = .ok (.ifCond .eq 8, 3) := by decide +kernel
theorem dX6_jam_38 : decode cX6_jam 38 = .ok (.iload_n 2, 1) := by decide +kernel
theorem dX6_jam_39 : decode cX6_jam 39 = .ok (.iconst 3, 1) := by decide +kernel
theorem dX6_jam_40 : decode cX6_jam 40 = .ok (.if_icmp .ne 7, 3) := by decide +kernel
theorem dX6_jam_43 : decode cX6_jam 43 = .ok (.iconst (-1), 1) := by decide +kernel
theorem dX6_jam_44 : decode cX6_jam 44 = .ok (.goto 4, 3) := by decide +kernel
theorem dX6_jam_47 : decode cX6_jam 47 = .ok (.iconst 0, 1) := by decide +kernel
theorem dX6_jam_48 : decode cX6_jam 48 = .ok (.ireturn, 1) := by decide +kernel
theorem dX6_jam_49 : decode cX6_jam 49 = .ok (.aload_n 0, 1) := by decide +kernel
theorem dX6_jam_50 : decode cX6_jam 50 = .ok (.iload_n 1, 1) := by decide +kernel
theorem dX6_jam_51 : decode cX6_jam 51 = .ok (.iconst 5, 1) := by decide +kernel
theorem dX6_jam_52 : decode cX6_jam 52 = .ok (.iload_n 3, 1) := by decide +kernel
theorem dX6_jam_53 : decode cX6_jam 53 = .ok (.iadd, 1) := by decide +kernel
theorem dX6_jam_54 : decode cX6_jam 54 = .ok (.invokevirtual 77, 3) := by decide +kernel
theorem dX6_jam_57 : decode cX6_jam 57 = .ok (.istore 4, 2) := by decide +kernel
theorem dX6_jam_59 : decode cX6_jam 59 = .ok (.aload_n 0, 1) := by decide +kernel
theorem dX6_jam_60 : decode cX6_jam 60 = .ok (.iload_n 1, 1) := by decide +kernel
theorem dX6_jam_61 : decode cX6_jam 61 = .ok (.bipush 8, 2) := by decide +kernel
theorem dX6_jam_63 : decode cX6_jam 63 = .ok (.iload_n 3, 1) := by decide +kernel
theorem dX6_jam_64 : decode cX6_jam 64 = .ok (.iadd, 1) := by decide +kernel
theorem dX6_jam_65 : decode cX6_jam 65 = .ok (.invokevirtual 77, 3) := by decide +kernel
theorem dX6_jam_68 : decode cX6_jam 68 = .ok (.istore 5, 2) := by decide +kernel
theorem dX6_jam_70 : decode cX6_jam 70 = .ok (.iload_n 2, 1) := by decide +kernel
theorem dX6_jam_71 : decode cX6_jam 71 = .ok (.ifCond .ne 7, 3) := by decide +kernel
theorem dX6_jam_74 : decode cX6_jam 74 = .ok (.iload_n 3, 1) := by decide +kernel
theorem dX6_jam_75 : decode cX6_jam 75 = .ok (.goto 34, 3) := by decide +kernel
theorem dX6_jam_78 : decode cX6_jam 78 = .ok (.iload_n 2, 1) := by decide +kernel
theorem dX6_jam_79 : decode cX6_jam 79 = .ok (.iconst 1, 1) := by decide +kernel
theorem dX6_jam_80 : decode cX6_jam 80 = .ok (.if_icmp .ne 13, 3) := by decide +kernel
theorem dX6_jam_83 : decode cX6_jam 83 = .ok (.iload 4, 2) := by decide +kernel
theorem dX6_jam_85 : decode cX6_jam 85 = .ok (.iload 5, 2) := by decide +kernel
theorem dX6_jam_87 : decode cX6_jam 87 = .ok (.invokestatic 101, 3) := by decide +kernel
theorem dX6_jam_90 : decode cX6_jam 90 = .ok (.goto 19, 3) := by decide +kernel
theorem dX6_jam_93 : decode cX6_jam 93 = .ok (.iload_n 2, 1) := by decide +kernel
theorem dX6_jam_94 : decode cX6_jam 94 = .ok (.iconst 2, 1) := by decide +kernel
theorem dX6_jam_95 : decode cX6_jam 95 = .ok (.if_icmp .ne 7, 3) := by decide +kernel
theorem dX6_jam_98 : decode cX6_jam 98 = .ok (.iconst 2, 1) := by decide +kernel
theorem dX6_jam_99 : decode cX6_jam 99 = .ok (.goto 10, 3) := by decide +kernel
theorem dX6_jam_102 : decode cX6_jam 102 = .ok (.iload 4, 2) := by decide +kernel
theorem dX6_jam_104 : decode cX6_jam 104 = .ok (.iload 5, 2) := by decide +kernel
theorem dX6_jam_106 : decode cX6_jam 106 = .ok (.invokestatic 109, 3) := by decide +kernel
theorem dX6_jam_109 : decode cX6_jam 109 = .ok (.ireturn, 1) := by decide +kernel
theorem dX6_divisor_0 : decode cX6_divisor 0 = .ok (.lload_n 0, 1) := by decide +kernel
theorem dX6_divisor_1 : decode cX6_divisor 1 = .ok (.invokestatic 114, 3) := by decide +kernel
theorem dX6_divisor_4 : decode cX6_divisor 4 = .ok (.lstore 4, 2) := by decide +kernel
theorem dX6_divisor_6 : decode cX6_divisor 6 = .ok (.lload_n 2, 1) := by decide +kernel
theorem dX6_divisor_7 : decode cX6_divisor 7 = .ok (.invokestatic 114, 3) := by decide +kernel
theorem dX6_divisor_10 : decode cX6_divisor 10 = .ok (.lstore 6, 2) := by decide +kernel
theorem dX6_divisor_12 : decode cX6_divisor 12 = .ok (.lload 6, 2) := by decide +kernel
theorem dX6_divisor_14 : decode cX6_divisor 14 = .ok (.lconst 0, 1) := by decide +kernel
theorem dX6_divisor_15 : decode cX6_divisor 15 = .ok (.lcmp, 1) := by decide +kernel
theorem dX6_divisor_16 : decode cX6_divisor 16 = .ok (.ifCond .eq 21, 3) := by decide +kernel
theorem dX6_divisor_19 : decode cX6_divisor 19 = .ok (.lload 4, 2) := by decide +kernel
theorem dX6_divisor_21 : decode cX6_divisor 21 = .ok (.lload 6, 2) := by decide +kernel
theorem dX6_divisor_23 : decode cX6_divisor 23 = .ok (.lrem, 1) := by decide +kernel
theorem dX6_divisor_24 : decode cX6_divisor 24 = .ok (.lstore 8, 2) := by decide +kernel
theorem dX6_divisor_26 : decode cX6_divisor 26 = .ok (.lload 6, 2) := by decide +kernel
theorem dX6_divisor_28 : decode cX6_divisor 28 = .ok (.lstore 4, 2) := by decide +kernel
theorem dX6_divisor_30 : decode cX6_divisor 30 = .ok (.lload 8, 2) := by decide +kernel
theorem dX6_divisor_32 : decode cX6_divisor 32 = .ok (.lstore 6, 2) := by decide +kernel
theorem dX6_divisor_34 : decode cX6_divisor 34 = .ok (.goto (-22), 3) := by decide +kernel
theorem dX6_divisor_37 : decode cX6_divisor 37 = .ok (.lload 4, 2) := by decide +kernel
theorem dX6_divisor_39 : decode cX6_divisor 39 = .ok (.lreturn, 1) := by decide +kernel
theorem dX6_lowest_0 : decode cX6_lowest 0 = .ok (.lload_n 0, 1) := by decide +kernel
theorem dX6_lowest_1 : decode cX6_lowest 1 = .ok (.lload_n 2, 1) := by decide +kernel
theorem dX6_lowest_2 : decode cX6_lowest 2 = .ok (.invokestatic 118, 3) := by decide +kernel
theorem dX6_lowest_5 : decode cX6_lowest 5 = .ok (.lstore 5, 2) := by decide +kernel
theorem dX6_lowest_7 : decode cX6_lowest 7 = .ok (.iload 4, 2) := by decide +kernel
theorem dX6_lowest_9 : decode cX6_lowest 9 = .ok (.ifCond .ne 10, 3) := by decide +kernel
theorem dX6_lowest_12 : decode cX6_lowest 12 = .ok (.lload_n 0, 1) := by decide +kernel
theorem dX6_lowest_13 : decode cX6_lowest 13 = .ok (.lload 5, 2) := by decide +kernel
theorem dX6_lowest_15 : decode cX6_lowest 15 = .ok (.ldiv, 1) := by decide +kernel
theorem dX6_lowest_16 : decode cX6_lowest 16 = .ok (.goto 7, 3) := by decide +kernel
theorem dX6_lowest_19 : decode cX6_lowest 19 = .ok (.lload_n 2, 1) := by decide +kernel
theorem dX6_lowest_20 : decode cX6_lowest 20 = .ok (.lload 5, 2) := by decide +kernel
theorem dX6_lowest_22 : decode cX6_lowest 22 = .ok (.ldiv, 1) := by decide +kernel
theorem dX6_lowest_23 : decode cX6_lowest 23 = .ok (.lreturn, 1) := by decide +kernel
theorem dX6_speedAbove_0 : decode cX6_speedAbove 0 = .ok (.aload_n 0, 1) := by decide +kernel
theorem dX6_speedAbove_1 : decode cX6_speedAbove 1 = .ok (.iload_n 1, 1) := by decide +kernel
theorem dX6_speedAbove_2 : decode cX6_speedAbove 2 = .ok (.invokevirtual 106, 3) := by decide +kernel
theorem dX6_speedAbove_5 : decode cX6_speedAbove 5 = .ok (.iconst (-1), 1) := by decide +kernel
theorem dX6_speedAbove_6 : decode cX6_speedAbove 6 = .ok (.if_icmp .ne 14, 3) := by decide +kernel
theorem dX6_speedAbove_9 : decode cX6_speedAbove 9 = .ok (.aload_n 0, 1) := by decide +kernel
theorem dX6_speedAbove_10 : decode cX6_speedAbove 10 = .ok (.getfield 11, 3) := by decide +kernel
theorem dX6_speedAbove_13 : decode cX6_speedAbove 13 = .ok (.bipush 67, 2) := by decide +kernel
theorem dX6_speedAbove_15 : decode cX6_speedAbove 15 = .ok (.iaload, 1) := by decide +kernel
theorem dX6_speedAbove_16 : decode cX6_speedAbove 16 = .ok (.i2l, 1) := by decide +kernel
theorem dX6_speedAbove_17 : decode cX6_speedAbove 17 = .ok (.goto 4, 3) := by decide +kernel
theorem dX6_speedAbove_20 : decode cX6_speedAbove 20 = .ok (.lconst 0, 1) := by decide +kernel
theorem dX6_speedAbove_21 : decode cX6_speedAbove 21 = .ok (.lstore_n 2, 1) := by decide +kernel
theorem dX6_speedAbove_22 : decode cX6_speedAbove 22 = .ok (.iconst 0, 1) := by decide +kernel
theorem dX6_speedAbove_23 : decode cX6_speedAbove 23 = .ok (.istore 4, 2) := by decide +kernel
theorem dX6_speedAbove_25 : decode cX6_speedAbove 25 = .ok (.iload 4, 2) := by decide +kernel
theorem dX6_speedAbove_27 : decode cX6_speedAbove 27 = .ok (.aload_n 0, 1) := by decide +kernel
theorem dX6_speedAbove_28 : decode cX6_speedAbove 28 = .ok (.iload_n 1, 1) := by decide +kernel
theorem dX6_speedAbove_29 : decode cX6_speedAbove 29 = .ok (.iconst 4, 1) := by decide +kernel
theorem dX6_speedAbove_30 : decode cX6_speedAbove 30 = .ok (.invokevirtual 77, 3) := by decide +kernel
theorem dX6_speedAbove_33 : decode cX6_speedAbove 33 = .ok (.if_icmp .ge 22, 3) := by decide +kernel
theorem dX6_speedAbove_36 : decode cX6_speedAbove 36 = .ok (.lload_n 2, 1) := by decide +kernel
theorem dX6_speedAbove_37 : decode cX6_speedAbove 37 = .ok (.aload_n 0, 1) := by decide +kernel
theorem dX6_speedAbove_38 : decode cX6_speedAbove 38 = .ok (.iload_n 1, 1) := by decide +kernel
theorem dX6_speedAbove_39 : decode cX6_speedAbove 39 = .ok (.iconst 5, 1) := by decide +kernel
theorem dX6_speedAbove_40 : decode cX6_speedAbove 40 = .ok (.iload 4, 2) := by decide +kernel
theorem dX6_speedAbove_42 : decode cX6_speedAbove 42 = .ok (.iadd, 1) := by decide +kernel
theorem dX6_speedAbove_43 : decode cX6_speedAbove 43 = .ok (.invokevirtual 77, 3) := by decide +kernel
theorem dX6_speedAbove_46 : decode cX6_speedAbove 46 = .ok (.i2l, 1) := by decide +kernel
theorem dX6_speedAbove_47 : decode cX6_speedAbove 47 = .ok (.lmul, 1) := by decide +kernel
theorem dX6_speedAbove_48 : decode cX6_speedAbove 48 = .ok (.lstore_n 2, 1) := by decide +kernel
theorem dX6_speedAbove_49 : decode cX6_speedAbove 49 = .ok (.iinc 4 1, 3) := by decide +kernel
theorem dX6_speedAbove_52 : decode cX6_speedAbove 52 = .ok (.goto (-27), 3) := by decide +kernel
theorem dX6_speedAbove_55 : decode cX6_speedAbove 55 = .ok (.lload_n 2, 1) := by decide +kernel
theorem dX6_speedAbove_56 : decode cX6_speedAbove 56 = .ok (.lreturn, 1) := by decide +kernel
theorem dX6_speedBelow_0 : decode cX6_speedBelow 0 = .ok (.lconst 1, 1) := by decide +kernel
theorem dX6_speedBelow_1 : decode cX6_speedBelow 1 = .ok (.lstore_n 2, 1) := by decide +kernel
theorem dX6_speedBelow_2 : decode cX6_speedBelow 2 = .ok (.iconst 0, 1) := by decide +kernel
theorem dX6_speedBelow_3 : decode cX6_speedBelow 3 = .ok (.istore 4, 2) := by decide +kernel
theorem dX6_speedBelow_5 : decode cX6_speedBelow 5 = .ok (.iload 4, 2) := by decide +kernel
theorem dX6_speedBelow_7 : decode cX6_speedBelow 7 = .ok (.aload_n 0, 1) := by decide +kernel
theorem dX6_speedBelow_8 : decode cX6_speedBelow 8 = .ok (.iload_n 1, 1) := by decide +kernel
theorem dX6_speedBelow_9 : decode cX6_speedBelow 9 = .ok (.iconst 4, 1) := by decide +kernel
theorem dX6_speedBelow_10 : decode cX6_speedBelow 10 = .ok (.invokevirtual 77, 3) := by decide +kernel
theorem dX6_speedBelow_13 : decode cX6_speedBelow 13 = .ok (.if_icmp .ge 23, 3) := by decide +kernel
theorem dX6_speedBelow_16 : decode cX6_speedBelow 16 = .ok (.lload_n 2, 1) := by decide +kernel
theorem dX6_speedBelow_17 : decode cX6_speedBelow 17 = .ok (.aload_n 0, 1) := by decide +kernel
theorem dX6_speedBelow_18 : decode cX6_speedBelow 18 = .ok (.iload_n 1, 1) := by decide +kernel
theorem dX6_speedBelow_19 : decode cX6_speedBelow 19 = .ok (.bipush 8, 2) := by decide +kernel
theorem dX6_speedBelow_21 : decode cX6_speedBelow 21 = .ok (.iload 4, 2) := by decide +kernel
theorem dX6_speedBelow_23 : decode cX6_speedBelow 23 = .ok (.iadd, 1) := by decide +kernel
theorem dX6_speedBelow_24 : decode cX6_speedBelow 24 = .ok (.invokevirtual 77, 3) := by decide +kernel
theorem dX6_speedBelow_27 : decode cX6_speedBelow 27 = .ok (.i2l, 1) := by decide +kernel
theorem dX6_speedBelow_28 : decode cX6_speedBelow 28 = .ok (.lmul, 1) := by decide +kernel
theorem dX6_speedBelow_29 : decode cX6_speedBelow 29 = .ok (.lstore_n 2, 1) := by decide +kernel
theorem dX6_speedBelow_30 : decode cX6_speedBelow 30 = .ok (.iinc 4 1, 3) := by decide +kernel
theorem dX6_speedBelow_33 : decode cX6_speedBelow 33 = .ok (.goto (-28), 3) := by decide +kernel
theorem dX6_speedBelow_36 : decode cX6_speedBelow 36 = .ok (.lload_n 2, 1) := by decide +kernel
theorem dX6_speedBelow_37 : decode cX6_speedBelow 37 = .ok (.lreturn, 1) := by decide +kernel
theorem dX6_speed_0 : decode cX6_speed 0 = .ok (.aload_n 0, 1) := by decide +kernel
theorem dX6_speed_1 : decode cX6_speed 1 = .ok (.iload_n 1, 1) := by decide +kernel
theorem dX6_speed_2 : decode cX6_speed 2 = .ok (.invokevirtual 69, 3) := by decide +kernel
theorem dX6_speed_5 : decode cX6_speed 5 = .ok (.ifCond .eq 27, 3) := by decide +kernel
theorem dX6_speed_8 : decode cX6_speed 8 = .ok (.iload_n 2, 1) := by decide +kernel
theorem dX6_speed_9 : decode cX6_speed 9 = .ok (.invokestatic 122, 3) := by decide +kernel
theorem dX6_speed_12 : decode cX6_speed 12 = .ok (.ifCond .eq 20, 3) := by decide +kernel
theorem dX6_speed_15 : decode cX6_speed 15 = .ok (.aload_n 0, 1) := by decide +kernel
theorem dX6_speed_16 : decode cX6_speed 16 = .ok (.iload_n 1, 1) := by decide +kernel
theorem dX6_speed_17 : decode cX6_speed 17 = .ok (.invokevirtual 125, 3) := by decide +kernel
theorem dX6_speed_20 : decode cX6_speed 20 = .ok (.aload_n 0, 1) := by decide +kernel
theorem dX6_speed_21 : decode cX6_speed 21 = .ok (.iload_n 1, 1) := by decide +kernel
theorem dX6_speed_22 : decode cX6_speed 22 = .ok (.invokevirtual 129, 3) := by decide +kernel
theorem dX6_speed_25 : decode cX6_speed 25 = .ok (.iload_n 2, 1) := by decide +kernel
theorem dX6_speed_26 : decode cX6_speed 26 = .ok (.invokestatic 132, 3) := by decide +kernel
theorem dX6_speed_29 : decode cX6_speed 29 = .ok (.goto 6, 3) := by decide +kernel
theorem dX6_speed_32 : decode cX6_speed 32 = .ok (.ldc2_w 136, 3) := by decide +kernel
theorem dX6_speed_35 : decode cX6_speed 35 = .ok (.lreturn, 1) := by decide +kernel
theorem dX6_wayOf_0 : decode cX6_wayOf 0 = .ok (.aload_n 0, 1) := by decide +kernel
theorem dX6_wayOf_1 : decode cX6_wayOf 1 = .ok (.iload_n 1, 1) := by decide +kernel
theorem dX6_wayOf_2 : decode cX6_wayOf 2 = .ok (.iconst 3, 1) := by decide +kernel
theorem dX6_wayOf_3 : decode cX6_wayOf 3 = .ok (.invokevirtual 77, 3) := by decide +kernel
theorem dX6_wayOf_6 : decode cX6_wayOf 6 = .ok (.i2l, 1) := by decide +kernel
theorem dX6_wayOf_7 : decode cX6_wayOf 7 = .ok (.iload_n 2, 1) := by decide +kernel
theorem dX6_wayOf_8 : decode cX6_wayOf 8 = .ok (.i2l, 1) := by decide +kernel
theorem dX6_wayOf_9 : decode cX6_wayOf 9 = .ok (.aload_n 0, 1) := by decide +kernel
theorem dX6_wayOf_10 : decode cX6_wayOf 10 = .ok (.iload_n 1, 1) := by decide +kernel
theorem dX6_wayOf_11 : decode cX6_wayOf 11 = .ok (.invokevirtual 125, 3) := by decide +kernel
theorem dX6_wayOf_14 : decode cX6_wayOf 14 = .ok (.lmul, 1) := by decide +kernel
theorem dX6_wayOf_15 : decode cX6_wayOf 15 = .ok (.aload_n 0, 1) := by decide +kernel
theorem dX6_wayOf_16 : decode cX6_wayOf 16 = .ok (.iload_n 1, 1) := by decide +kernel
theorem dX6_wayOf_17 : decode cX6_wayOf 17 = .ok (.invokevirtual 129, 3) := by decide +kernel
theorem dX6_wayOf_20 : decode cX6_wayOf 20 = .ok (.ldiv, 1) := by decide +kernel
theorem dX6_wayOf_21 : decode cX6_wayOf 21 = .ok (.ladd, 1) := by decide +kernel
theorem dX6_wayOf_22 : decode cX6_wayOf 22 = .ok (.lstore_n 3, 1) := by decide +kernel
theorem dX6_wayOf_23 : decode cX6_wayOf 23 = .ok (.lload_n 3, 1) := by decide +kernel
theorem dX6_wayOf_24 : decode cX6_wayOf 24 = .ok (.aload_n 0, 1) := by decide +kernel
theorem dX6_wayOf_25 : decode cX6_wayOf 25 = .ok (.iload_n 1, 1) := by decide +kernel
theorem dX6_wayOf_26 : decode cX6_wayOf 26 = .ok (.iconst 1, 1) := by decide +kernel
theorem dX6_wayOf_27 : decode cX6_wayOf 27 = .ok (.invokevirtual 77, 3) := by decide +kernel
theorem dX6_wayOf_30 : decode cX6_wayOf 30 = .ok (.i2l, 1) := by decide +kernel
theorem dX6_wayOf_31 : decode cX6_wayOf 31 = .ok (.iload_n 2, 1) := by decide +kernel
theorem dX6_wayOf_32 : decode cX6_wayOf 32 = .ok (.bipush 100, 2) := by decide +kernel
theorem dX6_wayOf_34 : decode cX6_wayOf 34 = .ok (.idiv, 1) := by decide +kernel
theorem dX6_wayOf_35 : decode cX6_wayOf 35 = .ok (.i2l, 1) := by decide +kernel
theorem dX6_wayOf_36 : decode cX6_wayOf 36 = .ok (.lmul, 1) := by decide +kernel
theorem dX6_wayOf_37 : decode cX6_wayOf 37 = .ok (.ladd, 1) := by decide +kernel
theorem dX6_wayOf_38 : decode cX6_wayOf 38 = .ok (.lstore 5, 2) := by decide +kernel
theorem dX6_wayOf_40 : decode cX6_wayOf 40 = .ok (.aload_n 0, 1) := by decide +kernel
theorem dX6_wayOf_41 : decode cX6_wayOf 41 = .ok (.iload_n 1, 1) := by decide +kernel
theorem dX6_wayOf_42 : decode cX6_wayOf 42 = .ok (.iconst 0, 1) := by decide +kernel
theorem dX6_wayOf_43 : decode cX6_wayOf 43 = .ok (.invokevirtual 77, 3) := by decide +kernel
theorem dX6_wayOf_46 : decode cX6_wayOf 46 = .ok (.tableswitch 53 1 5 #[34, 53, 40, 34, 43], 34) := by decide +kernel
theorem dX6_wayOf_80 : decode cX6_wayOf 80 = .ok (.ldc2_w 81, 3) := by decide +kernel
theorem dX6_wayOf_83 : decode cX6_wayOf 83 = .ok (.lload_n 3, 1) := by decide +kernel
theorem dX6_wayOf_84 : decode cX6_wayOf 84 = .ok (.lmul, 1) := by decide +kernel
theorem dX6_wayOf_85 : decode cX6_wayOf 85 = .ok (.lreturn, 1) := by decide +kernel
theorem dX6_wayOf_86 : decode cX6_wayOf 86 = .ok (.lload 5, 2) := by decide +kernel
theorem dX6_wayOf_88 : decode cX6_wayOf 88 = .ok (.lreturn, 1) := by decide +kernel
theorem dX6_wayOf_89 : decode cX6_wayOf 89 = .ok (.lload 5, 2) := by decide +kernel
theorem dX6_wayOf_91 : decode cX6_wayOf 91 = .ok (.lload 5, 2) := by decide +kernel
theorem dX6_wayOf_93 : decode cX6_wayOf 93 = .ok (.ldc2_w 138, 3) := by decide +kernel
theorem dX6_wayOf_96 : decode cX6_wayOf 96 = .ok (.lrem, 1) := by decide +kernel
theorem dX6_wayOf_97 : decode cX6_wayOf 97 = .ok (.lsub, 1) := by decide +kernel
theorem dX6_wayOf_98 : decode cX6_wayOf 98 = .ok (.lreturn, 1) := by decide +kernel
theorem dX6_wayOf_99 : decode cX6_wayOf 99 = .ok (.lload_n 3, 1) := by decide +kernel
theorem dX6_wayOf_100 : decode cX6_wayOf 100 = .ok (.lreturn, 1) := by decide +kernel
theorem dX6_placeOf_0 : decode cX6_placeOf 0 = .ok (.aload_n 0, 1) := by decide +kernel
theorem dX6_placeOf_1 : decode cX6_placeOf 1 = .ok (.iload_n 1, 1) := by decide +kernel
theorem dX6_placeOf_2 : decode cX6_placeOf 2 = .ok (.iload_n 2, 1) := by decide +kernel
theorem dX6_placeOf_3 : decode cX6_placeOf 3 = .ok (.invokevirtual 140, 3) := by decide +kernel
theorem dX6_placeOf_6 : decode cX6_placeOf 6 = .ok (.ldc2_w 144, 3) := by decide +kernel
theorem dX6_placeOf_9 : decode cX6_placeOf 9 = .ok (.lrem, 1) := by decide +kernel
theorem dX6_placeOf_10 : decode cX6_placeOf 10 = .ok (.l2i, 1) := by decide +kernel
theorem dX6_placeOf_11 : decode cX6_placeOf 11 = .ok (.ireturn, 1) := by decide +kernel
theorem dX6_shapeOf_0 : decode cX6_shapeOf 0 = .ok (.iload_n 2, 1) := by decide +kernel
theorem dX6_shapeOf_1 : decode cX6_shapeOf 1 = .ok (.sipush 512, 3) := by decide +kernel
theorem dX6_shapeOf_4 : decode cX6_shapeOf 4 = .ok (.if_icmp .ge 13, 3) := by decide +kernel
theorem dX6_shapeOf_7 : decode cX6_shapeOf 7 = .ok (.iload_n 2, 1) := by decide +kernel
theorem dX6_shapeOf_8 : decode cX6_shapeOf 8 = .ok (.sipush 512, 3) := by decide +kernel
theorem dX6_shapeOf_11 : decode cX6_shapeOf 11 = .ok (.iload_n 2, 1) := by decide +kernel
theorem dX6_shapeOf_12 : decode cX6_shapeOf 12 = .ok (.isub, 1) := by decide +kernel
theorem dX6_shapeOf_13 : decode cX6_shapeOf 13 = .ok (.imul, 1) := by decide +kernel
theorem dX6_shapeOf_14 : decode cX6_shapeOf 14 = .ok (.goto 15, 3) := by decide +kernel
theorem dX6_shapeOf_17 : decode cX6_shapeOf 17 = .ok (.iload_n 2, 1) := by decide +kernel
theorem dX6_shapeOf_18 : decode cX6_shapeOf 18 = .ok (.sipush 512, 3) := by decide +kernel
theorem dX6_shapeOf_21 : decode cX6_shapeOf 21 = .ok (.isub, 1) := by decide +kernel
theorem dX6_shapeOf_22 : decode cX6_shapeOf 22 = .ok (.sipush 1024, 3) := by decide +kernel
theorem dX6_shapeOf_25 : decode cX6_shapeOf 25 = .ok (.iload_n 2, 1) := by decide +kernel
theorem dX6_shapeOf_26 : decode cX6_shapeOf 26 = .ok (.isub, 1) := by decide +kernel
theorem dX6_shapeOf_27 : decode cX6_shapeOf 27 = .ok (.imul, 1) := by decide +kernel
theorem dX6_shapeOf_28 : decode cX6_shapeOf 28 = .ok (.ineg, 1) := by decide +kernel
theorem dX6_shapeOf_29 : decode cX6_shapeOf 29 = .ok (.istore_n 3, 1) := by decide +kernel
theorem dX6_shapeOf_30 : decode cX6_shapeOf 30 = .ok (.aload_n 0, 1) := by decide +kernel
theorem dX6_shapeOf_31 : decode cX6_shapeOf 31 = .ok (.iload_n 1, 1) := by decide +kernel
theorem dX6_shapeOf_32 : decode cX6_shapeOf 32 = .ok (.iconst 1, 1) := by decide +kernel
theorem dX6_shapeOf_33 : decode cX6_shapeOf 33 = .ok (.invokevirtual 77, 3) := by decide +kernel
theorem dX6_shapeOf_36 : decode cX6_shapeOf 36 = .ok (.iconst 1, 1) := by decide +kernel
theorem dX6_shapeOf_37 : decode cX6_shapeOf 37 = .ok (.iadd, 1) := by decide +kernel
theorem dX6_shapeOf_38 : decode cX6_shapeOf 38 = .ok (.sipush 6553, 3) := by decide +kernel
theorem dX6_shapeOf_41 : decode cX6_shapeOf 41 = .ok (.imul, 1) := by decide +kernel
theorem dX6_shapeOf_42 : decode cX6_shapeOf 42 = .ok (.istore 4, 2) := by decide +kernel
theorem dX6_shapeOf_44 : decode cX6_shapeOf 44 = .ok (.aload_n 0, 1) := by decide +kernel
theorem dX6_shapeOf_45 : decode cX6_shapeOf 45 = .ok (.iload_n 1, 1) := by decide +kernel
theorem dX6_shapeOf_46 : decode cX6_shapeOf 46 = .ok (.iconst 0, 1) := by decide +kernel
theorem dX6_shapeOf_47 : decode cX6_shapeOf 47 = .ok (.invokevirtual 77, 3) := by decide +kernel
theorem dX6_shapeOf_50 : decode cX6_shapeOf 50 = .ok (.lookupswitch 56 #[(2, 26), (4, 52)], 26) := by decide +kernel
theorem dX6_shapeOf_76 : decode cX6_shapeOf 76 = .ok (.iload_n 3, 1) := by decide +kernel
theorem dX6_shapeOf_77 : decode cX6_shapeOf 77 = .ok (.iload 4, 2) := by decide +kernel
theorem dX6_shapeOf_79 : decode cX6_shapeOf 79 = .ok (.if_icmp .le 8, 3) := by decide +kernel
theorem dX6_shapeOf_82 : decode cX6_shapeOf 82 = .ok (.iload 4, 2) := by decide +kernel
theorem dX6_shapeOf_84 : decode cX6_shapeOf 84 = .ok (.goto 17, 3) := by decide +kernel
theorem dX6_shapeOf_87 : decode cX6_shapeOf 87 = .ok (.iload_n 3, 1) := by decide +kernel
theorem dX6_shapeOf_88 : decode cX6_shapeOf 88 = .ok (.iload 4, 2) := by decide +kernel
theorem dX6_shapeOf_90 : decode cX6_shapeOf 90 = .ok (.ineg, 1) := by decide +kernel
theorem dX6_shapeOf_91 : decode cX6_shapeOf 91 = .ok (.if_icmp .ge 9, 3) := by decide +kernel
theorem dX6_shapeOf_94 : decode cX6_shapeOf 94 = .ok (.iload 4, 2) := by decide +kernel
theorem dX6_shapeOf_96 : decode cX6_shapeOf 96 = .ok (.ineg, 1) := by decide +kernel
theorem dX6_shapeOf_97 : decode cX6_shapeOf 97 = .ok (.goto 4, 3) := by decide +kernel
theorem dX6_shapeOf_100 : decode cX6_shapeOf 100 = .ok (.iload_n 3, 1) := by decide +kernel
theorem dX6_shapeOf_101 : decode cX6_shapeOf 101 = .ok (.ireturn, 1) := by decide +kernel
theorem dX6_shapeOf_102 : decode cX6_shapeOf 102 = .ok (.iload_n 3, 1) := by decide +kernel
theorem dX6_shapeOf_103 : decode cX6_shapeOf 103 = .ok (.iconst 2, 1) := by decide +kernel
theorem dX6_shapeOf_104 : decode cX6_shapeOf 104 = .ok (.idiv, 1) := by decide +kernel
theorem dX6_shapeOf_105 : decode cX6_shapeOf 105 = .ok (.ireturn, 1) := by decide +kernel
theorem dX6_shapeOf_106 : decode cX6_shapeOf 106 = .ok (.iload_n 3, 1) := by decide +kernel
theorem dX6_shapeOf_107 : decode cX6_shapeOf 107 = .ok (.ireturn, 1) := by decide +kernel
theorem dX6_heightBy_0 : decode cX6_heightBy 0 = .ok (.aload_n 0, 1) := by decide +kernel
theorem dX6_heightBy_1 : decode cX6_heightBy 1 = .ok (.iload_n 1, 1) := by decide +kernel
theorem dX6_heightBy_2 : decode cX6_heightBy 2 = .ok (.iconst 2, 1) := by decide +kernel
theorem dX6_heightBy_3 : decode cX6_heightBy 3 = .ok (.invokevirtual 77, 3) := by decide +kernel
theorem dX6_heightBy_6 : decode cX6_heightBy 6 = .ok (.i2l, 1) := by decide +kernel
theorem dX6_heightBy_7 : decode cX6_heightBy 7 = .ok (.aload_n 0, 1) := by decide +kernel
theorem dX6_heightBy_8 : decode cX6_heightBy 8 = .ok (.iload_n 1, 1) := by decide +kernel
theorem dX6_heightBy_9 : decode cX6_heightBy 9 = .ok (.aload_n 0, 1) := by decide +kernel
theorem dX6_heightBy_10 : decode cX6_heightBy 10 = .ok (.iload_n 1, 1) := by decide +kernel
theorem dX6_heightBy_11 : decode cX6_heightBy 11 = .ok (.iload_n 2, 1) := by decide +kernel
theorem dX6_heightBy_12 : decode cX6_heightBy 12 = .ok (.invokevirtual 146, 3) := by decide +kernel
theorem dX6_heightBy_15 : decode cX6_heightBy 15 = .ok (.invokevirtual 149, 3) := by decide +kernel
theorem dX6_heightBy_18 : decode cX6_heightBy 18 = .ok (.i2l, 1) := by decide +kernel
theorem dX6_heightBy_19 : decode cX6_heightBy 19 = .ok (.lmul, 1) := by decide +kernel
theorem dX6_heightBy_20 : decode cX6_heightBy 20 = .ok (.lreturn, 1) := by decide +kernel
theorem dX6_sumAt_0 : decode cX6_sumAt 0 = .ok (.lconst 0, 1) := by decide +kernel
theorem dX6_sumAt_1 : decode cX6_sumAt 1 = .ok (.lstore_n 2, 1) := by decide +kernel
theorem dX6_sumAt_2 : decode cX6_sumAt 2 = .ok (.iconst 0, 1) := by decide +kernel
theorem dX6_sumAt_3 : decode cX6_sumAt 3 = .ok (.istore 4, 2) := by decide +kernel
theorem dX6_sumAt_5 : decode cX6_sumAt 5 = .ok (.iload 4, 2) := by decide +kernel
theorem dX6_sumAt_7 : decode cX6_sumAt 7 = .ok (.aload_n 0, 1) := by decide +kernel
theorem dX6_sumAt_8 : decode cX6_sumAt 8 = .ok (.getfield 11, 3) := by decide +kernel
theorem dX6_sumAt_11 : decode cX6_sumAt 11 = .ok (.bipush 66, 2) := by decide +kernel
theorem dX6_sumAt_13 : decode cX6_sumAt 13 = .ok (.iaload, 1) := by decide +kernel
theorem dX6_sumAt_14 : decode cX6_sumAt 14 = .ok (.if_icmp .ge 19, 3) := by decide +kernel
theorem dX6_sumAt_17 : decode cX6_sumAt 17 = .ok (.lload_n 2, 1) := by decide +kernel
theorem dX6_sumAt_18 : decode cX6_sumAt 18 = .ok (.aload_n 0, 1) := by decide +kernel
theorem dX6_sumAt_19 : decode cX6_sumAt 19 = .ok (.iload 4, 2) := by decide +kernel
theorem dX6_sumAt_21 : decode cX6_sumAt 21 = .ok (.iload_n 1, 1) := by decide +kernel
theorem dX6_sumAt_22 : decode cX6_sumAt 22 = .ok (.invokevirtual 152, 3) := by decide +kernel
theorem dX6_sumAt_25 : decode cX6_sumAt 25 = .ok (.ladd, 1) := by decide +kernel
theorem dX6_sumAt_26 : decode cX6_sumAt 26 = .ok (.lstore_n 2, 1) := by decide +kernel
theorem dX6_sumAt_27 : decode cX6_sumAt 27 = .ok (.iinc 4 1, 3) := by decide +kernel
theorem dX6_sumAt_30 : decode cX6_sumAt 30 = .ok (.goto (-25), 3) := by decide +kernel
theorem dX6_sumAt_33 : decode cX6_sumAt 33 = .ok (.lload_n 2, 1) := by decide +kernel
theorem dX6_sumAt_34 : decode cX6_sumAt 34 = .ok (.lreturn, 1) := by decide +kernel
theorem dX6_isTick_0 : decode cX6_isTick 0 = .ok (.iload_n 0, 1) := by decide +kernel
theorem dX6_isTick_1 : decode cX6_isTick 1 = .ok (.i2l, 1) := by decide +kernel
theorem dX6_isTick_2 : decode cX6_isTick 2 = .ok (.lconst 0, 1) := by decide +kernel
theorem dX6_isTick_3 : decode cX6_isTick 3 = .ok (.ldc2_w 155, 3) := by decide +kernel
theorem dX6_isTick_6 : decode cX6_isTick 6 = .ok (.invokestatic 49, 3) := by decide +kernel
theorem dX6_isTick_9 : decode cX6_isTick 9 = .ok (.ireturn, 1) := by decide +kernel
theorem dX6_turn_0 : decode cX6_turn 0 = .ok (.iload_n 1, 1) := by decide +kernel
theorem dX6_turn_1 : decode cX6_turn 1 = .ok (.i2l, 1) := by decide +kernel
theorem dX6_turn_2 : decode cX6_turn 2 = .ok (.lconst 1, 1) := by decide +kernel
theorem dX6_turn_3 : decode cX6_turn 3 = .ok (.ldc2_w 155, 3) := by decide +kernel
theorem dX6_turn_6 : decode cX6_turn 6 = .ok (.invokestatic 49, 3) := by decide +kernel
theorem dX6_turn_9 : decode cX6_turn 9 = .ok (.ifCond .ne 6, 3) := by decide +kernel
theorem dX6_turn_12 : decode cX6_turn 12 = .ok (.bipush (-2), 2) := by decide +kernel
theorem dX6_turn_14 : decode cX6_turn 14 = .ok (.ireturn, 1) := by decide +kernel
theorem dX6_turn_15 : decode cX6_turn 15 = .ok (.aload_n 0, 1) := by decide +kernel
theorem dX6_turn_16 : decode cX6_turn 16 = .ok (.getfield 11, 3) := by decide +kernel
theorem dX6_turn_19 : decode cX6_turn 19 = .ok (.bipush 68, 2) := by decide +kernel
theorem dX6_turn_21 : decode cX6_turn 21 = .ok (.iaload, 1) := by decide +kernel
theorem dX6_turn_22 : decode cX6_turn 22 = .ok (.iload_n 1, 1) := by decide +kernel
theorem dX6_turn_23 : decode cX6_turn 23 = .ok (.iadd, 1) := by decide +kernel
theorem dX6_turn_24 : decode cX6_turn 24 = .ok (.ldc 157, 2) := by decide +kernel
theorem dX6_turn_26 : decode cX6_turn 26 = .ok (.if_icmp .le 6, 3) := by decide +kernel
theorem dX6_turn_29 : decode cX6_turn 29 = .ok (.bipush (-4), 2) := by decide +kernel
theorem dX6_turn_31 : decode cX6_turn 31 = .ok (.ireturn, 1) := by decide +kernel
theorem dX6_turn_32 : decode cX6_turn 32 = .ok (.aload_n 0, 1) := by decide +kernel
theorem dX6_turn_33 : decode cX6_turn 33 = .ok (.getfield 11, 3) := by decide +kernel
theorem dX6_turn_36 : decode cX6_turn 36 = .ok (.bipush 68, 2) := by decide +kernel
theorem dX6_turn_38 : decode cX6_turn 38 = .ok (.dup2, 1) := by decide +kernel
theorem dX6_turn_39 : decode cX6_turn 39 = .ok (.iaload, 1) := by decide +kernel
theorem dX6_turn_40 : decode cX6_turn 40 = .ok (.iload_n 1, 1) := by decide +kernel
theorem dX6_turn_41 : decode cX6_turn 41 = .ok (.iadd, 1) := by decide +kernel
theorem dX6_turn_42 : decode cX6_turn 42 = .ok (.iastore, 1) := by decide +kernel
theorem dX6_turn_43 : decode cX6_turn 43 = .ok (.aload_n 0, 1) := by decide +kernel
theorem dX6_turn_44 : decode cX6_turn 44 = .ok (.getfield 11, 3) := by decide +kernel
theorem dX6_turn_47 : decode cX6_turn 47 = .ok (.bipush 68, 2) := by decide +kernel
theorem dX6_turn_49 : decode cX6_turn 49 = .ok (.iaload, 1) := by decide +kernel
theorem dX6_turn_50 : decode cX6_turn 50 = .ok (.ireturn, 1) := by decide +kernel
theorem dX6_height_0 : decode cX6_height 0 = .ok (.aload_n 0, 1) := by decide +kernel
theorem dX6_height_1 : decode cX6_height 1 = .ok (.aload_n 0, 1) := by decide +kernel
theorem dX6_height_2 : decode cX6_height 2 = .ok (.getfield 11, 3) := by decide +kernel
theorem dX6_height_5 : decode cX6_height 5 = .ok (.bipush 68, 2) := by decide +kernel
theorem dX6_height_7 : decode cX6_height 7 = .ok (.iaload, 1) := by decide +kernel
theorem dX6_height_8 : decode cX6_height 8 = .ok (.invokevirtual 158, 3) := by decide +kernel
theorem dX6_height_11 : decode cX6_height 11 = .ok (.lreturn, 1) := by decide +kernel
theorem dX6_heightAt_0 : decode cX6_heightAt 0 = .ok (.iload_n 1, 1) := by decide +kernel
theorem dX6_heightAt_1 : decode cX6_heightAt 1 = .ok (.invokestatic 161, 3) := by decide +kernel
theorem dX6_heightAt_4 : decode cX6_heightAt 4 = .ok (.ifCond .eq 11, 3) := by decide +kernel
theorem dX6_heightAt_7 : decode cX6_heightAt 7 = .ok (.aload_n 0, 1) := by decide +kernel
theorem dX6_heightAt_8 : decode cX6_heightAt 8 = .ok (.iload_n 1, 1) := by decide +kernel
theorem dX6_heightAt_9 : decode cX6_heightAt 9 = .ok (.invokevirtual 158, 3) := by decide +kernel
theorem dX6_heightAt_12 : decode cX6_heightAt 12 = .ok (.goto 6, 3) := by decide +kernel
theorem dX6_heightAt_15 : decode cX6_heightAt 15 = .ok (.ldc2_w 136, 3) := by decide +kernel
theorem dX6_heightAt_18 : decode cX6_heightAt 18 = .ok (.lreturn, 1) := by decide +kernel
theorem dX6_heightOf_0 : decode cX6_heightOf 0 = .ok (.aload_n 0, 1) := by decide +kernel
theorem dX6_heightOf_1 : decode cX6_heightOf 1 = .ok (.iload_n 1, 1) := by decide +kernel
theorem dX6_heightOf_2 : decode cX6_heightOf 2 = .ok (.invokevirtual 69, 3) := by decide +kernel
theorem dX6_heightOf_5 : decode cX6_heightOf 5 = .ok (.ifCond .eq 19, 3) := by decide +kernel
theorem dX6_heightOf_8 : decode cX6_heightOf 8 = .ok (.iload_n 2, 1) := by decide +kernel
theorem dX6_heightOf_9 : decode cX6_heightOf 9 = .ok (.invokestatic 161, 3) := by decide +kernel
theorem dX6_heightOf_12 : decode cX6_heightOf 12 = .ok (.ifCond .eq 12, 3) := by decide +kernel
theorem dX6_heightOf_15 : decode cX6_heightOf 15 = .ok (.aload_n 0, 1) := by decide +kernel
theorem dX6_heightOf_16 : decode cX6_heightOf 16 = .ok (.iload_n 1, 1) := by decide +kernel
theorem dX6_heightOf_17 : decode cX6_heightOf 17 = .ok (.iload_n 2, 1) := by decide +kernel
theorem dX6_heightOf_18 : decode cX6_heightOf 18 = .ok (.invokevirtual 152, 3) := by decide +kernel
theorem dX6_heightOf_21 : decode cX6_heightOf 21 = .ok (.goto 6, 3) := by decide +kernel
theorem dX6_heightOf_24 : decode cX6_heightOf 24 = .ok (.ldc2_w 136, 3) := by decide +kernel
theorem dX6_heightOf_27 : decode cX6_heightOf 27 = .ok (.lreturn, 1) := by decide +kernel
theorem dX6_place_0 : decode cX6_place 0 = .ok (.aload_n 0, 1) := by decide +kernel
theorem dX6_place_1 : decode cX6_place 1 = .ok (.iload_n 1, 1) := by decide +kernel
theorem dX6_place_2 : decode cX6_place 2 = .ok (.invokevirtual 69, 3) := by decide +kernel
theorem dX6_place_5 : decode cX6_place 5 = .ok (.ifCond .eq 19, 3) := by decide +kernel
theorem dX6_place_8 : decode cX6_place 8 = .ok (.iload_n 2, 1) := by decide +kernel
theorem dX6_place_9 : decode cX6_place 9 = .ok (.invokestatic 161, 3) := by decide +kernel
theorem dX6_place_12 : decode cX6_place 12 = .ok (.ifCond .eq 12, 3) := by decide +kernel
theorem dX6_place_15 : decode cX6_place 15 = .ok (.aload_n 0, 1) := by decide +kernel
theorem dX6_place_16 : decode cX6_place 16 = .ok (.iload_n 1, 1) := by decide +kernel
theorem dX6_place_17 : decode cX6_place 17 = .ok (.iload_n 2, 1) := by decide +kernel
theorem dX6_place_18 : decode cX6_place 18 = .ok (.invokevirtual 146, 3) := by decide +kernel
theorem dX6_place_21 : decode cX6_place 21 = .ok (.goto 5, 3) := by decide +kernel
theorem dX6_place_24 : decode cX6_place 24 = .ok (.bipush (-2), 2) := by decide +kernel
theorem dX6_place_26 : decode cX6_place 26 = .ok (.ireturn, 1) := by decide +kernel
theorem dX6_looks_0 : decode cX6_looks 0 = .ok (.aload_n 0, 1) := by decide +kernel
theorem dX6_looks_1 : decode cX6_looks 1 = .ok (.iconst 0, 1) := by decide +kernel
theorem dX6_looks_2 : decode cX6_looks 2 = .ok (.putfield 164, 3) := by decide +kernel
theorem dX6_looks_5 : decode cX6_looks 5 = .ok (.aload_n 0, 1) := by decide +kernel
theorem dX6_looks_6 : decode cX6_looks 6 = .ok (.iconst (-1), 1) := by decide +kernel
theorem dX6_looks_7 : decode cX6_looks 7 = .ok (.putfield 168, 3) := by decide +kernel
theorem dX6_looks_10 : decode cX6_looks 10 = .ok (.aload_n 0, 1) := by decide +kernel
theorem dX6_looks_11 : decode cX6_looks 11 = .ok (.iconst (-1), 1) := by decide +kernel
theorem dX6_looks_12 : decode cX6_looks 12 = .ok (.putfield 171, 3) := by decide +kernel
theorem dX6_looks_15 : decode cX6_looks 15 = .ok (.lconst 0, 1) := by decide +kernel
theorem dX6_looks_16 : decode cX6_looks 16 = .ok (.lstore 5, 2) := by decide +kernel
theorem dX6_looks_18 : decode cX6_looks 18 = .ok (.iconst 0, 1) := by decide +kernel
theorem dX6_looks_19 : decode cX6_looks 19 = .ok (.istore 7, 2) := by decide +kernel
theorem dX6_looks_21 : decode cX6_looks 21 = .ok (.aload_n 0, 1) := by decide +kernel
theorem dX6_looks_22 : decode cX6_looks 22 = .ok (.iload_n 1, 1) := by decide +kernel
theorem dX6_looks_23 : decode cX6_looks 23 = .ok (.invokevirtual 158, 3) := by decide +kernel
theorem dX6_looks_26 : decode cX6_looks 26 = .ok (.lstore 8, 2) := by decide +kernel
theorem dX6_looks_28 : decode cX6_looks 28 = .ok (.iload_n 1, 1) := by decide +kernel
theorem dX6_looks_29 : decode cX6_looks 29 = .ok (.istore 10, 2) := by decide +kernel
theorem dX6_looks_31 : decode cX6_looks 31 = .ok (.iload 10, 2) := by decide +kernel
theorem dX6_looks_33 : decode cX6_looks 33 = .ok (.iload_n 1, 1) := by decide +kernel
theorem dX6_looks_34 : decode cX6_looks 34 = .ok (.iload_n 2, 1) := by decide +kernel
theorem dX6_looks_35 : decode cX6_looks 35 = .ok (.iadd, 1) := by decide +kernel
theorem dX6_looks_36 : decode cX6_looks 36 = .ok (.if_icmp .ge 122, 3) := by decide +kernel
theorem dX6_looks_39 : decode cX6_looks 39 = .ok (.aload_n 0, 1) := by decide +kernel
theorem dX6_looks_40 : decode cX6_looks 40 = .ok (.iload 10, 2) := by decide +kernel
theorem dX6_looks_42 : decode cX6_looks 42 = .ok (.iconst 1, 1) := by decide +kernel
theorem dX6_looks_43 : decode cX6_looks 43 = .ok (.iadd, 1) := by decide +kernel
theorem dX6_looks_44 : decode cX6_looks 44 = .ok (.invokevirtual 158, 3) := by decide +kernel
theorem dX6_looks_47 : decode cX6_looks 47 = .ok (.lstore 11, 2) := by decide +kernel
theorem dX6_looks_49 : decode cX6_looks 49 = .ok (.lload 11, 2) := by decide +kernel
theorem dX6_looks_51 : decode cX6_looks 51 = .ok (.lload 8, 2) := by decide +kernel
theorem dX6_looks_53 : decode cX6_looks 53 = .ok (.invokestatic 174, 3) := by decide +kernel
theorem dX6_looks_56 : decode cX6_looks 56 = .ok (.iload_n 3, 1) := by decide +kernel
theorem dX6_looks_57 : decode cX6_looks 57 = .ok (.imul, 1) := by decide +kernel
theorem dX6_looks_58 : decode cX6_looks 58 = .ok (.istore 13, 2) := by decide +kernel
theorem dX6_looks_60 : decode cX6_looks 60 = .ok (.iload 13, 2) := by decide +kernel
theorem dX6_looks_62 : decode cX6_looks 62 = .ok (.ifCond .ge 72, 3) := by decide +kernel
theorem dX6_looks_65 : decode cX6_looks 65 = .ok (.iload 7, 2) := by decide +kernel
theorem dX6_looks_67 : decode cX6_looks 67 = .ok (.ifCond .le 67, 3) := by decide +kernel
theorem dX6_looks_70 : decode cX6_looks 70 = .ok (.aload_n 0, 1) := by decide +kernel
theorem dX6_looks_71 : decode cX6_looks 71 = .ok (.aload_n 0, 1) := by decide +kernel
theorem dX6_looks_72 : decode cX6_looks 72 = .ok (.getfield 164, 3) := by decide +kernel
theorem dX6_looks_75 : decode cX6_looks 75 = .ok (.iload 4, 2) := by decide +kernel
theorem dX6_looks_77 : decode cX6_looks 77 = .ok (.if_icmp .ne 8, 3) := by decide +kernel
theorem dX6_looks_80 : decode cX6_looks 80 = .ok (.iload 10, 2) := by decide +kernel
theorem dX6_looks_82 : decode cX6_looks 82 = .ok (.goto 7, 3) := by decide +kernel
theorem dX6_looks_85 : decode cX6_looks 85 = .ok (.aload_n 0, 1) := by decide +kernel
theorem dX6_looks_86 : decode cX6_looks 86 = .ok (.getfield 171, 3) := by decide +kernel
theorem dX6_looks_89 : decode cX6_looks 89 = .ok (.putfield 171, 3) := by decide +kernel
theorem dX6_looks_92 : decode cX6_looks 92 = .ok (.aload_n 0, 1) := by decide +kernel
theorem dX6_looks_93 : decode cX6_looks 93 = .ok (.dup, 1) := by decide +kernel
theorem dX6_looks_94 : decode cX6_looks 94 = .ok (.getfield 164, 3) := by decide +kernel
theorem dX6_looks_97 : decode cX6_looks 97 = .ok (.iconst 1, 1) := by decide +kernel
theorem dX6_looks_98 : decode cX6_looks 98 = .ok (.iadd, 1) := by decide +kernel
theorem dX6_looks_99 : decode cX6_looks 99 = .ok (.putfield 164, 3) := by decide +kernel
theorem dX6_looks_102 : decode cX6_looks 102 = .ok (.aload_n 0, 1) := by decide +kernel
theorem dX6_looks_103 : decode cX6_looks 103 = .ok (.getfield 168, 3) := by decide +kernel
theorem dX6_looks_106 : decode cX6_looks 106 = .ok (.iconst (-1), 1) := by decide +kernel
theorem dX6_looks_107 : decode cX6_looks 107 = .ok (.if_icmp .eq 14, 3) := by decide +kernel
theorem dX6_looks_110 : decode cX6_looks 110 = .ok (.lload 8, 2) := by decide +kernel
theorem dX6_looks_112 : decode cX6_looks 112 = .ok (.iload_n 3, 1) := by decide +kernel
theorem dX6_looks_113 : decode cX6_looks 113 = .ok (.i2l, 1) := by decide +kernel
theorem dX6_looks_114 : decode cX6_looks 114 = .ok (.lmul, 1) := by decide +kernel
theorem dX6_looks_115 : decode cX6_looks 115 = .ok (.lload 5, 2) := by decide +kernel
theorem dX6_looks_117 : decode cX6_looks 117 = .ok (.lcmp, 1) := by decide +kernel
theorem dX6_looks_118 : decode cX6_looks 118 = .ok (.ifCond .le 16, 3) := by decide +kernel
theorem dX6_looks_121 : decode cX6_looks 121 = .ok (.lload 8, 2) := by decide +kernel
theorem dX6_looks_123 : decode cX6_looks 123 = .ok (.iload_n 3, 1) := by decide +kernel
theorem dX6_looks_124 : decode cX6_looks 124 = .ok (.i2l, 1) := by decide +kernel
theorem dX6_looks_125 : decode cX6_looks 125 = .ok (.lmul, 1) := by decide +kernel
theorem dX6_looks_126 : decode cX6_looks 126 = .ok (.lstore 5, 2) := by decide +kernel
theorem dX6_looks_128 : decode cX6_looks 128 = .ok (.aload_n 0, 1) := by decide +kernel
theorem dX6_looks_129 : decode cX6_looks 129 = .ok (.iload 10, 2) := by decide +kernel
theorem dX6_looks_131 : decode cX6_looks 131 = .ok (.putfield 168, 3) := by decide +kernel
theorem dX6_looks_134 : decode cX6_looks 134 = .ok (.iload 13, 2) := by decide +kernel
theorem dX6_looks_136 : decode cX6_looks 136 = .ok (.ifCond .ne 8, 3) := by decide +kernel
theorem dX6_looks_139 : decode cX6_looks 139 = .ok (.iload 7, 2) := by decide +kernel
theorem dX6_looks_141 : decode cX6_looks 141 = .ok (.goto 5, 3) := by decide +kernel
theorem dX6_looks_144 : decode cX6_looks 144 = .ok (.iload 13, 2) := by decide +kernel
theorem dX6_looks_146 : decode cX6_looks 146 = .ok (.istore 7, 2) := by decide +kernel
theorem dX6_looks_148 : decode cX6_looks 148 = .ok (.lload 11, 2) := by decide +kernel
theorem dX6_looks_150 : decode cX6_looks 150 = .ok (.lstore 8, 2) := by decide +kernel
theorem dX6_looks_152 : decode cX6_looks 152 = .ok (.iinc 10 1, 3) := by decide +kernel
theorem dX6_looks_155 : decode cX6_looks 155 = .ok (.goto (-124), 3) := by decide +kernel
theorem dX6_looks_158 : decode cX6_looks 158 = .ok (.return_, 1) := by decide +kernel
theorem dX6_areWaters_0 : decode cX6_areWaters 0 = .ok (.iload_n 0, 1) := by decide +kernel
theorem dX6_areWaters_1 : decode cX6_areWaters 1 = .ok (.invokestatic 161, 3) := by decide +kernel
theorem dX6_areWaters_4 : decode cX6_areWaters 4 = .ok (.ifCond .eq 18, 3) := by decide +kernel
theorem dX6_areWaters_7 : decode cX6_areWaters 7 = .ok (.iload_n 1, 1) := by decide +kernel
theorem dX6_areWaters_8 : decode cX6_areWaters 8 = .ok (.i2l, 1) := by decide +kernel
theorem dX6_areWaters_9 : decode cX6_areWaters 9 = .ok (.lconst 1, 1) := by decide +kernel
theorem dX6_areWaters_10 : decode cX6_areWaters 10 = .ok (.iload_n 2, 1) := by decide +kernel
theorem dX6_areWaters_11 : decode cX6_areWaters 11 = .ok (.i2l, 1) := by decide +kernel
theorem dX6_areWaters_12 : decode cX6_areWaters 12 = .ok (.invokestatic 49, 3) := by decide +kernel
theorem dX6_areWaters_15 : decode cX6_areWaters 15 = .ok (.ifCond .eq 7, 3) := by decide +kernel
theorem dX6_areWaters_18 : decode cX6_areWaters 18 = .ok (.iconst 1, 1) := by decide +kernel
theorem dX6_areWaters_19 : decode cX6_areWaters 19 = .ok (.goto 4, 3) := by decide +kernel
theorem dX6_areWaters_22 : decode cX6_areWaters 22 = .ok (.iconst 0, 1) := by decide +kernel
theorem dX6_areWaters_23 : decode cX6_areWaters 23 = .ok (.ireturn, 1) := by decide +kernel
theorem dX6_waters_0 : decode cX6_waters 0 = .ok (.iload_n 1, 1) := by decide +kernel
theorem dX6_waters_1 : decode cX6_waters 1 = .ok (.iload_n 2, 1) := by decide +kernel
theorem dX6_waters_2 : decode cX6_waters 2 = .ok (.sipush 2000, 3) := by decide +kernel
theorem dX6_waters_5 : decode cX6_waters 5 = .ok (.invokestatic 178, 3) := by decide +kernel
theorem dX6_waters_8 : decode cX6_waters 8 = .ok (.ifCond .eq 15, 3) := by decide +kernel
theorem dX6_waters_11 : decode cX6_waters 11 = .ok (.iload_n 3, 1) := by decide +kernel
theorem dX6_waters_12 : decode cX6_waters 12 = .ok (.i2l, 1) := by decide +kernel
theorem dX6_waters_13 : decode cX6_waters 13 = .ok (.lconst 0, 1) := by decide +kernel
theorem dX6_waters_14 : decode cX6_waters 14 = .ok (.ldc2_w 104, 3) := by decide +kernel
theorem dX6_waters_17 : decode cX6_waters 17 = .ok (.invokestatic 49, 3) := by decide +kernel
theorem dX6_waters_20 : decode cX6_waters 20 = .ok (.ifCond .ne 6, 3) := by decide +kernel
theorem dX6_waters_23 : decode cX6_waters 23 = .ok (.bipush (-2), 2) := by decide +kernel
theorem dX6_waters_25 : decode cX6_waters 25 = .ok (.ireturn, 1) := by decide +kernel
theorem dX6_waters_26 : decode cX6_waters 26 = .ok (.aload_n 0, 1) := by decide +kernel
theorem dX6_waters_27 : decode cX6_waters 27 = .ok (.iload_n 1, 1) := by decide +kernel
theorem dX6_waters_28 : decode cX6_waters 28 = .ok (.iload_n 2, 1) := by decide +kernel
theorem dX6_waters_29 : decode cX6_waters 29 = .ok (.iload_n 3, 1) := by decide +kernel
theorem dX6_waters_30 : decode cX6_waters 30 = .ok (.iconst 2, 1) := by decide +kernel
theorem dX6_waters_31 : decode cX6_waters 31 = .ok (.irem, 1) := by decide +kernel
theorem dX6_waters_32 : decode cX6_waters 32 = .ok (.ifCond .ne 7, 3) := by decide +kernel
theorem dX6_waters_35 : decode cX6_waters 35 = .ok (.iconst 1, 1) := by decide +kernel
theorem dX6_waters_36 : decode cX6_waters 36 = .ok (.goto 4, 3) := by decide +kernel
theorem dX6_waters_39 : decode cX6_waters 39 = .ok (.iconst (-1), 1) := by decide +kernel
theorem dX6_waters_40 : decode cX6_waters 40 = .ok (.iconst 0, 1) := by decide +kernel
theorem dX6_waters_41 : decode cX6_waters 41 = .ok (.invokevirtual 182, 3) := by decide +kernel
theorem dX6_waters_44 : decode cX6_waters 44 = .ok (.iload_n 3, 1) := by decide +kernel
theorem dX6_waters_45 : decode cX6_waters 45 = .ok (.iconst 2, 1) := by decide +kernel
theorem dX6_waters_46 : decode cX6_waters 46 = .ok (.if_icmp .ge 10, 3) := by decide +kernel
theorem dX6_waters_49 : decode cX6_waters 49 = .ok (.aload_n 0, 1) := by decide +kernel
theorem dX6_waters_50 : decode cX6_waters 50 = .ok (.getfield 164, 3) := by decide +kernel
theorem dX6_waters_53 : decode cX6_waters 53 = .ok (.goto 7, 3) := by decide +kernel
theorem dX6_waters_56 : decode cX6_waters 56 = .ok (.aload_n 0, 1) := by decide +kernel
theorem dX6_waters_57 : decode cX6_waters 57 = .ok (.getfield 168, 3) := by decide +kernel
theorem dX6_waters_60 : decode cX6_waters 60 = .ok (.ireturn, 1) := by decide +kernel
theorem dX6_water_0 : decode cX6_water 0 = .ok (.iload_n 1, 1) := by decide +kernel
theorem dX6_water_1 : decode cX6_water 1 = .ok (.iload_n 2, 1) := by decide +kernel
theorem dX6_water_2 : decode cX6_water 2 = .ok (.sipush 2000, 3) := by decide +kernel
theorem dX6_water_5 : decode cX6_water 5 = .ok (.invokestatic 178, 3) := by decide +kernel
theorem dX6_water_8 : decode cX6_water 8 = .ok (.ifCond .eq 15, 3) := by decide +kernel
theorem dX6_water_11 : decode cX6_water 11 = .ok (.iload_n 3, 1) := by decide +kernel
theorem dX6_water_12 : decode cX6_water 12 = .ok (.invokestatic 122, 3) := by decide +kernel
theorem dX6_water_15 : decode cX6_water 15 = .ok (.ifCond .eq 8, 3) := by decide +kernel
theorem dX6_water_18 : decode cX6_water 18 = .ok (.iload 4, 2) := by decide +kernel
theorem dX6_water_20 : decode cX6_water 20 = .ok (.ifCond .ge 6, 3) := by decide +kernel
theorem dX6_water_23 : decode cX6_water 23 = .ok (.bipush (-2), 2) := by decide +kernel
theorem dX6_water_25 : decode cX6_water 25 = .ok (.ireturn, 1) := by decide +kernel
theorem dX6_water_26 : decode cX6_water 26 = .ok (.aload_n 0, 1) := by decide +kernel
theorem dX6_water_27 : decode cX6_water 27 = .ok (.iload_n 1, 1) := by decide +kernel
theorem dX6_water_28 : decode cX6_water 28 = .ok (.iload_n 2, 1) := by decide +kernel
theorem dX6_water_29 : decode cX6_water 29 = .ok (.iload_n 3, 1) := by decide +kernel
theorem dX6_water_30 : decode cX6_water 30 = .ok (.ifCond .ne 7, 3) := by decide +kernel
theorem dX6_water_33 : decode cX6_water 33 = .ok (.iconst 1, 1) := by decide +kernel
theorem dX6_water_34 : decode cX6_water 34 = .ok (.goto 4, 3) := by decide +kernel
theorem dX6_water_37 : decode cX6_water 37 = .ok (.iconst (-1), 1) := by decide +kernel
theorem dX6_water_38 : decode cX6_water 38 = .ok (.iload 4, 2) := by decide +kernel
theorem dX6_water_40 : decode cX6_water 40 = .ok (.invokevirtual 182, 3) := by decide +kernel
theorem dX6_water_43 : decode cX6_water 43 = .ok (.aload_n 0, 1) := by decide +kernel
theorem dX6_water_44 : decode cX6_water 44 = .ok (.getfield 171, 3) := by decide +kernel
theorem dX6_water_47 : decode cX6_water 47 = .ok (.ireturn, 1) := by decide +kernel
theorem dX6_isSheet_0 : decode cX6_isSheet 0 = .ok (.iload_n 0, 1) := by decide +kernel
theorem dX6_isSheet_1 : decode cX6_isSheet 1 = .ok (.i2l, 1) := by decide +kernel
theorem dX6_isSheet_2 : decode cX6_isSheet 2 = .ok (.lconst 0, 1) := by decide +kernel
theorem dX6_isSheet_3 : decode cX6_isSheet 3 = .ok (.ldc2_w 104, 3) := by decide +kernel
theorem dX6_isSheet_6 : decode cX6_isSheet 6 = .ok (.invokestatic 49, 3) := by decide +kernel
theorem dX6_isSheet_9 : decode cX6_isSheet 9 = .ok (.ireturn, 1) := by decide +kernel
theorem dX6_itemOf_0 : decode cX6_itemOf 0 = .ok (.aload_n 0, 1) := by decide +kernel
theorem dX6_itemOf_1 : decode cX6_itemOf 1 = .ok (.getfield 24, 3) := by decide +kernel
theorem dX6_itemOf_4 : decode cX6_itemOf 4 = .ok (.bipush 40, 2) := by decide +kernel
theorem dX6_itemOf_6 : decode cX6_itemOf 6 = .ok (.iload_n 1, 1) := by decide +kernel
theorem dX6_itemOf_7 : decode cX6_itemOf 7 = .ok (.imul, 1) := by decide +kernel
theorem dX6_itemOf_8 : decode cX6_itemOf 8 = .ok (.iload_n 2, 1) := by decide +kernel
theorem dX6_itemOf_9 : decode cX6_itemOf 9 = .ok (.iadd, 1) := by decide +kernel
theorem dX6_itemOf_10 : decode cX6_itemOf 10 = .ok (.laload, 1) := by decide +kernel
theorem dX6_itemOf_11 : decode cX6_itemOf 11 = .ok (.lreturn, 1) := by decide +kernel
theorem dX6_firstOther_0 : decode cX6_firstOther 0 = .ok (.iconst 0, 1) := by decide +kernel
theorem dX6_firstOther_1 : decode cX6_firstOther 1 = .ok (.istore_n 3, 1) := by decide +kernel
theorem dX6_firstOther_2 : decode cX6_firstOther 2 = .ok (.iload_n 3, 1) := by decide +kernel
theorem dX6_firstOther_3 : decode cX6_firstOther 3 = .ok (.aload_n 0, 1) := by decide +kernel
theorem dX6_firstOther_4 : decode cX6_firstOther 4 = .ok (.getfield 21, 3) := by decide +kernel
theorem dX6_firstOther_7 : decode cX6_firstOther 7 = .ok (.iload_n 1, 1) := by decide +kernel
theorem dX6_firstOther_8 : decode cX6_firstOther 8 = .ok (.iaload, 1) := by decide +kernel
theorem dX6_firstOther_9 : decode cX6_firstOther 9 = .ok (.if_icmp .ge 28, 3) := by decide +kernel
theorem dX6_firstOther_12 : decode cX6_firstOther 12 = .ok (.aload_n 0, 1) := by decide +kernel
theorem dX6_firstOther_13 : decode cX6_firstOther 13 = .ok (.iload_n 2, 1) := by decide +kernel
theorem dX6_firstOther_14 : decode cX6_firstOther 14 = .ok (.iload_n 3, 1) := by decide +kernel
theorem dX6_firstOther_15 : decode cX6_firstOther 15 = .ok (.iadd, 1) := by decide +kernel
theorem dX6_firstOther_16 : decode cX6_firstOther 16 = .ok (.invokevirtual 158, 3) := by decide +kernel
theorem dX6_firstOther_19 : decode cX6_firstOther 19 = .ok (.aload_n 0, 1) := by decide +kernel
theorem dX6_firstOther_20 : decode cX6_firstOther 20 = .ok (.iload_n 1, 1) := by decide +kernel
theorem dX6_firstOther_21 : decode cX6_firstOther 21 = .ok (.iload_n 3, 1) := by decide +kernel
theorem dX6_firstOther_22 : decode cX6_firstOther 22 = .ok (.invokevirtual 186, 3) := by decide +kernel
theorem dX6_firstOther_25 : decode cX6_firstOther 25 = .ok (.lcmp, 1) := by decide +kernel
theorem dX6_firstOther_26 : decode cX6_firstOther 26 = .ok (.ifCond .eq 5, 3) := by decide +kernel
theorem dX6_firstOther_29 : decode cX6_firstOther 29 = .ok (.iload_n 3, 1) := by decide +kernel
theorem dX6_firstOther_30 : decode cX6_firstOther 30 = .ok (.ireturn, 1) := by decide +kernel
theorem dX6_firstOther_31 : decode cX6_firstOther 31 = .ok (.iinc 3 1, 3) := by decide +kernel
theorem dX6_firstOther_34 : decode cX6_firstOther 34 = .ok (.goto (-32), 3) := by decide +kernel
theorem dX6_firstOther_37 : decode cX6_firstOther 37 = .ok (.iconst (-1), 1) := by decide +kernel
theorem dX6_firstOther_38 : decode cX6_firstOther 38 = .ok (.ireturn, 1) := by decide +kernel
theorem dX6_wrongBy_0 : decode cX6_wrongBy 0 = .ok (.iconst 0, 1) := by decide +kernel
theorem dX6_wrongBy_1 : decode cX6_wrongBy 1 = .ok (.istore 5, 2) := by decide +kernel
theorem dX6_wrongBy_3 : decode cX6_wrongBy 3 = .ok (.iload 5, 2) := by decide +kernel
theorem dX6_wrongBy_5 : decode cX6_wrongBy 5 = .ok (.aload_n 0, 1) := by decide +kernel
theorem dX6_wrongBy_6 : decode cX6_wrongBy 6 = .ok (.getfield 11, 3) := by decide +kernel
theorem dX6_wrongBy_9 : decode cX6_wrongBy 9 = .ok (.bipush 66, 2) := by decide +kernel
theorem dX6_wrongBy_11 : decode cX6_wrongBy 11 = .ok (.iaload, 1) := by decide +kernel
theorem dX6_wrongBy_12 : decode cX6_wrongBy 12 = .ok (.if_icmp .ge 94, 3) := by decide +kernel
theorem dX6_wrongBy_15 : decode cX6_wrongBy 15 = .ok (.aload_n 0, 1) := by decide +kernel
theorem dX6_wrongBy_16 : decode cX6_wrongBy 16 = .ok (.iload 5, 2) := by decide +kernel
theorem dX6_wrongBy_18 : decode cX6_wrongBy 18 = .ok (.iload_n 3, 1) := by decide +kernel
theorem dX6_wrongBy_19 : decode cX6_wrongBy 19 = .ok (.invokevirtual 77, 3) := by decide +kernel
theorem dX6_wrongBy_22 : decode cX6_wrongBy 22 = .ok (.istore 6, 2) := by decide +kernel
theorem dX6_wrongBy_24 : decode cX6_wrongBy 24 = .ok (.iconst (-1), 1) := by decide +kernel
theorem dX6_wrongBy_25 : decode cX6_wrongBy 25 = .ok (.istore 7, 2) := by decide +kernel
theorem dX6_wrongBy_27 : decode cX6_wrongBy 27 = .ok (.iconst 0, 1) := by decide +kernel
theorem dX6_wrongBy_28 : decode cX6_wrongBy 28 = .ok (.istore 8, 2) := by decide +kernel
theorem dX6_wrongBy_30 : decode cX6_wrongBy 30 = .ok (.iload 8, 2) := by decide +kernel
theorem dX6_wrongBy_32 : decode cX6_wrongBy 32 = .ok (.iload 4, 2) := by decide +kernel
theorem dX6_wrongBy_34 : decode cX6_wrongBy 34 = .ok (.if_icmp .ge 42, 3) := by decide +kernel
theorem dX6_wrongBy_37 : decode cX6_wrongBy 37 = .ok (.iload 7, 2) := by decide +kernel
theorem dX6_wrongBy_39 : decode cX6_wrongBy 39 = .ok (.iconst (-1), 1) := by decide +kernel
theorem dX6_wrongBy_40 : decode cX6_wrongBy 40 = .ok (.if_icmp .ne 36, 3) := by decide +kernel
theorem dX6_wrongBy_43 : decode cX6_wrongBy 43 = .ok (.aload_n 0, 1) := by decide +kernel
theorem dX6_wrongBy_44 : decode cX6_wrongBy 44 = .ok (.iload 5, 2) := by decide +kernel
theorem dX6_wrongBy_46 : decode cX6_wrongBy 46 = .ok (.iload_n 3, 1) := by decide +kernel
theorem dX6_wrongBy_47 : decode cX6_wrongBy 47 = .ok (.iload 8, 2) := by decide +kernel
theorem dX6_wrongBy_49 : decode cX6_wrongBy 49 = .ok (.invokevirtual 65, 3) := by decide +kernel
theorem dX6_wrongBy_52 : decode cX6_wrongBy 52 = .ok (.aload_n 0, 1) := by decide +kernel
theorem dX6_wrongBy_53 : decode cX6_wrongBy 53 = .ok (.iload_n 1, 1) := by decide +kernel
theorem dX6_wrongBy_54 : decode cX6_wrongBy 54 = .ok (.iload_n 2, 1) := by decide +kernel
theorem dX6_wrongBy_55 : decode cX6_wrongBy 55 = .ok (.invokevirtual 189, 3) := by decide +kernel
theorem dX6_wrongBy_58 : decode cX6_wrongBy 58 = .ok (.iconst (-1), 1) := by decide +kernel
theorem dX6_wrongBy_59 : decode cX6_wrongBy 59 = .ok (.if_icmp .ne 8, 3) := by decide +kernel
theorem dX6_wrongBy_62 : decode cX6_wrongBy 62 = .ok (.iload 8, 2) := by decide +kernel
theorem dX6_wrongBy_64 : decode cX6_wrongBy 64 = .ok (.goto 4, 3) := by decide +kernel
theorem dX6_wrongBy_67 : decode cX6_wrongBy 67 = .ok (.iconst (-1), 1) := by decide +kernel
theorem dX6_wrongBy_68 : decode cX6_wrongBy 68 = .ok (.istore 7, 2) := by decide +kernel
theorem dX6_wrongBy_70 : decode cX6_wrongBy 70 = .ok (.iinc 8 1, 3) := by decide +kernel
theorem dX6_wrongBy_73 : decode cX6_wrongBy 73 = .ok (.goto (-43), 3) := by decide +kernel
theorem dX6_wrongBy_76 : decode cX6_wrongBy 76 = .ok (.aload_n 0, 1) := by decide +kernel
theorem dX6_wrongBy_77 : decode cX6_wrongBy 77 = .ok (.iload 5, 2) := by decide +kernel
theorem dX6_wrongBy_79 : decode cX6_wrongBy 79 = .ok (.iload_n 3, 1) := by decide +kernel
theorem dX6_wrongBy_80 : decode cX6_wrongBy 80 = .ok (.iload 6, 2) := by decide +kernel
theorem dX6_wrongBy_82 : decode cX6_wrongBy 82 = .ok (.invokevirtual 65, 3) := by decide +kernel
theorem dX6_wrongBy_85 : decode cX6_wrongBy 85 = .ok (.iload 7, 2) := by decide +kernel
theorem dX6_wrongBy_87 : decode cX6_wrongBy 87 = .ok (.iconst (-1), 1) := by decide +kernel
theorem dX6_wrongBy_88 : decode cX6_wrongBy 88 = .ok (.if_icmp .eq 12, 3) := by decide +kernel
theorem dX6_wrongBy_91 : decode cX6_wrongBy 91 = .ok (.iload 4, 2) := by decide +kernel
theorem dX6_wrongBy_93 : decode cX6_wrongBy 93 = .ok (.iload 5, 2) := by decide +kernel
theorem dX6_wrongBy_95 : decode cX6_wrongBy 95 = .ok (.imul, 1) := by decide +kernel
theorem dX6_wrongBy_96 : decode cX6_wrongBy 96 = .ok (.iload 7, 2) := by decide +kernel
theorem dX6_wrongBy_98 : decode cX6_wrongBy 98 = .ok (.iadd, 1) := by decide +kernel
theorem dX6_wrongBy_99 : decode cX6_wrongBy 99 = .ok (.ireturn, 1) := by decide +kernel
theorem dX6_wrongBy_100 : decode cX6_wrongBy 100 = .ok (.iinc 5 1, 3) := by decide +kernel
theorem dX6_wrongBy_103 : decode cX6_wrongBy 103 = .ok (.goto (-100), 3) := by decide +kernel
theorem dX6_wrongBy_106 : decode cX6_wrongBy 106 = .ok (.iconst (-1), 1) := by decide +kernel
theorem dX6_wrongBy_107 : decode cX6_wrongBy 107 = .ok (.ireturn, 1) := by decide +kernel
theorem dX6_tells_0 : decode cX6_tells 0 = .ok (.iload_n 1, 1) := by decide +kernel
theorem dX6_tells_1 : decode cX6_tells 1 = .ok (.invokestatic 192, 3) := by decide +kernel
theorem dX6_tells_4 : decode cX6_tells 4 = .ok (.ifCond .eq 22, 3) := by decide +kernel
theorem dX6_tells_7 : decode cX6_tells 7 = .ok (.iload_n 2, 1) := by decide +kernel
theorem dX6_tells_8 : decode cX6_tells 8 = .ok (.invokestatic 161, 3) := by decide +kernel
theorem dX6_tells_11 : decode cX6_tells 11 = .ok (.ifCond .eq 15, 3) := by decide +kernel
theorem dX6_tells_14 : decode cX6_tells 14 = .ok (.iload_n 3, 1) := by decide +kernel
theorem dX6_tells_15 : decode cX6_tells 15 = .ok (.i2l, 1) := by decide +kernel
theorem dX6_tells_16 : decode cX6_tells 16 = .ok (.lconst 0, 1) := by decide +kernel
theorem dX6_tells_17 : decode cX6_tells 17 = .ok (.ldc2_w 104, 3) := by decide +kernel
theorem dX6_tells_20 : decode cX6_tells 20 = .ok (.invokestatic 49, 3) := by decide +kernel
theorem dX6_tells_23 : decode cX6_tells 23 = .ok (.ifCond .ne 6, 3) := by decide +kernel
theorem dX6_tells_26 : decode cX6_tells 26 = .ok (.bipush (-2), 2) := by decide +kernel
theorem dX6_tells_28 : decode cX6_tells 28 = .ok (.ireturn, 1) := by decide +kernel
theorem dX6_tells_29 : decode cX6_tells 29 = .ok (.aload_n 0, 1) := by decide +kernel
theorem dX6_tells_30 : decode cX6_tells 30 = .ok (.getfield 18, 3) := by decide +kernel
theorem dX6_tells_33 : decode cX6_tells 33 = .ok (.iload_n 1, 1) := by decide +kernel
theorem dX6_tells_34 : decode cX6_tells 34 = .ok (.iaload, 1) := by decide +kernel
theorem dX6_tells_35 : decode cX6_tells 35 = .ok (.iconst (-1), 1) := by decide +kernel
theorem dX6_tells_36 : decode cX6_tells 36 = .ok (.if_icmp .ne 6, 3) := by decide +kernel
theorem dX6_tells_39 : decode cX6_tells 39 = .ok (.bipush (-11), 2) := by decide +kernel
theorem dX6_tells_41 : decode cX6_tells 41 = .ok (.ireturn, 1) := by decide +kernel
theorem dX6_tells_42 : decode cX6_tells 42 = .ok (.aload_n 0, 1) := by decide +kernel
theorem dX6_tells_43 : decode cX6_tells 43 = .ok (.getfield 21, 3) := by decide +kernel
theorem dX6_tells_46 : decode cX6_tells 46 = .ok (.iload_n 1, 1) := by decide +kernel
theorem dX6_tells_47 : decode cX6_tells 47 = .ok (.iaload, 1) := by decide +kernel
theorem dX6_tells_48 : decode cX6_tells 48 = .ok (.bipush 8, 2) := by decide +kernel
theorem dX6_tells_50 : decode cX6_tells 50 = .ok (.if_icmp .le 6, 3) := by decide +kernel
theorem dX6_tells_53 : decode cX6_tells 53 = .ok (.bipush (-2), 2) := by decide +kernel
theorem dX6_tells_55 : decode cX6_tells 55 = .ok (.ireturn, 1) := by decide +kernel
theorem dX6_tells_56 : decode cX6_tells 56 = .ok (.iload_n 3, 1) := by decide +kernel
theorem dX6_tells_57 : decode cX6_tells 57 = .ok (.ifCond .ne 10, 3) := by decide +kernel
theorem dX6_tells_60 : decode cX6_tells 60 = .ok (.aload_n 0, 1) := by decide +kernel
theorem dX6_tells_61 : decode cX6_tells 61 = .ok (.iload_n 1, 1) := by decide +kernel
theorem dX6_tells_62 : decode cX6_tells 62 = .ok (.iload_n 2, 1) := by decide +kernel
theorem dX6_tells_63 : decode cX6_tells 63 = .ok (.invokevirtual 189, 3) := by decide +kernel
theorem dX6_tells_66 : decode cX6_tells 66 = .ok (.ireturn, 1) := by decide +kernel
theorem dX6_tells_67 : decode cX6_tells 67 = .ok (.iload_n 3, 1) := by decide +kernel
theorem dX6_tells_68 : decode cX6_tells 68 = .ok (.iconst 1, 1) := by decide +kernel
theorem dX6_tells_69 : decode cX6_tells 69 = .ok (.if_icmp .ne 16, 3) := by decide +kernel
theorem dX6_tells_72 : decode cX6_tells 72 = .ok (.aload_n 0, 1) := by decide +kernel
theorem dX6_tells_73 : decode cX6_tells 73 = .ok (.iload_n 1, 1) := by decide +kernel
theorem dX6_tells_74 : decode cX6_tells 74 = .ok (.iload_n 2, 1) := by decide +kernel
theorem dX6_tells_75 : decode cX6_tells 75 = .ok (.iconst 3, 1) := by decide +kernel
theorem dX6_tells_76 : decode cX6_tells 76 = .ok (.sipush 1024, 3) := by decide +kernel
theorem dX6_tells_79 : decode cX6_tells 79 = .ok (.invokevirtual 195, 3) := by decide +kernel
theorem dX6_tells_82 : decode cX6_tells 82 = .ok (.goto 30, 3) := by decide +kernel
theorem dX6_tells_85 : decode cX6_tells 85 = .ok (.iload_n 3, 1) := by decide +kernel
theorem dX6_tells_86 : decode cX6_tells 86 = .ok (.iconst 2, 1) := by decide +kernel
theorem dX6_tells_87 : decode cX6_tells 87 = .ok (.if_icmp .ne 16, 3) := by decide +kernel
theorem dX6_tells_90 : decode cX6_tells 90 = .ok (.aload_n 0, 1) := by decide +kernel
theorem dX6_tells_91 : decode cX6_tells 91 = .ok (.iload_n 1, 1) := by decide +kernel
theorem dX6_tells_92 : decode cX6_tells 92 = .ok (.iload_n 2, 1) := by decide +kernel
theorem dX6_tells_93 : decode cX6_tells 93 = .ok (.iconst 2, 1) := by decide +kernel
theorem dX6_tells_94 : decode cX6_tells 94 = .ok (.sipush 1000, 3) := by decide +kernel
theorem dX6_tells_97 : decode cX6_tells 97 = .ok (.invokevirtual 195, 3) := by decide +kernel
theorem dX6_tells_100 : decode cX6_tells 100 = .ok (.goto 12, 3) := by decide +kernel
theorem dX6_tells_103 : decode cX6_tells 103 = .ok (.aload_n 0, 1) := by decide +kernel
theorem dX6_tells_104 : decode cX6_tells 104 = .ok (.iload_n 1, 1) := by decide +kernel
theorem dX6_tells_105 : decode cX6_tells 105 = .ok (.iload_n 2, 1) := by decide +kernel
theorem dX6_tells_106 : decode cX6_tells 106 = .ok (.iconst 0, 1) := by decide +kernel
theorem dX6_tells_107 : decode cX6_tells 107 = .ok (.bipush 6, 2) := by decide +kernel
theorem dX6_tells_109 : decode cX6_tells 109 = .ok (.invokevirtual 195, 3) := by decide +kernel
theorem dX6_tells_112 : decode cX6_tells 112 = .ok (.ireturn, 1) := by decide +kernel
theorem dX6_areHighs_0 : decode cX6_areHighs 0 = .ok (.iconst 0, 1) := by decide +kernel
theorem dX6_areHighs_1 : decode cX6_areHighs 1 = .ok (.istore 5, 2) := by decide +kernel
theorem dX6_areHighs_3 : decode cX6_areHighs 3 = .ok (.iconst 0, 1) := by decide +kernel
theorem dX6_areHighs_4 : decode cX6_areHighs 4 = .ok (.istore 6, 2) := by decide +kernel
theorem dX6_areHighs_6 : decode cX6_areHighs 6 = .ok (.aload_n 0, 1) := by decide +kernel
theorem dX6_areHighs_7 : decode cX6_areHighs 7 = .ok (.getfield 28, 3) := by decide +kernel
theorem dX6_areHighs_10 : decode cX6_areHighs 10 = .ok (.iconst 0, 1) := by decide +kernel
theorem dX6_areHighs_11 : decode cX6_areHighs 11 = .ok (.laload, 1) := by decide +kernel
theorem dX6_areHighs_12 : decode cX6_areHighs 12 = .ok (.aload_n 0, 1) := by decide +kernel
theorem dX6_areHighs_13 : decode cX6_areHighs 13 = .ok (.iload_n 2, 1) := by decide +kernel
theorem dX6_areHighs_14 : decode cX6_areHighs 14 = .ok (.iload_n 3, 1) := by decide +kernel
theorem dX6_areHighs_15 : decode cX6_areHighs 15 = .ok (.invokevirtual 152, 3) := by decide +kernel
theorem dX6_areHighs_18 : decode cX6_areHighs 18 = .ok (.ladd, 1) := by decide +kernel
theorem dX6_areHighs_19 : decode cX6_areHighs 19 = .ok (.lstore 7, 2) := by decide +kernel
theorem dX6_areHighs_21 : decode cX6_areHighs 21 = .ok (.iload_n 3, 1) := by decide +kernel
theorem dX6_areHighs_22 : decode cX6_areHighs 22 = .ok (.istore 9, 2) := by decide +kernel
theorem dX6_areHighs_24 : decode cX6_areHighs 24 = .ok (.iload 9, 2) := by decide +kernel
theorem dX6_areHighs_26 : decode cX6_areHighs 26 = .ok (.iload_n 3, 1) := by decide +kernel
theorem dX6_areHighs_27 : decode cX6_areHighs 27 = .ok (.iload 4, 2) := by decide +kernel
theorem dX6_areHighs_29 : decode cX6_areHighs 29 = .ok (.iadd, 1) := by decide +kernel
theorem dX6_areHighs_30 : decode cX6_areHighs 30 = .ok (.if_icmp .ge 107, 3) := by decide +kernel
theorem dX6_areHighs_33 : decode cX6_areHighs 33 = .ok (.iload 5, 2) := by decide +kernel
theorem dX6_areHighs_35 : decode cX6_areHighs 35 = .ok (.aload_n 0, 1) := by decide +kernel
theorem dX6_areHighs_36 : decode cX6_areHighs 36 = .ok (.getfield 21, 3) := by decide +kernel
theorem dX6_areHighs_39 : decode cX6_areHighs 39 = .ok (.iload_n 1, 1) := by decide +kernel
theorem dX6_areHighs_40 : decode cX6_areHighs 40 = .ok (.iaload, 1) := by decide +kernel
theorem dX6_areHighs_41 : decode cX6_areHighs 41 = .ok (.if_icmp .ge 96, 3) := by decide +kernel
theorem dX6_areHighs_44 : decode cX6_areHighs 44 = .ok (.aload_n 0, 1) := by decide +kernel
theorem dX6_areHighs_45 : decode cX6_areHighs 45 = .ok (.getfield 28, 3) := by decide +kernel
theorem dX6_areHighs_48 : decode cX6_areHighs 48 = .ok (.iload 9, 2) := by decide +kernel
theorem dX6_areHighs_50 : decode cX6_areHighs 50 = .ok (.iconst 1, 1) := by decide +kernel
theorem dX6_areHighs_51 : decode cX6_areHighs 51 = .ok (.iadd, 1) := by decide +kernel
theorem dX6_areHighs_52 : decode cX6_areHighs 52 = .ok (.iload_n 3, 1) := by decide +kernel
theorem dX6_areHighs_53 : decode cX6_areHighs 53 = .ok (.isub, 1) := by decide +kernel
theorem dX6_areHighs_54 : decode cX6_areHighs 54 = .ok (.laload, 1) := by decide +kernel
theorem dX6_areHighs_55 : decode cX6_areHighs 55 = .ok (.aload_n 0, 1) := by decide +kernel
theorem dX6_areHighs_56 : decode cX6_areHighs 56 = .ok (.iload_n 2, 1) := by decide +kernel
theorem dX6_areHighs_57 : decode cX6_areHighs 57 = .ok (.iload 9, 2) := by decide +kernel
theorem dX6_areHighs_59 : decode cX6_areHighs 59 = .ok (.iconst 1, 1) := by decide +kernel
theorem dX6_areHighs_60 : decode cX6_areHighs 60 = .ok (.iadd, 1) := by decide +kernel
theorem dX6_areHighs_61 : decode cX6_areHighs 61 = .ok (.invokevirtual 152, 3) := by decide +kernel
theorem dX6_areHighs_64 : decode cX6_areHighs 64 = .ok (.ladd, 1) := by decide +kernel
theorem dX6_areHighs_65 : decode cX6_areHighs 65 = .ok (.lstore 10, 2) := by decide +kernel
theorem dX6_areHighs_67 : decode cX6_areHighs 67 = .ok (.lload 10, 2) := by decide +kernel
theorem dX6_areHighs_69 : decode cX6_areHighs 69 = .ok (.lload 7, 2) := by decide +kernel
theorem dX6_areHighs_71 : decode cX6_areHighs 71 = .ok (.lcmp, 1) := by decide +kernel
theorem dX6_areHighs_72 : decode cX6_areHighs 72 = .ok (.ifCond .ge 27, 3) := by decide +kernel
theorem dX6_areHighs_75 : decode cX6_areHighs 75 = .ok (.iload 6, 2) := by decide +kernel
theorem dX6_areHighs_77 : decode cX6_areHighs 77 = .ok (.ifCond .le 22, 3) := by decide +kernel
theorem dX6_areHighs_80 : decode cX6_areHighs 80 = .ok (.aload_n 0, 1) := by decide +kernel
theorem dX6_areHighs_81 : decode cX6_areHighs 81 = .ok (.iload_n 1, 1) := by decide +kernel
theorem dX6_areHighs_82 : decode cX6_areHighs 82 = .ok (.iload 5, 2) := by decide +kernel
theorem dX6_areHighs_84 : decode cX6_areHighs 84 = .ok (.invokevirtual 186, 3) := by decide +kernel
theorem dX6_areHighs_87 : decode cX6_areHighs 87 = .ok (.iload 9, 2) := by decide +kernel
theorem dX6_areHighs_89 : decode cX6_areHighs 89 = .ok (.i2l, 1) := by decide +kernel
theorem dX6_areHighs_90 : decode cX6_areHighs 90 = .ok (.lcmp, 1) := by decide +kernel
theorem dX6_areHighs_91 : decode cX6_areHighs 91 = .ok (.ifCond .eq 5, 3) := by decide +kernel
theorem dX6_areHighs_94 : decode cX6_areHighs 94 = .ok (.iconst 0, 1) := by decide +kernel
theorem dX6_areHighs_95 : decode cX6_areHighs 95 = .ok (.ireturn, 1) := by decide +kernel
theorem dX6_areHighs_96 : decode cX6_areHighs 96 = .ok (.iinc 5 1, 3) := by decide +kernel
theorem dX6_areHighs_99 : decode cX6_areHighs 99 = .ok (.lload 10, 2) := by decide +kernel
theorem dX6_areHighs_101 : decode cX6_areHighs 101 = .ok (.lload 7, 2) := by decide +kernel
theorem dX6_areHighs_103 : decode cX6_areHighs 103 = .ok (.lcmp, 1) := by decide +kernel
theorem dX6_areHighs_104 : decode cX6_areHighs 104 = .ok (.ifCond .le 7, 3) := by decide +kernel
theorem dX6_areHighs_107 : decode cX6_areHighs 107 = .ok (.iconst 1, 1) := by decide +kernel
theorem dX6_areHighs_108 : decode cX6_areHighs 108 = .ok (.goto 17, 3) := by decide +kernel
theorem dX6_areHighs_111 : decode cX6_areHighs 111 = .ok (.lload 10, 2) := by decide +kernel
theorem dX6_areHighs_113 : decode cX6_areHighs 113 = .ok (.lload 7, 2) := by decide +kernel
theorem dX6_areHighs_115 : decode cX6_areHighs 115 = .ok (.lcmp, 1) := by decide +kernel
theorem dX6_areHighs_116 : decode cX6_areHighs 116 = .ok (.ifCond .ge 7, 3) := by decide +kernel
theorem dX6_areHighs_119 : decode cX6_areHighs 119 = .ok (.iconst (-1), 1) := by decide +kernel
theorem dX6_areHighs_120 : decode cX6_areHighs 120 = .ok (.goto 5, 3) := by decide +kernel
theorem dX6_areHighs_123 : decode cX6_areHighs 123 = .ok (.iload 6, 2) := by decide +kernel
theorem dX6_areHighs_125 : decode cX6_areHighs 125 = .ok (.istore 6, 2) := by decide +kernel
theorem dX6_areHighs_127 : decode cX6_areHighs 127 = .ok (.lload 10, 2) := by decide +kernel
theorem dX6_areHighs_129 : decode cX6_areHighs 129 = .ok (.lstore 7, 2) := by decide +kernel
theorem dX6_areHighs_131 : decode cX6_areHighs 131 = .ok (.iinc 9 1, 3) := by decide +kernel
theorem dX6_areHighs_134 : decode cX6_areHighs 134 = .ok (.goto (-110), 3) := by decide +kernel
theorem dX6_areHighs_137 : decode cX6_areHighs 137 = .ok (.iload 5, 2) := by decide +kernel
theorem dX6_areHighs_139 : decode cX6_areHighs 139 = .ok (.aload_n 0, 1) := by decide +kernel
theorem dX6_areHighs_140 : decode cX6_areHighs 140 = .ok (.getfield 21, 3) := by decide +kernel
theorem dX6_areHighs_143 : decode cX6_areHighs 143 = .ok (.iload_n 1, 1) := by decide +kernel
theorem dX6_areHighs_144 : decode cX6_areHighs 144 = .ok (.iaload, 1) := by decide +kernel
theorem dX6_areHighs_145 : decode cX6_areHighs 145 = .ok (.if_icmp .ne 7, 3) := by decide +kernel
theorem dX6_areHighs_148 : decode cX6_areHighs 148 = .ok (.iconst 1, 1) := by decide +kernel
theorem dX6_areHighs_149 : decode cX6_areHighs 149 = .ok (.goto 4, 3) := by decide +kernel
theorem dX6_areHighs_152 : decode cX6_areHighs 152 = .ok (.iconst 0, 1) := by decide +kernel
theorem dX6_areHighs_153 : decode cX6_areHighs 153 = .ok (.ireturn, 1) := by decide +kernel
theorem dX6_refound_0 : decode cX6_refound 0 = .ok (.iload_n 1, 1) := by decide +kernel
theorem dX6_refound_1 : decode cX6_refound 1 = .ok (.invokestatic 192, 3) := by decide +kernel
theorem dX6_refound_4 : decode cX6_refound 4 = .ok (.ifCond .eq 31, 3) := by decide +kernel
theorem dX6_refound_7 : decode cX6_refound 7 = .ok (.aload_n 0, 1) := by decide +kernel
theorem dX6_refound_8 : decode cX6_refound 8 = .ok (.iload_n 2, 1) := by decide +kernel
theorem dX6_refound_9 : decode cX6_refound 9 = .ok (.invokevirtual 69, 3) := by decide +kernel
theorem dX6_refound_12 : decode cX6_refound 12 = .ok (.ifCond .eq 23, 3) := by decide +kernel
theorem dX6_refound_15 : decode cX6_refound 15 = .ok (.iload_n 3, 1) := by decide +kernel
theorem dX6_refound_16 : decode cX6_refound 16 = .ok (.iload 4, 2) := by decide +kernel
theorem dX6_refound_18 : decode cX6_refound 18 = .ok (.sipush 200, 3) := by decide +kernel
theorem dX6_refound_21 : decode cX6_refound 21 = .ok (.invokestatic 178, 3) := by decide +kernel
theorem dX6_refound_24 : decode cX6_refound 24 = .ok (.ifCond .eq 11, 3) := by decide +kernel
theorem dX6_refound_27 : decode cX6_refound 27 = .ok (.iload 5, 2) := by decide +kernel
theorem dX6_refound_29 : decode cX6_refound 29 = .ok (.invokestatic 122, 3) := by decide +kernel
theorem dX6_refound_32 : decode cX6_refound 32 = .ok (.ifCond .ne 6, 3) := by decide +kernel
theorem dX6_refound_35 : decode cX6_refound 35 = .ok (.bipush (-2), 2) := by decide +kernel
theorem dX6_refound_37 : decode cX6_refound 37 = .ok (.ireturn, 1) := by decide +kernel
theorem dX6_refound_38 : decode cX6_refound 38 = .ok (.aload_n 0, 1) := by decide +kernel
theorem dX6_refound_39 : decode cX6_refound 39 = .ok (.getfield 18, 3) := by decide +kernel
theorem dX6_refound_42 : decode cX6_refound 42 = .ok (.iload_n 1, 1) := by decide +kernel
theorem dX6_refound_43 : decode cX6_refound 43 = .ok (.iaload, 1) := by decide +kernel
theorem dX6_refound_44 : decode cX6_refound 44 = .ok (.iconst (-1), 1) := by decide +kernel
theorem dX6_refound_45 : decode cX6_refound 45 = .ok (.if_icmp .ne 6, 3) := by decide +kernel
theorem dX6_refound_48 : decode cX6_refound 48 = .ok (.bipush (-11), 2) := by decide +kernel
theorem dX6_refound_50 : decode cX6_refound 50 = .ok (.ireturn, 1) := by decide +kernel
theorem dX6_refound_51 : decode cX6_refound 51 = .ok (.aload_n 0, 1) := by decide +kernel
theorem dX6_refound_52 : decode cX6_refound 52 = .ok (.getfield 21, 3) := by decide +kernel
theorem dX6_refound_55 : decode cX6_refound 55 = .ok (.iload_n 1, 1) := by decide +kernel
theorem dX6_refound_56 : decode cX6_refound 56 = .ok (.iaload, 1) := by decide +kernel
theorem dX6_refound_57 : decode cX6_refound 57 = .ok (.bipush 8, 2) := by decide +kernel
theorem dX6_refound_59 : decode cX6_refound 59 = .ok (.if_icmp .le 6, 3) := by decide +kernel
theorem dX6_refound_62 : decode cX6_refound 62 = .ok (.bipush (-2), 2) := by decide +kernel
theorem dX6_refound_64 : decode cX6_refound 64 = .ok (.ireturn, 1) := by decide +kernel
theorem dX6_refound_65 : decode cX6_refound 65 = .ok (.iload_n 3, 1) := by decide +kernel
theorem dX6_refound_66 : decode cX6_refound 66 = .ok (.istore 6, 2) := by decide +kernel
theorem dX6_refound_68 : decode cX6_refound 68 = .ok (.iload 6, 2) := by decide +kernel
theorem dX6_refound_70 : decode cX6_refound 70 = .ok (.iload_n 3, 1) := by decide +kernel
theorem dX6_refound_71 : decode cX6_refound 71 = .ok (.iload 4, 2) := by decide +kernel
theorem dX6_refound_73 : decode cX6_refound 73 = .ok (.iadd, 1) := by decide +kernel
theorem dX6_refound_74 : decode cX6_refound 74 = .ok (.if_icmp .gt 32, 3) := by decide +kernel
theorem dX6_refound_77 : decode cX6_refound 77 = .ok (.aload_n 0, 1) := by decide +kernel
theorem dX6_refound_78 : decode cX6_refound 78 = .ok (.getfield 28, 3) := by decide +kernel
theorem dX6_refound_81 : decode cX6_refound 81 = .ok (.iload 6, 2) := by decide +kernel
theorem dX6_refound_83 : decode cX6_refound 83 = .ok (.iload_n 3, 1) := by decide +kernel
theorem dX6_refound_84 : decode cX6_refound 84 = .ok (.isub, 1) := by decide +kernel
theorem dX6_refound_85 : decode cX6_refound 85 = .ok (.aload_n 0, 1) := by decide +kernel
theorem dX6_refound_86 : decode cX6_refound 86 = .ok (.iload 6, 2) := by decide +kernel
theorem dX6_refound_88 : decode cX6_refound 88 = .ok (.invokevirtual 158, 3) := by decide +kernel
theorem dX6_refound_91 : decode cX6_refound 91 = .ok (.aload_n 0, 1) := by decide +kernel
theorem dX6_refound_92 : decode cX6_refound 92 = .ok (.iload_n 2, 1) := by decide +kernel
theorem dX6_refound_93 : decode cX6_refound 93 = .ok (.iload 6, 2) := by decide +kernel
theorem dX6_refound_95 : decode cX6_refound 95 = .ok (.invokevirtual 152, 3) := by decide +kernel
theorem dX6_refound_98 : decode cX6_refound 98 = .ok (.lsub, 1) := by decide +kernel
theorem dX6_refound_99 : decode cX6_refound 99 = .ok (.lastore, 1) := by decide +kernel
theorem dX6_refound_100 : decode cX6_refound 100 = .ok (.iinc 6 1, 3) := by decide +kernel
theorem dX6_refound_103 : decode cX6_refound 103 = .ok (.goto (-35), 3) := by decide +kernel
theorem dX6_refound_106 : decode cX6_refound 106 = .ok (.aload_n 0, 1) := by decide +kernel
theorem dX6_refound_107 : decode cX6_refound 107 = .ok (.iload_n 2, 1) := by decide +kernel
theorem dX6_refound_108 : decode cX6_refound 108 = .ok (.iconst 3, 1) := by decide +kernel
theorem dX6_refound_109 : decode cX6_refound 109 = .ok (.invokevirtual 77, 3) := by decide +kernel
theorem dX6_refound_112 : decode cX6_refound 112 = .ok (.istore 6, 2) := by decide +kernel
theorem dX6_refound_114 : decode cX6_refound 114 = .ok (.iconst 0, 1) := by decide +kernel
theorem dX6_refound_115 : decode cX6_refound 115 = .ok (.istore 7, 2) := by decide +kernel
theorem dX6_refound_117 : decode cX6_refound 117 = .ok (.iconst (-1), 1) := by decide +kernel
theorem dX6_refound_118 : decode cX6_refound 118 = .ok (.istore 8, 2) := by decide +kernel
theorem dX6_refound_120 : decode cX6_refound 120 = .ok (.sipush 1023, 3) := by decide +kernel
theorem dX6_refound_123 : decode cX6_refound 123 = .ok (.istore 9, 2) := by decide +kernel
theorem dX6_refound_125 : decode cX6_refound 125 = .ok (.iload 9, 2) := by decide +kernel
theorem dX6_refound_127 : decode cX6_refound 127 = .ok (.ifCond .lt 36, 3) := by decide +kernel
theorem dX6_refound_130 : decode cX6_refound 130 = .ok (.aload_n 0, 1) := by decide +kernel
theorem dX6_refound_131 : decode cX6_refound 131 = .ok (.iload_n 2, 1) := by decide +kernel
theorem dX6_refound_132 : decode cX6_refound 132 = .ok (.iconst 3, 1) := by decide +kernel
theorem dX6_refound_133 : decode cX6_refound 133 = .ok (.iload 9, 2) := by decide +kernel
theorem dX6_refound_135 : decode cX6_refound 135 = .ok (.invokevirtual 65, 3) := by decide +kernel
theorem dX6_refound_138 : decode cX6_refound 138 = .ok (.aload_n 0, 1) := by decide +kernel
theorem dX6_refound_139 : decode cX6_refound 139 = .ok (.iload_n 1, 1) := by decide +kernel
theorem dX6_refound_140 : decode cX6_refound 140 = .ok (.iload_n 2, 1) := by decide +kernel
theorem dX6_refound_141 : decode cX6_refound 141 = .ok (.iload_n 3, 1) := by decide +kernel
theorem dX6_refound_142 : decode cX6_refound 142 = .ok (.iload 4, 2) := by decide +kernel
theorem dX6_refound_144 : decode cX6_refound 144 = .ok (.invokevirtual 199, 3) := by decide +kernel
theorem dX6_refound_147 : decode cX6_refound 147 = .ok (.ifCond .eq 10, 3) := by decide +kernel
theorem dX6_refound_150 : decode cX6_refound 150 = .ok (.iinc 7 1, 3) := by decide +kernel
theorem dX6_refound_153 : decode cX6_refound 153 = .ok (.iload 9, 2) := by decide +kernel
theorem dX6_refound_155 : decode cX6_refound 155 = .ok (.istore 8, 2) := by decide +kernel
theorem dX6_refound_157 : decode cX6_refound 157 = .ok (.iinc 9 (-1), 3) := by decide +kernel
theorem dX6_refound_160 : decode cX6_refound 160 = .ok (.goto (-35), 3) := by decide +kernel
theorem dX6_refound_163 : decode cX6_refound 163 = .ok (.aload_n 0, 1) := by decide +kernel
theorem dX6_refound_164 : decode cX6_refound 164 = .ok (.iload_n 2, 1) := by decide +kernel
theorem dX6_refound_165 : decode cX6_refound 165 = .ok (.iconst 3, 1) := by decide +kernel
theorem dX6_refound_166 : decode cX6_refound 166 = .ok (.iload 6, 2) := by decide +kernel
theorem dX6_refound_168 : decode cX6_refound 168 = .ok (.invokevirtual 65, 3) := by decide +kernel
theorem dX6_refound_171 : decode cX6_refound 171 = .ok (.iload 5, 2) := by decide +kernel
theorem dX6_refound_173 : decode cX6_refound 173 = .ok (.ifCond .ne 8, 3) := by decide +kernel
theorem dX6_refound_176 : decode cX6_refound 176 = .ok (.iload 7, 2) := by decide +kernel
theorem dX6_refound_178 : decode cX6_refound 178 = .ok (.goto 5, 3) := by decide +kernel
theorem dX6_refound_181 : decode cX6_refound 181 = .ok (.iload 8, 2) := by decide +kernel
theorem dX6_refound_183 : decode cX6_refound 183 = .ok (.ireturn, 1) := by decide +kernel
theorem dX6_film_0 : decode cX6_film 0 = .ok (.iload_n 1, 1) := by decide +kernel
theorem dX6_film_1 : decode cX6_film 1 = .ok (.invokestatic 192, 3) := by decide +kernel
theorem dX6_film_4 : decode cX6_film 4 = .ok (.ifCond .eq 22, 3) := by decide +kernel
theorem dX6_film_7 : decode cX6_film 7 = .ok (.iload_n 2, 1) := by decide +kernel
theorem dX6_film_8 : decode cX6_film 8 = .ok (.invokestatic 161, 3) := by decide +kernel
theorem dX6_film_11 : decode cX6_film 11 = .ok (.ifCond .eq 15, 3) := by decide +kernel
theorem dX6_film_14 : decode cX6_film 14 = .ok (.iload_n 3, 1) := by decide +kernel
theorem dX6_film_15 : decode cX6_film 15 = .ok (.i2l, 1) := by decide +kernel
theorem dX6_film_16 : decode cX6_film 16 = .ok (.lconst 0, 1) := by decide +kernel
theorem dX6_film_17 : decode cX6_film 17 = .ok (.ldc2_w 203, 3) := by decide +kernel
theorem dX6_film_20 : decode cX6_film 20 = .ok (.invokestatic 49, 3) := by decide +kernel
theorem dX6_film_23 : decode cX6_film 23 = .ok (.ifCond .ne 6, 3) := by decide +kernel
theorem dX6_film_26 : decode cX6_film 26 = .ok (.bipush (-2), 2) := by decide +kernel
theorem dX6_film_28 : decode cX6_film 28 = .ok (.ireturn, 1) := by decide +kernel
theorem dX6_film_29 : decode cX6_film 29 = .ok (.aload_n 0, 1) := by decide +kernel
theorem dX6_film_30 : decode cX6_film 30 = .ok (.iload_n 1, 1) := by decide +kernel
theorem dX6_film_31 : decode cX6_film 31 = .ok (.iconst 0, 1) := by decide +kernel
theorem dX6_film_32 : decode cX6_film 32 = .ok (.iload_n 3, 1) := by decide +kernel
theorem dX6_film_33 : decode cX6_film 33 = .ok (.invokevirtual 205, 3) := by decide +kernel
theorem dX6_film_36 : decode cX6_film 36 = .ok (.istore 4, 2) := by decide +kernel
theorem dX6_film_38 : decode cX6_film 38 = .ok (.iconst 0, 1) := by decide +kernel
theorem dX6_film_39 : decode cX6_film 39 = .ok (.istore 5, 2) := by decide +kernel
theorem dX6_film_41 : decode cX6_film 41 = .ok (.iload 5, 2) := by decide +kernel
theorem dX6_film_43 : decode cX6_film 43 = .ok (.iload_n 3, 1) := by decide +kernel
theorem dX6_film_44 : decode cX6_film 44 = .ok (.if_icmp .ge 29, 3) := by decide +kernel
theorem dX6_film_47 : decode cX6_film 47 = .ok (.aload_n 0, 1) := by decide +kernel
theorem dX6_film_48 : decode cX6_film 48 = .ok (.getfield 24, 3) := by decide +kernel
theorem dX6_film_51 : decode cX6_film 51 = .ok (.bipush 40, 2) := by decide +kernel
theorem dX6_film_53 : decode cX6_film 53 = .ok (.iload_n 1, 1) := by decide +kernel
theorem dX6_film_54 : decode cX6_film 54 = .ok (.imul, 1) := by decide +kernel
theorem dX6_film_55 : decode cX6_film 55 = .ok (.iload 5, 2) := by decide +kernel
theorem dX6_film_57 : decode cX6_film 57 = .ok (.iadd, 1) := by decide +kernel
theorem dX6_film_58 : decode cX6_film 58 = .ok (.aload_n 0, 1) := by decide +kernel
theorem dX6_film_59 : decode cX6_film 59 = .ok (.iload_n 2, 1) := by decide +kernel
theorem dX6_film_60 : decode cX6_film 60 = .ok (.iload 5, 2) := by decide +kernel
theorem dX6_film_62 : decode cX6_film 62 = .ok (.iadd, 1) := by decide +kernel
theorem dX6_film_63 : decode cX6_film 63 = .ok (.invokevirtual 158, 3) := by decide +kernel
theorem dX6_film_66 : decode cX6_film 66 = .ok (.lastore, 1) := by decide +kernel
theorem dX6_film_67 : decode cX6_film 67 = .ok (.iinc 5 1, 3) := by decide +kernel
theorem dX6_film_70 : decode cX6_film 70 = .ok (.goto (-29), 3) := by decide +kernel
theorem dX6_film_73 : decode cX6_film 73 = .ok (.iload_n 3, 1) := by decide +kernel
theorem dX6_film_74 : decode cX6_film 74 = .ok (.ireturn, 1) := by decide +kernel
theorem dX6_nearest_0 : decode cX6_nearest 0 = .ok (.iload_n 1, 1) := by decide +kernel
theorem dX6_nearest_1 : decode cX6_nearest 1 = .ok (.i2l, 1) := by decide +kernel
theorem dX6_nearest_2 : decode cX6_nearest 2 = .ok (.lconst 1, 1) := by decide +kernel
theorem dX6_nearest_3 : decode cX6_nearest 3 = .ok (.ldc2_w 208, 3) := by decide +kernel
theorem dX6_nearest_6 : decode cX6_nearest 6 = .ok (.invokestatic 49, 3) := by decide +kernel
theorem dX6_nearest_9 : decode cX6_nearest 9 = .ok (.ifCond .eq 15, 3) := by decide +kernel
theorem dX6_nearest_12 : decode cX6_nearest 12 = .ok (.iload_n 2, 1) := by decide +kernel
theorem dX6_nearest_13 : decode cX6_nearest 13 = .ok (.i2l, 1) := by decide +kernel
theorem dX6_nearest_14 : decode cX6_nearest 14 = .ok (.lconst 1, 1) := by decide +kernel
theorem dX6_nearest_15 : decode cX6_nearest 15 = .ok (.ldc2_w 208, 3) := by decide +kernel
theorem dX6_nearest_18 : decode cX6_nearest 18 = .ok (.invokestatic 49, 3) := by decide +kernel
theorem dX6_nearest_21 : decode cX6_nearest 21 = .ok (.ifCond .ne 6, 3) := by decide +kernel
theorem dX6_nearest_24 : decode cX6_nearest 24 = .ok (.bipush (-2), 2) := by decide +kernel
theorem dX6_nearest_26 : decode cX6_nearest 26 = .ok (.ireturn, 1) := by decide +kernel
theorem dX6_nearest_27 : decode cX6_nearest 27 = .ok (.iconst 0, 1) := by decide +kernel
theorem dX6_nearest_28 : decode cX6_nearest 28 = .ok (.istore_n 3, 1) := by decide +kernel
theorem dX6_nearest_29 : decode cX6_nearest 29 = .ok (.iconst 0, 1) := by decide +kernel
theorem dX6_nearest_30 : decode cX6_nearest 30 = .ok (.istore 4, 2) := by decide +kernel
theorem dX6_nearest_32 : decode cX6_nearest 32 = .ok (.lconst 0, 1) := by decide +kernel
theorem dX6_nearest_33 : decode cX6_nearest 33 = .ok (.lstore 5, 2) := by decide +kernel
theorem dX6_nearest_35 : decode cX6_nearest 35 = .ok (.bipush 8, 2) := by decide +kernel
theorem dX6_nearest_37 : decode cX6_nearest 37 = .ok (.istore 7, 2) := by decide +kernel
theorem dX6_nearest_39 : decode cX6_nearest 39 = .ok (.iload 7, 2) := by decide +kernel
theorem dX6_nearest_41 : decode cX6_nearest 41 = .ok (.sipush 200, 3) := by decide +kernel
theorem dX6_nearest_44 : decode cX6_nearest 44 = .ok (.if_icmp .gt 86, 3) := by decide +kernel
theorem dX6_nearest_47 : decode cX6_nearest 47 = .ok (.bipush 8, 2) := by decide +kernel
theorem dX6_nearest_49 : decode cX6_nearest 49 = .ok (.istore 8, 2) := by decide +kernel
theorem dX6_nearest_51 : decode cX6_nearest 51 = .ok (.iload 8, 2) := by decide +kernel
theorem dX6_nearest_53 : decode cX6_nearest 53 = .ok (.sipush 200, 3) := by decide +kernel
theorem dX6_nearest_56 : decode cX6_nearest 56 = .ok (.if_icmp .gt 68, 3) := by decide +kernel
theorem dX6_nearest_59 : decode cX6_nearest 59 = .ok (.iload 7, 2) := by decide +kernel
theorem dX6_nearest_61 : decode cX6_nearest 61 = .ok (.i2l, 1) := by decide +kernel
theorem dX6_nearest_62 : decode cX6_nearest 62 = .ok (.iload_n 2, 1) := by decide +kernel
theorem dX6_nearest_63 : decode cX6_nearest 63 = .ok (.i2l, 1) := by decide +kernel
theorem dX6_nearest_64 : decode cX6_nearest 64 = .ok (.lmul, 1) := by decide +kernel
theorem dX6_nearest_65 : decode cX6_nearest 65 = .ok (.iload 8, 2) := by decide +kernel
theorem dX6_nearest_67 : decode cX6_nearest 67 = .ok (.i2l, 1) := by decide +kernel
theorem dX6_nearest_68 : decode cX6_nearest 68 = .ok (.iload_n 1, 1) := by decide +kernel
theorem dX6_nearest_69 : decode cX6_nearest 69 = .ok (.i2l, 1) := by decide +kernel
theorem dX6_nearest_70 : decode cX6_nearest 70 = .ok (.lmul, 1) := by decide +kernel
theorem dX6_nearest_71 : decode cX6_nearest 71 = .ok (.lsub, 1) := by decide +kernel
theorem dX6_nearest_72 : decode cX6_nearest 72 = .ok (.invokestatic 114, 3) := by decide +kernel
theorem dX6_nearest_75 : decode cX6_nearest 75 = .ok (.lstore 9, 2) := by decide +kernel
theorem dX6_nearest_77 : decode cX6_nearest 77 = .ok (.iload 7, 2) := by decide +kernel
theorem dX6_nearest_79 : decode cX6_nearest 79 = .ok (.iload 8, 2) := by decide +kernel
theorem dX6_nearest_81 : decode cX6_nearest 81 = .ok (.invokestatic 101, 3) := by decide +kernel
theorem dX6_nearest_84 : decode cX6_nearest 84 = .ok (.ifCond .ne 34, 3) := by decide +kernel
theorem dX6_nearest_87 : decode cX6_nearest 87 = .ok (.iload_n 3, 1) := by decide +kernel
theorem dX6_nearest_88 : decode cX6_nearest 88 = .ok (.ifCond .eq 19, 3) := by decide +kernel
theorem dX6_nearest_91 : decode cX6_nearest 91 = .ok (.lload 9, 2) := by decide +kernel
theorem dX6_nearest_93 : decode cX6_nearest 93 = .ok (.iload 4, 2) := by decide +kernel
theorem dX6_nearest_95 : decode cX6_nearest 95 = .ok (.i2l, 1) := by decide +kernel
theorem dX6_nearest_96 : decode cX6_nearest 96 = .ok (.lmul, 1) := by decide +kernel
theorem dX6_nearest_97 : decode cX6_nearest 97 = .ok (.lload 5, 2) := by decide +kernel
theorem dX6_nearest_99 : decode cX6_nearest 99 = .ok (.iload 8, 2) := by decide +kernel
theorem dX6_nearest_101 : decode cX6_nearest 101 = .ok (.i2l, 1) := by decide +kernel
theorem dX6_nearest_102 : decode cX6_nearest 102 = .ok (.lmul, 1) := by decide +kernel
theorem dX6_nearest_103 : decode cX6_nearest 103 = .ok (.lcmp, 1) := by decide +kernel
theorem dX6_nearest_104 : decode cX6_nearest 104 = .ok (.ifCond .ge 14, 3) := by decide +kernel
theorem dX6_nearest_107 : decode cX6_nearest 107 = .ok (.iload 7, 2) := by decide +kernel
theorem dX6_nearest_109 : decode cX6_nearest 109 = .ok (.istore_n 3, 1) := by decide +kernel
theorem dX6_nearest_110 : decode cX6_nearest 110 = .ok (.iload 8, 2) := by decide +kernel
theorem dX6_nearest_112 : decode cX6_nearest 112 = .ok (.istore 4, 2) := by decide +kernel
theorem dX6_nearest_114 : decode cX6_nearest 114 = .ok (.lload 9, 2) := by decide +kernel
theorem dX6_nearest_116 : decode cX6_nearest 116 = .ok (.lstore 5, 2) := by decide +kernel
theorem dX6_nearest_118 : decode cX6_nearest 118 = .ok (.iinc 8 1, 3) := by decide +kernel
theorem dX6_nearest_121 : decode cX6_nearest 121 = .ok (.goto (-70), 3) := by decide +kernel
theorem dX6_nearest_124 : decode cX6_nearest 124 = .ok (.iinc 7 1, 3) := by decide +kernel
theorem dX6_nearest_127 : decode cX6_nearest 127 = .ok (.goto (-88), 3) := by decide +kernel
theorem dX6_nearest_130 : decode cX6_nearest 130 = .ok (.sipush 1000, 3) := by decide +kernel
theorem dX6_nearest_133 : decode cX6_nearest 133 = .ok (.iload_n 3, 1) := by decide +kernel
theorem dX6_nearest_134 : decode cX6_nearest 134 = .ok (.imul, 1) := by decide +kernel
theorem dX6_nearest_135 : decode cX6_nearest 135 = .ok (.iload 4, 2) := by decide +kernel
theorem dX6_nearest_137 : decode cX6_nearest 137 = .ok (.iadd, 1) := by decide +kernel
theorem dX6_nearest_138 : decode cX6_nearest 138 = .ok (.ireturn, 1) := by decide +kernel
theorem dX6_off_0 : decode cX6_off 0 = .ok (.iload_n 2, 1) := by decide +kernel
theorem dX6_off_1 : decode cX6_off 1 = .ok (.sipush 10000, 3) := by decide +kernel
theorem dX6_off_4 : decode cX6_off 4 = .ok (.idiv, 1) := by decide +kernel
theorem dX6_off_5 : decode cX6_off 5 = .ok (.istore 5, 2) := by decide +kernel
theorem dX6_off_7 : decode cX6_off 7 = .ok (.iload_n 2, 1) := by decide +kernel
theorem dX6_off_8 : decode cX6_off 8 = .ok (.sipush 10000, 3) := by decide +kernel
theorem dX6_off_11 : decode cX6_off 11 = .ok (.irem, 1) := by decide +kernel
theorem dX6_off_12 : decode cX6_off 12 = .ok (.istore 6, 2) := by decide +kernel
theorem dX6_off_14 : decode cX6_off 14 = .ok (.aload_n 0, 1) := by decide +kernel
theorem dX6_off_15 : decode cX6_off 15 = .ok (.iload_n 1, 1) := by decide +kernel
theorem dX6_off_16 : decode cX6_off 16 = .ok (.invokevirtual 69, 3) := by decide +kernel
theorem dX6_off_19 : decode cX6_off 19 = .ok (.ifCond .eq 49, 3) := by decide +kernel
theorem dX6_off_22 : decode cX6_off 22 = .ok (.iload 5, 2) := by decide +kernel
theorem dX6_off_24 : decode cX6_off 24 = .ok (.i2l, 1) := by decide +kernel
theorem dX6_off_25 : decode cX6_off 25 = .ok (.lconst 1, 1) := by decide +kernel
theorem dX6_off_26 : decode cX6_off 26 = .ok (.ldc2_w 208, 3) := by decide +kernel
theorem dX6_off_29 : decode cX6_off 29 = .ok (.invokestatic 49, 3) := by decide +kernel
theorem dX6_off_32 : decode cX6_off 32 = .ok (.ifCond .eq 36, 3) := by decide +kernel
theorem dX6_off_35 : decode cX6_off 35 = .ok (.iload 6, 2) := by decide +kernel
theorem dX6_off_37 : decode cX6_off 37 = .ok (.i2l, 1) := by decide +kernel
theorem dX6_off_38 : decode cX6_off 38 = .ok (.lconst 1, 1) := by decide +kernel
theorem dX6_off_39 : decode cX6_off 39 = .ok (.ldc2_w 208, 3) := by decide +kernel
theorem dX6_off_42 : decode cX6_off 42 = .ok (.invokestatic 49, 3) := by decide +kernel
theorem dX6_off_45 : decode cX6_off 45 = .ok (.ifCond .eq 23, 3) := by decide +kernel
theorem dX6_off_48 : decode cX6_off 48 = .ok (.iload_n 3, 1) := by decide +kernel
theorem dX6_off_49 : decode cX6_off 49 = .ok (.i2l, 1) := by decide +kernel
theorem dX6_off_50 : decode cX6_off 50 = .ok (.lconst 0, 1) := by decide +kernel
theorem dX6_off_51 : decode cX6_off 51 = .ok (.ldc2_w 208, 3) := by decide +kernel
theorem dX6_off_54 : decode cX6_off 54 = .ok (.invokestatic 49, 3) := by decide +kernel
theorem dX6_off_57 : decode cX6_off 57 = .ok (.ifCond .eq 11, 3) := by decide +kernel
theorem dX6_off_60 : decode cX6_off 60 = .ok (.iload 4, 2) := by decide +kernel
theorem dX6_off_62 : decode cX6_off 62 = .ok (.invokestatic 122, 3) := by decide +kernel
theorem dX6_off_65 : decode cX6_off 65 = .ok (.ifCond .ne 7, 3) := by decide +kernel
theorem dX6_off_68 : decode cX6_off 68 = .ok (.ldc2_w 136, 3) := by decide +kernel
theorem dX6_off_71 : decode cX6_off 71 = .ok (.lreturn, 1) := by decide +kernel
theorem dX6_off_72 : decode cX6_off 72 = .ok (.aload_n 0, 1) := by decide +kernel
theorem dX6_off_73 : decode cX6_off 73 = .ok (.iload_n 1, 1) := by decide +kernel
theorem dX6_off_74 : decode cX6_off 74 = .ok (.invokevirtual 125, 3) := by decide +kernel
theorem dX6_off_77 : decode cX6_off 77 = .ok (.aload_n 0, 1) := by decide +kernel
theorem dX6_off_78 : decode cX6_off 78 = .ok (.iload_n 1, 1) := by decide +kernel
theorem dX6_off_79 : decode cX6_off 79 = .ok (.invokevirtual 129, 3) := by decide +kernel
theorem dX6_off_82 : decode cX6_off 82 = .ok (.iconst 0, 1) := by decide +kernel
theorem dX6_off_83 : decode cX6_off 83 = .ok (.invokestatic 132, 3) := by decide +kernel
theorem dX6_off_86 : decode cX6_off 86 = .ok (.lstore 7, 2) := by decide +kernel
theorem dX6_off_88 : decode cX6_off 88 = .ok (.aload_n 0, 1) := by decide +kernel
theorem dX6_off_89 : decode cX6_off 89 = .ok (.iload_n 1, 1) := by decide +kernel
theorem dX6_off_90 : decode cX6_off 90 = .ok (.invokevirtual 125, 3) := by decide +kernel
theorem dX6_off_93 : decode cX6_off 93 = .ok (.aload_n 0, 1) := by decide +kernel
theorem dX6_off_94 : decode cX6_off 94 = .ok (.iload_n 1, 1) := by decide +kernel
theorem dX6_off_95 : decode cX6_off 95 = .ok (.invokevirtual 129, 3) := by decide +kernel
theorem dX6_off_98 : decode cX6_off 98 = .ok (.iconst 1, 1) := by decide +kernel
theorem dX6_off_99 : decode cX6_off 99 = .ok (.invokestatic 132, 3) := by decide +kernel
theorem dX6_off_102 : decode cX6_off 102 = .ok (.lstore 9, 2) := by decide +kernel
theorem dX6_off_104 : decode cX6_off 104 = .ok (.lload 7, 2) := by decide +kernel
theorem dX6_off_106 : decode cX6_off 106 = .ok (.iload 6, 2) := by decide +kernel
theorem dX6_off_108 : decode cX6_off 108 = .ok (.i2l, 1) := by decide +kernel
theorem dX6_off_109 : decode cX6_off 109 = .ok (.lmul, 1) := by decide +kernel
theorem dX6_off_110 : decode cX6_off 110 = .ok (.iload 5, 2) := by decide +kernel
theorem dX6_off_112 : decode cX6_off 112 = .ok (.i2l, 1) := by decide +kernel
theorem dX6_off_113 : decode cX6_off 113 = .ok (.lload 9, 2) := by decide +kernel
theorem dX6_off_115 : decode cX6_off 115 = .ok (.lmul, 1) := by decide +kernel
theorem dX6_off_116 : decode cX6_off 116 = .ok (.lsub, 1) := by decide +kernel
theorem dX6_off_117 : decode cX6_off 117 = .ok (.iload_n 3, 1) := by decide +kernel
theorem dX6_off_118 : decode cX6_off 118 = .ok (.i2l, 1) := by decide +kernel
theorem dX6_off_119 : decode cX6_off 119 = .ok (.lmul, 1) := by decide +kernel
theorem dX6_off_120 : decode cX6_off 120 = .ok (.lload 9, 2) := by decide +kernel
theorem dX6_off_122 : decode cX6_off 122 = .ok (.iload 6, 2) := by decide +kernel
theorem dX6_off_124 : decode cX6_off 124 = .ok (.i2l, 1) := by decide +kernel
theorem dX6_off_125 : decode cX6_off 125 = .ok (.lmul, 1) := by decide +kernel
theorem dX6_off_126 : decode cX6_off 126 = .ok (.iload 4, 2) := by decide +kernel
theorem dX6_off_128 : decode cX6_off 128 = .ok (.invokestatic 132, 3) := by decide +kernel
theorem dX6_off_131 : decode cX6_off 131 = .ok (.lreturn, 1) := by decide +kernel
theorem dX6_areAlike_0 : decode cX6_areAlike 0 = .ok (.aload_n 0, 1) := by decide +kernel
theorem dX6_areAlike_1 : decode cX6_areAlike 1 = .ok (.iload_n 1, 1) := by decide +kernel
theorem dX6_areAlike_2 : decode cX6_areAlike 2 = .ok (.iconst 0, 1) := by decide +kernel
theorem dX6_areAlike_3 : decode cX6_areAlike 3 = .ok (.invokevirtual 210, 3) := by decide +kernel
theorem dX6_areAlike_6 : decode cX6_areAlike 6 = .ok (.aload_n 0, 1) := by decide +kernel
theorem dX6_areAlike_7 : decode cX6_areAlike 7 = .ok (.iload_n 2, 1) := by decide +kernel
theorem dX6_areAlike_8 : decode cX6_areAlike 8 = .ok (.iconst 0, 1) := by decide +kernel
theorem dX6_areAlike_9 : decode cX6_areAlike 9 = .ok (.invokevirtual 210, 3) := by decide +kernel
theorem dX6_areAlike_12 : decode cX6_areAlike 12 = .ok (.lcmp, 1) := by decide +kernel
theorem dX6_areAlike_13 : decode cX6_areAlike 13 = .ok (.ifCond .ne 23, 3) := by decide +kernel
theorem dX6_areAlike_16 : decode cX6_areAlike 16 = .ok (.aload_n 0, 1) := by decide +kernel
theorem dX6_areAlike_17 : decode cX6_areAlike 17 = .ok (.iload_n 1, 1) := by decide +kernel
theorem dX6_areAlike_18 : decode cX6_areAlike 18 = .ok (.iconst 1, 1) := by decide +kernel
theorem dX6_areAlike_19 : decode cX6_areAlike 19 = .ok (.invokevirtual 210, 3) := by decide +kernel
theorem dX6_areAlike_22 : decode cX6_areAlike 22 = .ok (.aload_n 0, 1) := by decide +kernel
theorem dX6_areAlike_23 : decode cX6_areAlike 23 = .ok (.iload_n 2, 1) := by decide +kernel
theorem dX6_areAlike_24 : decode cX6_areAlike 24 = .ok (.iconst 1, 1) := by decide +kernel
theorem dX6_areAlike_25 : decode cX6_areAlike 25 = .ok (.invokevirtual 210, 3) := by decide +kernel
theorem dX6_areAlike_28 : decode cX6_areAlike 28 = .ok (.lcmp, 1) := by decide +kernel
theorem dX6_areAlike_29 : decode cX6_areAlike 29 = .ok (.ifCond .ne 7, 3) := by decide +kernel
theorem dX6_areAlike_32 : decode cX6_areAlike 32 = .ok (.iconst 1, 1) := by decide +kernel
theorem dX6_areAlike_33 : decode cX6_areAlike 33 = .ok (.goto 4, 3) := by decide +kernel
theorem dX6_areAlike_36 : decode cX6_areAlike 36 = .ok (.iconst 0, 1) := by decide +kernel
theorem dX6_areAlike_37 : decode cX6_areAlike 37 = .ok (.ireturn, 1) := by decide +kernel
theorem dX6_alike_0 : decode cX6_alike 0 = .ok (.iload_n 1, 1) := by decide +kernel
theorem dX6_alike_1 : decode cX6_alike 1 = .ok (.iconst (-1), 1) := by decide +kernel
theorem dX6_alike_2 : decode cX6_alike 2 = .ok (.if_icmp .eq 14, 3) := by decide +kernel
theorem dX6_alike_5 : decode cX6_alike 5 = .ok (.aload_n 0, 1) := by decide +kernel
theorem dX6_alike_6 : decode cX6_alike 6 = .ok (.iload_n 1, 1) := by decide +kernel
theorem dX6_alike_7 : decode cX6_alike 7 = .ok (.invokevirtual 69, 3) := by decide +kernel
theorem dX6_alike_10 : decode cX6_alike 10 = .ok (.ifCond .ne 6, 3) := by decide +kernel
theorem dX6_alike_13 : decode cX6_alike 13 = .ok (.bipush (-2), 2) := by decide +kernel
theorem dX6_alike_15 : decode cX6_alike 15 = .ok (.ireturn, 1) := by decide +kernel
theorem dX6_alike_16 : decode cX6_alike 16 = .ok (.iconst 0, 1) := by decide +kernel
theorem dX6_alike_17 : decode cX6_alike 17 = .ok (.istore_n 2, 1) := by decide +kernel
theorem dX6_alike_18 : decode cX6_alike 18 = .ok (.iconst 0, 1) := by decide +kernel
theorem dX6_alike_19 : decode cX6_alike 19 = .ok (.istore_n 3, 1) := by decide +kernel
theorem dX6_alike_20 : decode cX6_alike 20 = .ok (.iconst 0, 1) := by decide +kernel
theorem dX6_alike_21 : decode cX6_alike 21 = .ok (.istore 4, 2) := by decide +kernel
theorem dX6_alike_23 : decode cX6_alike 23 = .ok (.iload 4, 2) := by decide +kernel
theorem dX6_alike_25 : decode cX6_alike 25 = .ok (.aload_n 0, 1) := by decide +kernel
theorem dX6_alike_26 : decode cX6_alike 26 = .ok (.getfield 11, 3) := by decide +kernel
theorem dX6_alike_29 : decode cX6_alike 29 = .ok (.bipush 66, 2) := by decide +kernel
theorem dX6_alike_31 : decode cX6_alike 31 = .ok (.iaload, 1) := by decide +kernel
theorem dX6_alike_32 : decode cX6_alike 32 = .ok (.if_icmp .ge 90, 3) := by decide +kernel
theorem dX6_alike_35 : decode cX6_alike 35 = .ok (.iconst 1, 1) := by decide +kernel
theorem dX6_alike_36 : decode cX6_alike 36 = .ok (.istore 5, 2) := by decide +kernel
theorem dX6_alike_38 : decode cX6_alike 38 = .ok (.iconst 0, 1) := by decide +kernel
theorem dX6_alike_39 : decode cX6_alike 39 = .ok (.istore 6, 2) := by decide +kernel
theorem dX6_alike_41 : decode cX6_alike 41 = .ok (.iload 6, 2) := by decide +kernel
theorem dX6_alike_43 : decode cX6_alike 43 = .ok (.iload 4, 2) := by decide +kernel
theorem dX6_alike_45 : decode cX6_alike 45 = .ok (.if_icmp .ge 32, 3) := by decide +kernel
theorem dX6_alike_48 : decode cX6_alike 48 = .ok (.iload 5, 2) := by decide +kernel
theorem dX6_alike_50 : decode cX6_alike 50 = .ok (.ifCond .eq 18, 3) := by decide +kernel
theorem dX6_alike_53 : decode cX6_alike 53 = .ok (.aload_n 0, 1) := by decide +kernel
theorem dX6_alike_54 : decode cX6_alike 54 = .ok (.iload 4, 2) := by decide +kernel
theorem dX6_alike_56 : decode cX6_alike 56 = .ok (.iload 6, 2) := by decide +kernel
theorem dX6_alike_58 : decode cX6_alike 58 = .ok (.invokevirtual 213, 3) := by decide +kernel
theorem dX6_alike_61 : decode cX6_alike 61 = .ok (.ifCond .ne 7, 3) := by decide +kernel
theorem dX6_alike_64 : decode cX6_alike 64 = .ok (.iconst 1, 1) := by decide +kernel
theorem dX6_alike_65 : decode cX6_alike 65 = .ok (.goto 4, 3) := by decide +kernel
theorem dX6_alike_68 : decode cX6_alike 68 = .ok (.iconst 0, 1) := by decide +kernel
theorem dX6_alike_69 : decode cX6_alike 69 = .ok (.istore 5, 2) := by decide +kernel
theorem dX6_alike_71 : decode cX6_alike 71 = .ok (.iinc 6 1, 3) := by decide +kernel
theorem dX6_alike_74 : decode cX6_alike 74 = .ok (.goto (-33), 3) := by decide +kernel
theorem dX6_alike_77 : decode cX6_alike 77 = .ok (.iload_n 3, 1) := by decide +kernel
theorem dX6_alike_78 : decode cX6_alike 78 = .ok (.iload 5, 2) := by decide +kernel
theorem dX6_alike_80 : decode cX6_alike 80 = .ok (.ifCond .eq 7, 3) := by decide +kernel
theorem dX6_alike_83 : decode cX6_alike 83 = .ok (.iconst 1, 1) := by decide +kernel
theorem dX6_alike_84 : decode cX6_alike 84 = .ok (.goto 4, 3) := by decide +kernel
theorem dX6_alike_87 : decode cX6_alike 87 = .ok (.iconst 0, 1) := by decide +kernel
theorem dX6_alike_88 : decode cX6_alike 88 = .ok (.iadd, 1) := by decide +kernel
theorem dX6_alike_89 : decode cX6_alike 89 = .ok (.istore_n 3, 1) := by decide +kernel
theorem dX6_alike_90 : decode cX6_alike 90 = .ok (.iload_n 2, 1) := by decide +kernel
theorem dX6_alike_91 : decode cX6_alike 91 = .ok (.iload_n 1, 1) := by decide +kernel
theorem dX6_alike_92 : decode cX6_alike 92 = .ok (.iconst (-1), 1) := by decide +kernel
theorem dX6_alike_93 : decode cX6_alike 93 = .ok (.if_icmp .eq 20, 3) := by decide +kernel
theorem dX6_alike_96 : decode cX6_alike 96 = .ok (.aload_n 0, 1) := by decide +kernel
theorem dX6_alike_97 : decode cX6_alike 97 = .ok (.iload_n 1, 1) := by decide +kernel
theorem dX6_alike_98 : decode cX6_alike 98 = .ok (.iload 4, 2) := by decide +kernel
theorem dX6_alike_100 : decode cX6_alike 100 = .ok (.invokevirtual 213, 3) := by decide +kernel
theorem dX6_alike_103 : decode cX6_alike 103 = .ok (.ifCond .eq 10, 3) := by decide +kernel
theorem dX6_alike_106 : decode cX6_alike 106 = .ok (.iconst 1, 1) := by decide +kernel
theorem dX6_alike_107 : decode cX6_alike 107 = .ok (.iload 4, 2) := by decide +kernel
theorem dX6_alike_109 : decode cX6_alike 109 = .ok (.ishl, 1) := by decide +kernel
theorem dX6_alike_110 : decode cX6_alike 110 = .ok (.goto 4, 3) := by decide +kernel
theorem dX6_alike_113 : decode cX6_alike 113 = .ok (.iconst 0, 1) := by decide +kernel
theorem dX6_alike_114 : decode cX6_alike 114 = .ok (.ior, 1) := by decide +kernel
theorem dX6_alike_115 : decode cX6_alike 115 = .ok (.istore_n 2, 1) := by decide +kernel
theorem dX6_alike_116 : decode cX6_alike 116 = .ok (.iinc 4 1, 3) := by decide +kernel
theorem dX6_alike_119 : decode cX6_alike 119 = .ok (.goto (-96), 3) := by decide +kernel
theorem dX6_alike_122 : decode cX6_alike 122 = .ok (.iload_n 1, 1) := by decide +kernel
theorem dX6_alike_123 : decode cX6_alike 123 = .ok (.iconst (-1), 1) := by decide +kernel
theorem dX6_alike_124 : decode cX6_alike 124 = .ok (.if_icmp .ne 7, 3) := by decide +kernel
theorem dX6_alike_127 : decode cX6_alike 127 = .ok (.iload_n 3, 1) := by decide +kernel
theorem dX6_alike_128 : decode cX6_alike 128 = .ok (.goto 4, 3) := by decide +kernel
theorem dX6_alike_131 : decode cX6_alike 131 = .ok (.iload_n 2, 1) := by decide +kernel
theorem dX6_alike_132 : decode cX6_alike 132 = .ok (.ireturn, 1) := by decide +kernel
theorem dX6_byLot_0 : decode cX6_byLot 0 = .ok (.iload_n 1, 1) := by decide +kernel
theorem dX6_byLot_1 : decode cX6_byLot 1 = .ok (.istore_n 3, 1) := by decide +kernel
theorem dX6_byLot_2 : decode cX6_byLot 2 = .ok (.iconst 0, 1) := by decide +kernel
theorem dX6_byLot_3 : decode cX6_byLot 3 = .ok (.istore 4, 2) := by decide +kernel
theorem dX6_byLot_5 : decode cX6_byLot 5 = .ok (.iload 4, 2) := by decide +kernel
theorem dX6_byLot_7 : decode cX6_byLot 7 = .ok (.aload_n 0, 1) := by decide +kernel
theorem dX6_byLot_8 : decode cX6_byLot 8 = .ok (.getfield 11, 3) := by decide +kernel
theorem dX6_byLot_11 : decode cX6_byLot 11 = .ok (.bipush 66, 2) := by decide +kernel
theorem dX6_byLot_13 : decode cX6_byLot 13 = .ok (.iaload, 1) := by decide +kernel
theorem dX6_byLot_14 : decode cX6_byLot 14 = .ok (.if_icmp .ge 47, 3) := by decide +kernel
theorem dX6_byLot_17 : decode cX6_byLot 17 = .ok (.iload_n 3, 1) := by decide +kernel
theorem dX6_byLot_18 : decode cX6_byLot 18 = .ok (.ldc 216, 2) := by decide +kernel
theorem dX6_byLot_20 : decode cX6_byLot 20 = .ok (.imul, 1) := by decide +kernel
theorem dX6_byLot_21 : decode cX6_byLot 21 = .ok (.sipush 12345, 3) := by decide +kernel
theorem dX6_byLot_24 : decode cX6_byLot 24 = .ok (.iadd, 1) := by decide +kernel
theorem dX6_byLot_25 : decode cX6_byLot 25 = .ok (.istore_n 3, 1) := by decide +kernel
theorem dX6_byLot_26 : decode cX6_byLot 26 = .ok (.aload_n 0, 1) := by decide +kernel
theorem dX6_byLot_27 : decode cX6_byLot 27 = .ok (.getfield 31, 3) := by decide +kernel
theorem dX6_byLot_30 : decode cX6_byLot 30 = .ok (.iload 4, 2) := by decide +kernel
theorem dX6_byLot_32 : decode cX6_byLot 32 = .ok (.aload_n 0, 1) := by decide +kernel
theorem dX6_byLot_33 : decode cX6_byLot 33 = .ok (.iload 4, 2) := by decide +kernel
theorem dX6_byLot_35 : decode cX6_byLot 35 = .ok (.iconst 3, 1) := by decide +kernel
theorem dX6_byLot_36 : decode cX6_byLot 36 = .ok (.invokevirtual 77, 3) := by decide +kernel
theorem dX6_byLot_39 : decode cX6_byLot 39 = .ok (.iastore, 1) := by decide +kernel
theorem dX6_byLot_40 : decode cX6_byLot 40 = .ok (.aload_n 0, 1) := by decide +kernel
theorem dX6_byLot_41 : decode cX6_byLot 41 = .ok (.iload 4, 2) := by decide +kernel
theorem dX6_byLot_43 : decode cX6_byLot 43 = .ok (.iconst 3, 1) := by decide +kernel
theorem dX6_byLot_44 : decode cX6_byLot 44 = .ok (.iload_n 3, 1) := by decide +kernel
theorem dX6_byLot_45 : decode cX6_byLot 45 = .ok (.bipush 9, 2) := by decide +kernel
theorem dX6_byLot_47 : decode cX6_byLot 47 = .ok (.iushr, 1) := by decide +kernel
theorem dX6_byLot_48 : decode cX6_byLot 48 = .ok (.sipush 1024, 3) := by decide +kernel
theorem dX6_byLot_51 : decode cX6_byLot 51 = .ok (.irem, 1) := by decide +kernel
theorem dX6_byLot_52 : decode cX6_byLot 52 = .ok (.invokevirtual 65, 3) := by decide +kernel
theorem dX6_byLot_55 : decode cX6_byLot 55 = .ok (.iinc 4 1, 3) := by decide +kernel
theorem dX6_byLot_58 : decode cX6_byLot 58 = .ok (.goto (-53), 3) := by decide +kernel
theorem dX6_byLot_61 : decode cX6_byLot 61 = .ok (.aload_n 0, 1) := by decide +kernel
theorem dX6_byLot_62 : decode cX6_byLot 62 = .ok (.iload_n 2, 1) := by decide +kernel
theorem dX6_byLot_63 : decode cX6_byLot 63 = .ok (.invokevirtual 158, 3) := by decide +kernel
theorem dX6_byLot_66 : decode cX6_byLot 66 = .ok (.lstore 4, 2) := by decide +kernel
theorem dX6_byLot_68 : decode cX6_byLot 68 = .ok (.iconst 0, 1) := by decide +kernel
theorem dX6_byLot_69 : decode cX6_byLot 69 = .ok (.istore 6, 2) := by decide +kernel
theorem dX6_byLot_71 : decode cX6_byLot 71 = .ok (.iload 6, 2) := by decide +kernel
theorem dX6_byLot_73 : decode cX6_byLot 73 = .ok (.aload_n 0, 1) := by decide +kernel
theorem dX6_byLot_74 : decode cX6_byLot 74 = .ok (.getfield 11, 3) := by decide +kernel
theorem dX6_byLot_77 : decode cX6_byLot 77 = .ok (.bipush 66, 2) := by decide +kernel
theorem dX6_byLot_79 : decode cX6_byLot 79 = .ok (.iaload, 1) := by decide +kernel
theorem dX6_byLot_80 : decode cX6_byLot 80 = .ok (.if_icmp .ge 23, 3) := by decide +kernel
theorem dX6_byLot_83 : decode cX6_byLot 83 = .ok (.aload_n 0, 1) := by decide +kernel
theorem dX6_byLot_84 : decode cX6_byLot 84 = .ok (.iload 6, 2) := by decide +kernel
theorem dX6_byLot_86 : decode cX6_byLot 86 = .ok (.iconst 3, 1) := by decide +kernel
theorem dX6_byLot_87 : decode cX6_byLot 87 = .ok (.aload_n 0, 1) := by decide +kernel
theorem dX6_byLot_88 : decode cX6_byLot 88 = .ok (.getfield 31, 3) := by decide +kernel
theorem dX6_byLot_91 : decode cX6_byLot 91 = .ok (.iload 6, 2) := by decide +kernel
theorem dX6_byLot_93 : decode cX6_byLot 93 = .ok (.iaload, 1) := by decide +kernel
theorem dX6_byLot_94 : decode cX6_byLot 94 = .ok (.invokevirtual 65, 3) := by decide +kernel
theorem dX6_byLot_97 : decode cX6_byLot 97 = .ok (.iinc 6 1, 3) := by decide +kernel
theorem dX6_byLot_100 : decode cX6_byLot 100 = .ok (.goto (-29), 3) := by decide +kernel
theorem dX6_byLot_103 : decode cX6_byLot 103 = .ok (.lload 4, 2) := by decide +kernel
theorem dX6_byLot_105 : decode cX6_byLot 105 = .ok (.lreturn, 1) := by decide +kernel
theorem dX6_drawn_0 : decode cX6_drawn 0 = .ok (.iload_n 2, 1) := by decide +kernel
theorem dX6_drawn_1 : decode cX6_drawn 1 = .ok (.invokestatic 161, 3) := by decide +kernel
theorem dX6_drawn_4 : decode cX6_drawn 4 = .ok (.ifCond .eq 12, 3) := by decide +kernel
theorem dX6_drawn_7 : decode cX6_drawn 7 = .ok (.aload_n 0, 1) := by decide +kernel
theorem dX6_drawn_8 : decode cX6_drawn 8 = .ok (.iload_n 1, 1) := by decide +kernel
theorem dX6_drawn_9 : decode cX6_drawn 9 = .ok (.iload_n 2, 1) := by decide +kernel
theorem dX6_drawn_10 : decode cX6_drawn 10 = .ok (.invokevirtual 217, 3) := by decide +kernel
theorem dX6_drawn_13 : decode cX6_drawn 13 = .ok (.goto 6, 3) := by decide +kernel
theorem dX6_drawn_16 : decode cX6_drawn 16 = .ok (.ldc2_w 136, 3) := by decide +kernel
theorem dX6_drawn_19 : decode cX6_drawn 19 = .ok (.lreturn, 1) := by decide +kernel
theorem dX6_chance_0 : decode cX6_chance 0 = .ok (.iload_n 2, 1) := by decide +kernel
theorem dX6_chance_1 : decode cX6_chance 1 = .ok (.i2l, 1) := by decide +kernel
theorem dX6_chance_2 : decode cX6_chance 2 = .ok (.lconst 1, 1) := by decide +kernel
theorem dX6_chance_3 : decode cX6_chance 3 = .ok (.ldc2_w 93, 3) := by decide +kernel
theorem dX6_chance_6 : decode cX6_chance 6 = .ok (.invokestatic 49, 3) := by decide +kernel
theorem dX6_chance_9 : decode cX6_chance 9 = .ok (.ifCond .eq 18, 3) := by decide +kernel
theorem dX6_chance_12 : decode cX6_chance 12 = .ok (.iload_n 3, 1) := by decide +kernel
theorem dX6_chance_13 : decode cX6_chance 13 = .ok (.invokestatic 161, 3) := by decide +kernel
theorem dX6_chance_16 : decode cX6_chance 16 = .ok (.ifCond .eq 11, 3) := by decide +kernel
theorem dX6_chance_19 : decode cX6_chance 19 = .ok (.iload 5, 2) := by decide +kernel
theorem dX6_chance_21 : decode cX6_chance 21 = .ok (.invokestatic 122, 3) := by decide +kernel
theorem dX6_chance_24 : decode cX6_chance 24 = .ok (.ifCond .ne 6, 3) := by decide +kernel
theorem dX6_chance_27 : decode cX6_chance 27 = .ok (.bipush (-2), 2) := by decide +kernel
theorem dX6_chance_29 : decode cX6_chance 29 = .ok (.ireturn, 1) := by decide +kernel
theorem dX6_chance_30 : decode cX6_chance 30 = .ok (.iconst 0, 1) := by decide +kernel
theorem dX6_chance_31 : decode cX6_chance 31 = .ok (.istore 6, 2) := by decide +kernel
theorem dX6_chance_33 : decode cX6_chance 33 = .ok (.iconst 0, 1) := by decide +kernel
theorem dX6_chance_34 : decode cX6_chance 34 = .ok (.istore 7, 2) := by decide +kernel
theorem dX6_chance_36 : decode cX6_chance 36 = .ok (.iload 7, 2) := by decide +kernel
theorem dX6_chance_38 : decode cX6_chance 38 = .ok (.iload_n 2, 1) := by decide +kernel
theorem dX6_chance_39 : decode cX6_chance 39 = .ok (.if_icmp .ge 35, 3) := by decide +kernel
theorem dX6_chance_42 : decode cX6_chance 42 = .ok (.iload 6, 2) := by decide +kernel
theorem dX6_chance_44 : decode cX6_chance 44 = .ok (.aload_n 0, 1) := by decide +kernel
theorem dX6_chance_45 : decode cX6_chance 45 = .ok (.iload_n 1, 1) := by decide +kernel
theorem dX6_chance_46 : decode cX6_chance 46 = .ok (.iload 7, 2) := by decide +kernel
theorem dX6_chance_48 : decode cX6_chance 48 = .ok (.iadd, 1) := by decide +kernel
theorem dX6_chance_49 : decode cX6_chance 49 = .ok (.iload_n 3, 1) := by decide +kernel
theorem dX6_chance_50 : decode cX6_chance 50 = .ok (.invokevirtual 217, 3) := by decide +kernel
theorem dX6_chance_53 : decode cX6_chance 53 = .ok (.iload 4, 2) := by decide +kernel
theorem dX6_chance_55 : decode cX6_chance 55 = .ok (.i2l, 1) := by decide +kernel
theorem dX6_chance_56 : decode cX6_chance 56 = .ok (.lcmp, 1) := by decide +kernel
theorem dX6_chance_57 : decode cX6_chance 57 = .ok (.ifCond .lt 7, 3) := by decide +kernel
theorem dX6_chance_60 : decode cX6_chance 60 = .ok (.iconst 1, 1) := by decide +kernel
theorem dX6_chance_61 : decode cX6_chance 61 = .ok (.goto 4, 3) := by decide +kernel
theorem dX6_chance_64 : decode cX6_chance 64 = .ok (.iconst 0, 1) := by decide +kernel
theorem dX6_chance_65 : decode cX6_chance 65 = .ok (.iadd, 1) := by decide +kernel
theorem dX6_chance_66 : decode cX6_chance 66 = .ok (.istore 6, 2) := by decide +kernel
theorem dX6_chance_68 : decode cX6_chance 68 = .ok (.iinc 7 1, 3) := by decide +kernel
theorem dX6_chance_71 : decode cX6_chance 71 = .ok (.goto (-35), 3) := by decide +kernel
theorem dX6_chance_74 : decode cX6_chance 74 = .ok (.iload 6, 2) := by decide +kernel
theorem dX6_chance_76 : decode cX6_chance 76 = .ok (.i2l, 1) := by decide +kernel
theorem dX6_chance_77 : decode cX6_chance 77 = .ok (.iload_n 2, 1) := by decide +kernel
theorem dX6_chance_78 : decode cX6_chance 78 = .ok (.i2l, 1) := by decide +kernel
theorem dX6_chance_79 : decode cX6_chance 79 = .ok (.iload 5, 2) := by decide +kernel
theorem dX6_chance_81 : decode cX6_chance 81 = .ok (.invokestatic 132, 3) := by decide +kernel
theorem dX6_chance_84 : decode cX6_chance 84 = .ok (.l2i, 1) := by decide +kernel
theorem dX6_chance_85 : decode cX6_chance 85 = .ok (.ireturn, 1) := by decide +kernel
theorem dX6_isByte_0 : decode cX6_isByte 0 = .ok (.iload_n 0, 1) := by decide +kernel
theorem dX6_isByte_1 : decode cX6_isByte 1 = .ok (.i2l, 1) := by decide +kernel
theorem dX6_isByte_2 : decode cX6_isByte 2 = .ok (.lconst 0, 1) := by decide +kernel
theorem dX6_isByte_3 : decode cX6_isByte 3 = .ok (.ldc2_w 220, 3) := by decide +kernel
theorem dX6_isByte_6 : decode cX6_isByte 6 = .ok (.invokestatic 49, 3) := by decide +kernel
theorem dX6_isByte_9 : decode cX6_isByte 9 = .ok (.ireturn, 1) := by decide +kernel
theorem dX6_feed_0 : decode cX6_feed 0 = .ok (.iload_n 1, 1) := by decide +kernel
theorem dX6_feed_1 : decode cX6_feed 1 = .ok (.i2l, 1) := by decide +kernel
theorem dX6_feed_2 : decode cX6_feed 2 = .ok (.lconst 1, 1) := by decide +kernel
theorem dX6_feed_3 : decode cX6_feed 3 = .ok (.ldc2_w 53, 3) := by decide +kernel
theorem dX6_feed_6 : decode cX6_feed 6 = .ok (.invokestatic 49, 3) := by decide +kernel
theorem dX6_feed_9 : decode cX6_feed 9 = .ok (.ifCond .eq 41, 3) := by decide +kernel
theorem dX6_feed_12 : decode cX6_feed 12 = .ok (.iload_n 2, 1) := by decide +kernel
theorem dX6_feed_13 : decode cX6_feed 13 = .ok (.invokestatic 222, 3) := by decide +kernel
theorem dX6_feed_16 : decode cX6_feed 16 = .ok (.ifCond .eq 34, 3) := by decide +kernel
theorem dX6_feed_19 : decode cX6_feed 19 = .ok (.iload_n 3, 1) := by decide +kernel
theorem dX6_feed_20 : decode cX6_feed 20 = .ok (.invokestatic 222, 3) := by decide +kernel
theorem dX6_feed_23 : decode cX6_feed 23 = .ok (.ifCond .eq 27, 3) := by decide +kernel
theorem dX6_feed_26 : decode cX6_feed 26 = .ok (.iload 4, 2) := by decide +kernel
theorem dX6_feed_28 : decode cX6_feed 28 = .ok (.invokestatic 222, 3) := by decide +kernel
theorem dX6_feed_31 : decode cX6_feed 31 = .ok (.ifCond .eq 19, 3) := by decide +kernel
theorem dX6_feed_34 : decode cX6_feed 34 = .ok (.iload 5, 2) := by decide +kernel
theorem dX6_feed_36 : decode cX6_feed 36 = .ok (.invokestatic 222, 3) := by decide +kernel
theorem dX6_feed_39 : decode cX6_feed 39 = .ok (.ifCond .eq 11, 3) := by decide +kernel
theorem dX6_feed_42 : decode cX6_feed 42 = .ok (.iload 6, 2) := by decide +kernel
theorem dX6_feed_44 : decode cX6_feed 44 = .ok (.invokestatic 222, 3) := by decide +kernel
theorem dX6_feed_47 : decode cX6_feed 47 = .ok (.ifCond .ne 6, 3) := by decide +kernel
theorem dX6_feed_50 : decode cX6_feed 50 = .ok (.bipush (-2), 2) := by decide +kernel
theorem dX6_feed_52 : decode cX6_feed 52 = .ok (.ireturn, 1) := by decide +kernel
theorem dX6_feed_53 : decode cX6_feed 53 = .ok (.aload_n 0, 1) := by decide +kernel
theorem dX6_feed_54 : decode cX6_feed 54 = .ok (.getfield 225, 3) := by decide +kernel
theorem dX6_feed_57 : decode cX6_feed 57 = .ok (.iload_n 1, 1) := by decide +kernel
theorem dX6_feed_58 : decode cX6_feed 58 = .ok (.iadd, 1) := by decide +kernel
theorem dX6_feed_59 : decode cX6_feed 59 = .ok (.bipush 60, 2) := by decide +kernel
theorem dX6_feed_61 : decode cX6_feed 61 = .ok (.if_icmp .le 6, 3) := by decide +kernel
theorem dX6_feed_64 : decode cX6_feed 64 = .ok (.bipush (-4), 2) := by decide +kernel
theorem dX6_feed_66 : decode cX6_feed 66 = .ok (.ireturn, 1) := by decide +kernel
theorem dX6_feed_67 : decode cX6_feed 67 = .ok (.iconst 0, 1) := by decide +kernel
theorem dX6_feed_68 : decode cX6_feed 68 = .ok (.istore 7, 2) := by decide +kernel
theorem dX6_feed_70 : decode cX6_feed 70 = .ok (.iload 7, 2) := by decide +kernel
theorem dX6_feed_72 : decode cX6_feed 72 = .ok (.iload_n 1, 1) := by decide +kernel
theorem dX6_feed_73 : decode cX6_feed 73 = .ok (.if_icmp .ge 71, 3) := by decide +kernel
theorem dX6_feed_76 : decode cX6_feed 76 = .ok (.aload_n 0, 1) := by decide +kernel
theorem dX6_feed_77 : decode cX6_feed 77 = .ok (.getfield 34, 3) := by decide +kernel
theorem dX6_feed_80 : decode cX6_feed 80 = .ok (.aload_n 0, 1) := by decide +kernel
theorem dX6_feed_81 : decode cX6_feed 81 = .ok (.getfield 225, 3) := by decide +kernel
theorem dX6_feed_84 : decode cX6_feed 84 = .ok (.iload 7, 2) := by decide +kernel
theorem dX6_feed_86 : decode cX6_feed 86 = .ok (.ifCond .ne 7, 3) := by decide +kernel
theorem dX6_feed_89 : decode cX6_feed 89 = .ok (.iload_n 2, 1) := by decide +kernel
theorem dX6_feed_90 : decode cX6_feed 90 = .ok (.goto 37, 3) := by decide +kernel
theorem dX6_feed_93 : decode cX6_feed 93 = .ok (.iload 7, 2) := by decide +kernel
theorem dX6_feed_95 : decode cX6_feed 95 = .ok (.iconst 1, 1) := by decide +kernel
theorem dX6_feed_96 : decode cX6_feed 96 = .ok (.if_icmp .ne 7, 3) := by decide +kernel
theorem dX6_feed_99 : decode cX6_feed 99 = .ok (.iload_n 3, 1) := by decide +kernel
theorem dX6_feed_100 : decode cX6_feed 100 = .ok (.goto 27, 3) := by decide +kernel
theorem dX6_feed_103 : decode cX6_feed 103 = .ok (.iload 7, 2) := by decide +kernel
theorem dX6_feed_105 : decode cX6_feed 105 = .ok (.iconst 2, 1) := by decide +kernel
theorem dX6_feed_106 : decode cX6_feed 106 = .ok (.if_icmp .ne 8, 3) := by decide +kernel
theorem dX6_feed_109 : decode cX6_feed 109 = .ok (.iload 4, 2) := by decide +kernel
theorem dX6_feed_111 : decode cX6_feed 111 = .ok (.goto 16, 3) := by decide +kernel
theorem dX6_feed_114 : decode cX6_feed 114 = .ok (.iload 7, 2) := by decide +kernel
theorem dX6_feed_116 : decode cX6_feed 116 = .ok (.iconst 3, 1) := by decide +kernel
theorem dX6_feed_117 : decode cX6_feed 117 = .ok (.if_icmp .ne 8, 3) := by decide +kernel
theorem dX6_feed_120 : decode cX6_feed 120 = .ok (.iload 5, 2) := by decide +kernel
theorem dX6_feed_122 : decode cX6_feed 122 = .ok (.goto 5, 3) := by decide +kernel
theorem dX6_feed_125 : decode cX6_feed 125 = .ok (.iload 6, 2) := by decide +kernel
theorem dX6_feed_127 : decode cX6_feed 127 = .ok (.iastore, 1) := by decide +kernel
theorem dX6_feed_128 : decode cX6_feed 128 = .ok (.aload_n 0, 1) := by decide +kernel
theorem dX6_feed_129 : decode cX6_feed 129 = .ok (.dup, 1) := by decide +kernel
theorem dX6_feed_130 : decode cX6_feed 130 = .ok (.getfield 225, 3) := by decide +kernel
theorem dX6_feed_133 : decode cX6_feed 133 = .ok (.iconst 1, 1) := by decide +kernel
theorem dX6_feed_134 : decode cX6_feed 134 = .ok (.iadd, 1) := by decide +kernel
theorem dX6_feed_135 : decode cX6_feed 135 = .ok (.putfield 225, 3) := by decide +kernel
theorem dX6_feed_138 : decode cX6_feed 138 = .ok (.iinc 7 1, 3) := by decide +kernel
theorem dX6_feed_141 : decode cX6_feed 141 = .ok (.goto (-71), 3) := by decide +kernel
theorem dX6_feed_144 : decode cX6_feed 144 = .ok (.aload_n 0, 1) := by decide +kernel
theorem dX6_feed_145 : decode cX6_feed 145 = .ok (.getfield 225, 3) := by decide +kernel
theorem dX6_feed_148 : decode cX6_feed 148 = .ok (.ireturn, 1) := by decide +kernel
theorem dX6_byteAt_0 : decode cX6_byteAt 0 = .ok (.iload_n 1, 1) := by decide +kernel
theorem dX6_byteAt_1 : decode cX6_byteAt 1 = .ok (.aload_n 0, 1) := by decide +kernel
theorem dX6_byteAt_2 : decode cX6_byteAt 2 = .ok (.getfield 225, 3) := by decide +kernel
theorem dX6_byteAt_5 : decode cX6_byteAt 5 = .ok (.if_icmp .ge 12, 3) := by decide +kernel
theorem dX6_byteAt_8 : decode cX6_byteAt 8 = .ok (.aload_n 0, 1) := by decide +kernel
theorem dX6_byteAt_9 : decode cX6_byteAt 9 = .ok (.getfield 34, 3) := by decide +kernel
theorem dX6_byteAt_12 : decode cX6_byteAt 12 = .ok (.iload_n 1, 1) := by decide +kernel
theorem dX6_byteAt_13 : decode cX6_byteAt 13 = .ok (.iaload, 1) := by decide +kernel
theorem dX6_byteAt_14 : decode cX6_byteAt 14 = .ok (.goto 4, 3) := by decide +kernel
theorem dX6_byteAt_17 : decode cX6_byteAt 17 = .ok (.iconst (-1), 1) := by decide +kernel
theorem dX6_byteAt_18 : decode cX6_byteAt 18 = .ok (.ireturn, 1) := by decide +kernel
theorem dX6_isLetter_0 : decode cX6_isLetter 0 = .ok (.iload_n 0, 1) := by decide +kernel
theorem dX6_isLetter_1 : decode cX6_isLetter 1 = .ok (.bipush 97, 2) := by decide +kernel
theorem dX6_isLetter_3 : decode cX6_isLetter 3 = .ok (.if_icmp .lt 13, 3) := by decide +kernel
theorem dX6_isLetter_6 : decode cX6_isLetter 6 = .ok (.iload_n 0, 1) := by decide +kernel
theorem dX6_isLetter_7 : decode cX6_isLetter 7 = .ok (.bipush 122, 2) := by decide +kernel
theorem dX6_isLetter_9 : decode cX6_isLetter 9 = .ok (.if_icmp .gt 7, 3) := by decide +kernel
theorem dX6_isLetter_12 : decode cX6_isLetter 12 = .ok (.iconst 1, 1) := by decide +kernel
theorem dX6_isLetter_13 : decode cX6_isLetter 13 = .ok (.goto 4, 3) := by decide +kernel
theorem dX6_isLetter_16 : decode cX6_isLetter 16 = .ok (.iconst 0, 1) := by decide +kernel
theorem dX6_isLetter_17 : decode cX6_isLetter 17 = .ok (.ireturn, 1) := by decide +kernel
theorem dX6_isDigit_0 : decode cX6_isDigit 0 = .ok (.iload_n 0, 1) := by decide +kernel
theorem dX6_isDigit_1 : decode cX6_isDigit 1 = .ok (.bipush 48, 2) := by decide +kernel
theorem dX6_isDigit_3 : decode cX6_isDigit 3 = .ok (.if_icmp .lt 13, 3) := by decide +kernel
theorem dX6_isDigit_6 : decode cX6_isDigit 6 = .ok (.iload_n 0, 1) := by decide +kernel
theorem dX6_isDigit_7 : decode cX6_isDigit 7 = .ok (.bipush 57, 2) := by decide +kernel
theorem dX6_isDigit_9 : decode cX6_isDigit 9 = .ok (.if_icmp .gt 7, 3) := by decide +kernel
theorem dX6_isDigit_12 : decode cX6_isDigit 12 = .ok (.iconst 1, 1) := by decide +kernel
theorem dX6_isDigit_13 : decode cX6_isDigit 13 = .ok (.goto 4, 3) := by decide +kernel
theorem dX6_isDigit_16 : decode cX6_isDigit 16 = .ok (.iconst 0, 1) := by decide +kernel
theorem dX6_isDigit_17 : decode cX6_isDigit 17 = .ok (.ireturn, 1) := by decide +kernel
theorem dX6_skips_0 : decode cX6_skips 0 = .ok (.aload_n 0, 1) := by decide +kernel
theorem dX6_skips_1 : decode cX6_skips 1 = .ok (.aload_n 0, 1) := by decide +kernel
theorem dX6_skips_2 : decode cX6_skips 2 = .ok (.getfield 228, 3) := by decide +kernel
theorem dX6_skips_5 : decode cX6_skips 5 = .ok (.invokevirtual 231, 3) := by decide +kernel
theorem dX6_skips_8 : decode cX6_skips 8 = .ok (.bipush 32, 2) := by decide +kernel
theorem dX6_skips_10 : decode cX6_skips 10 = .ok (.if_icmp .eq 16, 3) := by decide +kernel
theorem dX6_skips_13 : decode cX6_skips 13 = .ok (.aload_n 0, 1) := by decide +kernel
theorem dX6_skips_14 : decode cX6_skips 14 = .ok (.aload_n 0, 1) := by decide +kernel
theorem dX6_skips_15 : decode cX6_skips 15 = .ok (.getfield 228, 3) := by decide +kernel
theorem dX6_skips_18 : decode cX6_skips 18 = .ok (.invokevirtual 231, 3) := by decide +kernel
theorem dX6_skips_21 : decode cX6_skips 21 = .ok (.bipush 10, 2) := by decide +kernel
theorem dX6_skips_23 : decode cX6_skips 23 = .ok (.if_icmp .ne 16, 3) := by decide +kernel
theorem dX6_skips_26 : decode cX6_skips 26 = .ok (.aload_n 0, 1) := by decide +kernel
theorem dX6_skips_27 : decode cX6_skips 27 = .ok (.dup, 1) := by decide +kernel
theorem dX6_skips_28 : decode cX6_skips 28 = .ok (.getfield 228, 3) := by decide +kernel
theorem dX6_skips_31 : decode cX6_skips 31 = .ok (.iconst 1, 1) := by decide +kernel
theorem dX6_skips_32 : decode cX6_skips 32 = .ok (.iadd, 1) := by decide +kernel
theorem dX6_skips_33 : decode cX6_skips 33 = .ok (.putfield 228, 3) := by decide +kernel
theorem dX6_skips_36 : decode cX6_skips 36 = .ok (.goto (-36), 3) := by decide +kernel
theorem dX6_skips_39 : decode cX6_skips 39 = .ok (.aload_n 0, 1) := by decide +kernel
theorem dX6_skips_40 : decode cX6_skips 40 = .ok (.aload_n 0, 1) := by decide +kernel
theorem dX6_skips_41 : decode cX6_skips 41 = .ok (.getfield 228, 3) := by decide +kernel
theorem dX6_skips_44 : decode cX6_skips 44 = .ok (.putfield 234, 3) := by decide +kernel
theorem dX6_skips_47 : decode cX6_skips 47 = .ok (.aload_n 0, 1) := by decide +kernel
theorem dX6_skips_48 : decode cX6_skips 48 = .ok (.aload_n 0, 1) := by decide +kernel
theorem dX6_skips_49 : decode cX6_skips 49 = .ok (.getfield 228, 3) := by decide +kernel
theorem dX6_skips_52 : decode cX6_skips 52 = .ok (.invokevirtual 231, 3) := by decide +kernel
theorem dX6_skips_55 : decode cX6_skips 55 = .ok (.istore_n 1, 1) := by decide +kernel
theorem dX6_skips_56 : decode cX6_skips 56 = .ok (.iload_n 1, 1) := by decide +kernel
theorem dX6_skips_57 : decode cX6_skips 57 = .ok (.invokestatic 237, 3) := by decide +kernel
theorem dX6_skips_60 : decode cX6_skips 60 = .ok (.ifCond .eq 17, 3) := by decide +kernel
theorem dX6_skips_63 : decode cX6_skips 63 = .ok (.aload_n 0, 1) := by decide +kernel
theorem dX6_skips_64 : decode cX6_skips 64 = .ok (.aload_n 0, 1) := by decide +kernel
theorem dX6_skips_65 : decode cX6_skips 65 = .ok (.getfield 234, 3) := by decide +kernel
theorem dX6_skips_68 : decode cX6_skips 68 = .ok (.invokevirtual 231, 3) := by decide +kernel
theorem dX6_skips_71 : decode cX6_skips 71 = .ok (.invokestatic 237, 3) := by decide +kernel
theorem dX6_skips_74 : decode cX6_skips 74 = .ok (.ifCond .ne 24, 3) := by decide +kernel
theorem dX6_skips_77 : decode cX6_skips 77 = .ok (.iload_n 1, 1) := by decide +kernel
theorem dX6_skips_78 : decode cX6_skips 78 = .ok (.invokestatic 240, 3) := by decide +kernel
theorem dX6_skips_81 : decode cX6_skips 81 = .ok (.ifCond .eq 30, 3) := by decide +kernel
theorem dX6_skips_84 : decode cX6_skips 84 = .ok (.aload_n 0, 1) := by decide +kernel
theorem dX6_skips_85 : decode cX6_skips 85 = .ok (.aload_n 0, 1) := by decide +kernel
theorem dX6_skips_86 : decode cX6_skips 86 = .ok (.getfield 234, 3) := by decide +kernel
theorem dX6_skips_89 : decode cX6_skips 89 = .ok (.invokevirtual 231, 3) := by decide +kernel
theorem dX6_skips_92 : decode cX6_skips 92 = .ok (.invokestatic 240, 3) := by decide +kernel
theorem dX6_skips_95 : decode cX6_skips 95 = .ok (.ifCond .eq 16, 3) := by decide +kernel
theorem dX6_skips_98 : decode cX6_skips 98 = .ok (.aload_n 0, 1) := by decide +kernel
theorem dX6_skips_99 : decode cX6_skips 99 = .ok (.dup, 1) := by decide +kernel
theorem dX6_skips_100 : decode cX6_skips 100 = .ok (.getfield 234, 3) := by decide +kernel
theorem dX6_skips_103 : decode cX6_skips 103 = .ok (.iconst 1, 1) := by decide +kernel
theorem dX6_skips_104 : decode cX6_skips 104 = .ok (.iadd, 1) := by decide +kernel
theorem dX6_skips_105 : decode cX6_skips 105 = .ok (.putfield 234, 3) := by decide +kernel
theorem dX6_skips_108 : decode cX6_skips 108 = .ok (.goto (-52), 3) := by decide +kernel
theorem dX6_skips_111 : decode cX6_skips 111 = .ok (.return_, 1) := by decide +kernel
theorem dX6_wordHere_0 : decode cX6_wordHere 0 = .ok (.iconst 0, 1) := by decide +kernel
theorem dX6_wordHere_1 : decode cX6_wordHere 1 = .ok (.istore_n 1, 1) := by decide +kernel
theorem dX6_wordHere_2 : decode cX6_wordHere 2 = .ok (.iconst 0, 1) := by decide +kernel
theorem dX6_wordHere_3 : decode cX6_wordHere 3 = .ok (.istore_n 2, 1) := by decide +kernel
theorem dX6_wordHere_4 : decode cX6_wordHere 4 = .ok (.iload_n 2, 1) := by decide +kernel
theorem dX6_wordHere_5 : decode cX6_wordHere 5 = .ok (.ldc 40, 2) := by decide +kernel
theorem dX6_wordHere_7 : decode cX6_wordHere 7 = .ok (.invokevirtual 243, 3) := by decide +kernel
theorem dX6_wordHere_10 : decode cX6_wordHere 10 = .ok (.if_icmp .ge 103, 3) := by decide +kernel
theorem dX6_wordHere_13 : decode cX6_wordHere 13 = .ok (.iconst 0, 1) := by decide +kernel
theorem dX6_wordHere_14 : decode cX6_wordHere 14 = .ok (.istore_n 3, 1) := by decide +kernel
theorem dX6_wordHere_15 : decode cX6_wordHere 15 = .ok (.ldc 40, 2) := by decide +kernel
theorem dX6_wordHere_17 : decode cX6_wordHere 17 = .ok (.iload_n 2, 1) := by decide +kernel
theorem dX6_wordHere_18 : decode cX6_wordHere 18 = .ok (.iload_n 3, 1) := by decide +kernel
theorem dX6_wordHere_19 : decode cX6_wordHere 19 = .ok (.iadd, 1) := by decide +kernel
theorem dX6_wordHere_20 : decode cX6_wordHere 20 = .ok (.invokevirtual 249, 3) := by decide +kernel
theorem dX6_wordHere_23 : decode cX6_wordHere 23 = .ok (.bipush 32, 2) := by decide +kernel
theorem dX6_wordHere_25 : decode cX6_wordHere 25 = .ok (.if_icmp .eq 30, 3) := by decide +kernel
theorem dX6_wordHere_28 : decode cX6_wordHere 28 = .ok (.aload_n 0, 1) := by decide +kernel
theorem dX6_wordHere_29 : decode cX6_wordHere 29 = .ok (.aload_n 0, 1) := by decide +kernel
theorem dX6_wordHere_30 : decode cX6_wordHere 30 = .ok (.getfield 228, 3) := by decide +kernel
theorem dX6_wordHere_33 : decode cX6_wordHere 33 = .ok (.iload_n 3, 1) := by decide +kernel
theorem dX6_wordHere_34 : decode cX6_wordHere 34 = .ok (.iadd, 1) := by decide +kernel
theorem dX6_wordHere_35 : decode cX6_wordHere 35 = .ok (.invokevirtual 231, 3) := by decide +kernel
theorem dX6_wordHere_38 : decode cX6_wordHere 38 = .ok (.ldc 40, 2) := by decide +kernel
theorem dX6_wordHere_40 : decode cX6_wordHere 40 = .ok (.iload_n 2, 1) := by decide +kernel
theorem dX6_wordHere_41 : decode cX6_wordHere 41 = .ok (.iload_n 3, 1) := by decide +kernel
theorem dX6_wordHere_42 : decode cX6_wordHere 42 = .ok (.iadd, 1) := by decide +kernel
theorem dX6_wordHere_43 : decode cX6_wordHere 43 = .ok (.invokevirtual 249, 3) := by decide +kernel
theorem dX6_wordHere_46 : decode cX6_wordHere 46 = .ok (.if_icmp .ne 9, 3) := by decide +kernel
theorem dX6_wordHere_49 : decode cX6_wordHere 49 = .ok (.iinc 3 1, 3) := by decide +kernel
theorem dX6_wordHere_52 : decode cX6_wordHere 52 = .ok (.goto (-37), 3) := by decide +kernel
theorem dX6_wordHere_55 : decode cX6_wordHere 55 = .ok (.ldc 40, 2) := by decide +kernel
theorem dX6_wordHere_57 : decode cX6_wordHere 57 = .ok (.iload_n 2, 1) := by decide +kernel
theorem dX6_wordHere_58 : decode cX6_wordHere 58 = .ok (.iload_n 3, 1) := by decide +kernel
theorem dX6_wordHere_59 : decode cX6_wordHere 59 = .ok (.iadd, 1) := by decide +kernel
theorem dX6_wordHere_60 : decode cX6_wordHere 60 = .ok (.invokevirtual 249, 3) := by decide +kernel
theorem dX6_wordHere_63 : decode cX6_wordHere 63 = .ok (.bipush 32, 2) := by decide +kernel
theorem dX6_wordHere_65 : decode cX6_wordHere 65 = .ok (.if_icmp .ne 22, 3) := by decide +kernel
theorem dX6_wordHere_68 : decode cX6_wordHere 68 = .ok (.aload_n 0, 1) := by decide +kernel
theorem dX6_wordHere_69 : decode cX6_wordHere 69 = .ok (.getfield 228, 3) := by decide +kernel
theorem dX6_wordHere_72 : decode cX6_wordHere 72 = .ok (.iload_n 3, 1) := by decide +kernel
theorem dX6_wordHere_73 : decode cX6_wordHere 73 = .ok (.iadd, 1) := by decide +kernel
theorem dX6_wordHere_74 : decode cX6_wordHere 74 = .ok (.aload_n 0, 1) := by decide +kernel
theorem dX6_wordHere_75 : decode cX6_wordHere 75 = .ok (.getfield 234, 3) := by decide +kernel
theorem dX6_wordHere_78 : decode cX6_wordHere 78 = .ok (.if_icmp .ne 9, 3) := by decide +kernel
theorem dX6_wordHere_81 : decode cX6_wordHere 81 = .ok (.iload_n 3, 1) := by decide +kernel
theorem dX6_wordHere_82 : decode cX6_wordHere 82 = .ok (.ifCond .le 5, 3) := by decide +kernel
theorem dX6_wordHere_85 : decode cX6_wordHere 85 = .ok (.iload_n 1, 1) := by decide +kernel
theorem dX6_wordHere_86 : decode cX6_wordHere 86 = .ok (.ireturn, 1) := by decide +kernel
theorem dX6_wordHere_87 : decode cX6_wordHere 87 = .ok (.ldc 40, 2) := by decide +kernel
theorem dX6_wordHere_89 : decode cX6_wordHere 89 = .ok (.iload_n 2, 1) := by decide +kernel
theorem dX6_wordHere_90 : decode cX6_wordHere 90 = .ok (.invokevirtual 249, 3) := by decide +kernel
theorem dX6_wordHere_93 : decode cX6_wordHere 93 = .ok (.bipush 32, 2) := by decide +kernel
theorem dX6_wordHere_95 : decode cX6_wordHere 95 = .ok (.if_icmp .eq 9, 3) := by decide +kernel
theorem dX6_wordHere_98 : decode cX6_wordHere 98 = .ok (.iinc 2 1, 3) := by decide +kernel
theorem dX6_wordHere_101 : decode cX6_wordHere 101 = .ok (.goto (-14), 3) := by decide +kernel
theorem dX6_wordHere_104 : decode cX6_wordHere 104 = .ok (.iinc 2 1, 3) := by decide +kernel
theorem dX6_wordHere_107 : decode cX6_wordHere 107 = .ok (.iinc 1 1, 3) := by decide +kernel
theorem dX6_wordHere_110 : decode cX6_wordHere 110 = .ok (.goto (-106), 3) := by decide +kernel
theorem dX6_wordHere_113 : decode cX6_wordHere 113 = .ok (.iconst (-1), 1) := by decide +kernel
theorem dX6_wordHere_114 : decode cX6_wordHere 114 = .ok (.ireturn, 1) := by decide +kernel
theorem dX6_manyOf_0 : decode cX6_manyOf 0 = .ok (.iload_n 0, 1) := by decide +kernel
theorem dX6_manyOf_1 : decode cX6_manyOf 1 = .ok (.ifCond .ne 7, 3) := by decide +kernel
theorem dX6_manyOf_4 : decode cX6_manyOf 4 = .ok (.iconst 4, 1) := by decide +kernel
theorem dX6_manyOf_5 : decode cX6_manyOf 5 = .ok (.goto 22, 3) := by decide +kernel
theorem dX6_manyOf_8 : decode cX6_manyOf 8 = .ok (.iload_n 0, 1) := by decide +kernel
theorem dX6_manyOf_9 : decode cX6_manyOf 9 = .ok (.iconst 1, 1) := by decide +kernel
theorem dX6_manyOf_10 : decode cX6_manyOf 10 = .ok (.if_icmp .ne 7, 3) := by decide +kernel
theorem dX6_manyOf_13 : decode cX6_manyOf 13 = .ok (.iconst 3, 1) := by decide +kernel
theorem dX6_manyOf_14 : decode cX6_manyOf 14 = .ok (.goto 13, 3) := by decide +kernel
theorem dX6_manyOf_17 : decode cX6_manyOf 17 = .ok (.iload_n 0, 1) := by decide +kernel
theorem dX6_manyOf_18 : decode cX6_manyOf 18 = .ok (.iconst 2, 1) := by decide +kernel
theorem dX6_manyOf_19 : decode cX6_manyOf 19 = .ok (.if_icmp .ne 7, 3) := by decide +kernel
theorem dX6_manyOf_22 : decode cX6_manyOf 22 = .ok (.iconst 1, 1) := by decide +kernel
theorem dX6_manyOf_23 : decode cX6_manyOf 23 = .ok (.goto 4, 3) := by decide +kernel
theorem dX6_manyOf_26 : decode cX6_manyOf 26 = .ok (.iconst 2, 1) := by decide +kernel
theorem dX6_manyOf_27 : decode cX6_manyOf 27 = .ok (.ireturn, 1) := by decide +kernel
theorem dX6_numberHere_0 : decode cX6_numberHere 0 = .ok (.aload_n 0, 1) := by decide +kernel
theorem dX6_numberHere_1 : decode cX6_numberHere 1 = .ok (.aload_n 0, 1) := by decide +kernel
theorem dX6_numberHere_2 : decode cX6_numberHere 2 = .ok (.getfield 228, 3) := by decide +kernel
theorem dX6_numberHere_5 : decode cX6_numberHere 5 = .ok (.invokevirtual 231, 3) := by decide +kernel
theorem dX6_numberHere_8 : decode cX6_numberHere 8 = .ok (.invokestatic 240, 3) := by decide +kernel
theorem dX6_numberHere_11 : decode cX6_numberHere 11 = .ok (.ifCond .eq 16, 3) := by decide +kernel
theorem dX6_numberHere_14 : decode cX6_numberHere 14 = .ok (.aload_n 0, 1) := by decide +kernel
theorem dX6_numberHere_15 : decode cX6_numberHere 15 = .ok (.getfield 234, 3) := by decide +kernel
theorem dX6_numberHere_18 : decode cX6_numberHere 18 = .ok (.aload_n 0, 1) := by decide +kernel
theorem dX6_numberHere_19 : decode cX6_numberHere 19 = .ok (.getfield 228, 3) := by decide +kernel
theorem dX6_numberHere_22 : decode cX6_numberHere 22 = .ok (.isub, 1) := by decide +kernel
theorem dX6_numberHere_23 : decode cX6_numberHere 23 = .ok (.iconst 4, 1) := by decide +kernel
theorem dX6_numberHere_24 : decode cX6_numberHere 24 = .ok (.if_icmp .le 5, 3) := by decide +kernel
theorem dX6_numberHere_27 : decode cX6_numberHere 27 = .ok (.iconst (-1), 1) := by decide +kernel
theorem dX6_numberHere_28 : decode cX6_numberHere 28 = .ok (.ireturn, 1) := by decide +kernel
theorem dX6_numberHere_29 : decode cX6_numberHere 29 = .ok (.iconst 0, 1) := by decide +kernel
theorem dX6_numberHere_30 : decode cX6_numberHere 30 = .ok (.istore_n 1, 1) := by decide +kernel
theorem dX6_numberHere_31 : decode cX6_numberHere 31 = .ok (.aload_n 0, 1) := by decide +kernel
theorem dX6_numberHere_32 : decode cX6_numberHere 32 = .ok (.getfield 228, 3) := by decide +kernel
theorem dX6_numberHere_35 : decode cX6_numberHere 35 = .ok (.istore_n 2, 1) := by decide +kernel
theorem dX6_numberHere_36 : decode cX6_numberHere 36 = .ok (.iload_n 2, 1) := by decide +kernel
theorem dX6_numberHere_37 : decode cX6_numberHere 37 = .ok (.aload_n 0, 1) := by decide +kernel
theorem dX6_numberHere_38 : decode cX6_numberHere 38 = .ok (.getfield 234, 3) := by decide +kernel
theorem dX6_numberHere_41 : decode cX6_numberHere 41 = .ok (.if_icmp .ge 23, 3) := by decide +kernel
theorem dX6_numberHere_44 : decode cX6_numberHere 44 = .ok (.bipush 10, 2) := by decide +kernel
theorem dX6_numberHere_46 : decode cX6_numberHere 46 = .ok (.iload_n 1, 1) := by decide +kernel
theorem dX6_numberHere_47 : decode cX6_numberHere 47 = .ok (.imul, 1) := by decide +kernel
theorem dX6_numberHere_48 : decode cX6_numberHere 48 = .ok (.aload_n 0, 1) := by decide +kernel
theorem dX6_numberHere_49 : decode cX6_numberHere 49 = .ok (.iload_n 2, 1) := by decide +kernel
theorem dX6_numberHere_50 : decode cX6_numberHere 50 = .ok (.invokevirtual 231, 3) := by decide +kernel
theorem dX6_numberHere_53 : decode cX6_numberHere 53 = .ok (.iadd, 1) := by decide +kernel
theorem dX6_numberHere_54 : decode cX6_numberHere 54 = .ok (.bipush 48, 2) := by decide +kernel
theorem dX6_numberHere_56 : decode cX6_numberHere 56 = .ok (.isub, 1) := by decide +kernel
theorem dX6_numberHere_57 : decode cX6_numberHere 57 = .ok (.istore_n 1, 1) := by decide +kernel
theorem dX6_numberHere_58 : decode cX6_numberHere 58 = .ok (.iinc 2 1, 3) := by decide +kernel
theorem dX6_numberHere_61 : decode cX6_numberHere 61 = .ok (.goto (-25), 3) := by decide +kernel
theorem dX6_numberHere_64 : decode cX6_numberHere 64 = .ok (.iload_n 1, 1) := by decide +kernel
theorem dX6_numberHere_65 : decode cX6_numberHere 65 = .ok (.ireturn, 1) := by decide +kernel
theorem dX6_clause_0 : decode cX6_clause 0 = .ok (.aload_n 0, 1) := by decide +kernel
theorem dX6_clause_1 : decode cX6_clause 1 = .ok (.invokevirtual 253, 3) := by decide +kernel
theorem dX6_clause_4 : decode cX6_clause 4 = .ok (.aload_n 0, 1) := by decide +kernel
theorem dX6_clause_5 : decode cX6_clause 5 = .ok (.invokevirtual 256, 3) := by decide +kernel
theorem dX6_clause_8 : decode cX6_clause 8 = .ok (.istore_n 1, 1) := by decide +kernel
theorem dX6_clause_9 : decode cX6_clause 9 = .ok (.iload_n 1, 1) := by decide +kernel
theorem dX6_clause_10 : decode cX6_clause 10 = .ok (.iconst (-1), 1) := by decide +kernel
theorem dX6_clause_11 : decode cX6_clause 11 = .ok (.if_icmp .ne 5, 3) := by decide +kernel
theorem dX6_clause_14 : decode cX6_clause 14 = .ok (.iconst (-1), 1) := by decide +kernel
theorem dX6_clause_15 : decode cX6_clause 15 = .ok (.ireturn, 1) := by decide +kernel
theorem dX6_clause_16 : decode cX6_clause 16 = .ok (.aload_n 0, 1) := by decide +kernel
theorem dX6_clause_17 : decode cX6_clause 17 = .ok (.aload_n 0, 1) := by decide +kernel
theorem dX6_clause_18 : decode cX6_clause 18 = .ok (.getfield 234, 3) := by decide +kernel
theorem dX6_clause_21 : decode cX6_clause 21 = .ok (.putfield 228, 3) := by decide +kernel
theorem dX6_clause_24 : decode cX6_clause 24 = .ok (.iconst 0, 1) := by decide +kernel
theorem dX6_clause_25 : decode cX6_clause 25 = .ok (.istore_n 2, 1) := by decide +kernel
theorem dX6_clause_26 : decode cX6_clause 26 = .ok (.iload_n 2, 1) := by decide +kernel
theorem dX6_clause_27 : decode cX6_clause 27 = .ok (.iload_n 1, 1) := by decide +kernel
theorem dX6_clause_28 : decode cX6_clause 28 = .ok (.invokestatic 259, 3) := by decide +kernel
theorem dX6_clause_31 : decode cX6_clause 31 = .ok (.if_icmp .ge 43, 3) := by decide +kernel
theorem dX6_clause_34 : decode cX6_clause 34 = .ok (.aload_n 0, 1) := by decide +kernel
theorem dX6_clause_35 : decode cX6_clause 35 = .ok (.invokevirtual 253, 3) := by decide +kernel
theorem dX6_clause_38 : decode cX6_clause 38 = .ok (.aload_n 0, 1) := by decide +kernel
theorem dX6_clause_39 : decode cX6_clause 39 = .ok (.getfield 37, 3) := by decide +kernel
theorem dX6_clause_42 : decode cX6_clause 42 = .ok (.iload_n 2, 1) := by decide +kernel
theorem dX6_clause_43 : decode cX6_clause 43 = .ok (.aload_n 0, 1) := by decide +kernel
theorem dX6_clause_44 : decode cX6_clause 44 = .ok (.invokevirtual 262, 3) := by decide +kernel
theorem dX6_clause_47 : decode cX6_clause 47 = .ok (.iastore, 1) := by decide +kernel
theorem dX6_clause_48 : decode cX6_clause 48 = .ok (.aload_n 0, 1) := by decide +kernel
theorem dX6_clause_49 : decode cX6_clause 49 = .ok (.getfield 37, 3) := by decide +kernel
theorem dX6_clause_52 : decode cX6_clause 52 = .ok (.iload_n 2, 1) := by decide +kernel
theorem dX6_clause_53 : decode cX6_clause 53 = .ok (.iaload, 1) := by decide +kernel
theorem dX6_clause_54 : decode cX6_clause 54 = .ok (.iconst (-1), 1) := by decide +kernel
theorem dX6_clause_55 : decode cX6_clause 55 = .ok (.if_icmp .ne 5, 3) := by decide +kernel
theorem dX6_clause_58 : decode cX6_clause 58 = .ok (.iconst (-1), 1) := by decide +kernel
theorem dX6_clause_59 : decode cX6_clause 59 = .ok (.ireturn, 1) := by decide +kernel
theorem dX6_clause_60 : decode cX6_clause 60 = .ok (.aload_n 0, 1) := by decide +kernel
theorem dX6_clause_61 : decode cX6_clause 61 = .ok (.aload_n 0, 1) := by decide +kernel
theorem dX6_clause_62 : decode cX6_clause 62 = .ok (.getfield 234, 3) := by decide +kernel
theorem dX6_clause_65 : decode cX6_clause 65 = .ok (.putfield 228, 3) := by decide +kernel
theorem dX6_clause_68 : decode cX6_clause 68 = .ok (.iinc 2 1, 3) := by decide +kernel
theorem dX6_clause_71 : decode cX6_clause 71 = .ok (.goto (-45), 3) := by decide +kernel
theorem dX6_clause_74 : decode cX6_clause 74 = .ok (.aload_n 0, 1) := by decide +kernel
theorem dX6_clause_75 : decode cX6_clause 75 = .ok (.invokevirtual 253, 3) := by decide +kernel
theorem dX6_clause_78 : decode cX6_clause 78 = .ok (.iload_n 1, 1) := by decide +kernel
theorem dX6_clause_79 : decode cX6_clause 79 = .ok (.ireturn, 1) := by decide +kernel
theorem dX6_isDone_0 : decode cX6_isDone 0 = .ok (.aload_n 0, 1) := by decide +kernel
theorem dX6_isDone_1 : decode cX6_isDone 1 = .ok (.getfield 37, 3) := by decide +kernel
theorem dX6_isDone_4 : decode cX6_isDone 4 = .ok (.iconst 0, 1) := by decide +kernel
theorem dX6_isDone_5 : decode cX6_isDone 5 = .ok (.iaload, 1) := by decide +kernel
theorem dX6_isDone_6 : decode cX6_isDone 6 = .ok (.istore_n 2, 1) := by decide +kernel
theorem dX6_isDone_7 : decode cX6_isDone 7 = .ok (.aload_n 0, 1) := by decide +kernel
theorem dX6_isDone_8 : decode cX6_isDone 8 = .ok (.getfield 37, 3) := by decide +kernel
theorem dX6_isDone_11 : decode cX6_isDone 11 = .ok (.iconst 1, 1) := by decide +kernel
theorem dX6_isDone_12 : decode cX6_isDone 12 = .ok (.iaload, 1) := by decide +kernel
theorem dX6_isDone_13 : decode cX6_isDone 13 = .ok (.istore_n 3, 1) := by decide +kernel
theorem dX6_isDone_14 : decode cX6_isDone 14 = .ok (.iload_n 1, 1) := by decide +kernel
theorem dX6_isDone_15 : decode cX6_isDone 15 = .ok (.tableswitch 107 0 3 #[29, 56, 77, 91], 29) := by decide +kernel
theorem dX6_isDone_44 : decode cX6_isDone 44 = .ok (.aload_n 0, 1) := by decide +kernel
theorem dX6_isDone_45 : decode cX6_isDone 45 = .ok (.iload_n 2, 1) := by decide +kernel
theorem dX6_isDone_46 : decode cX6_isDone 46 = .ok (.iload_n 3, 1) := by decide +kernel
theorem dX6_isDone_47 : decode cX6_isDone 47 = .ok (.aload_n 0, 1) := by decide +kernel
theorem dX6_isDone_48 : decode cX6_isDone 48 = .ok (.getfield 37, 3) := by decide +kernel
theorem dX6_isDone_51 : decode cX6_isDone 51 = .ok (.iconst 2, 1) := by decide +kernel
theorem dX6_isDone_52 : decode cX6_isDone 52 = .ok (.iaload, 1) := by decide +kernel
theorem dX6_isDone_53 : decode cX6_isDone 53 = .ok (.aload_n 0, 1) := by decide +kernel
theorem dX6_isDone_54 : decode cX6_isDone 54 = .ok (.getfield 37, 3) := by decide +kernel
theorem dX6_isDone_57 : decode cX6_isDone 57 = .ok (.iconst 3, 1) := by decide +kernel
theorem dX6_isDone_58 : decode cX6_isDone 58 = .ok (.iaload, 1) := by decide +kernel
theorem dX6_isDone_59 : decode cX6_isDone 59 = .ok (.invokevirtual 265, 3) := by decide +kernel
theorem dX6_isDone_62 : decode cX6_isDone 62 = .ok (.ifCond .lt 7, 3) := by decide +kernel
theorem dX6_isDone_65 : decode cX6_isDone 65 = .ok (.iconst 1, 1) := by decide +kernel
theorem dX6_isDone_66 : decode cX6_isDone 66 = .ok (.goto 4, 3) := by decide +kernel
theorem dX6_isDone_69 : decode cX6_isDone 69 = .ok (.iconst 0, 1) := by decide +kernel
theorem dX6_isDone_70 : decode cX6_isDone 70 = .ok (.ireturn, 1) := by decide +kernel
theorem dX6_isDone_71 : decode cX6_isDone 71 = .ok (.aload_n 0, 1) := by decide +kernel
theorem dX6_isDone_72 : decode cX6_isDone 72 = .ok (.iload_n 2, 1) := by decide +kernel
theorem dX6_isDone_73 : decode cX6_isDone 73 = .ok (.iload_n 3, 1) := by decide +kernel
theorem dX6_isDone_74 : decode cX6_isDone 74 = .ok (.aload_n 0, 1) := by decide +kernel
theorem dX6_isDone_75 : decode cX6_isDone 75 = .ok (.getfield 37, 3) := by decide +kernel
theorem dX6_isDone_78 : decode cX6_isDone 78 = .ok (.iconst 2, 1) := by decide +kernel
theorem dX6_isDone_79 : decode cX6_isDone 79 = .ok (.iaload, 1) := by decide +kernel
theorem dX6_isDone_80 : decode cX6_isDone 80 = .ok (.invokevirtual 268, 3) := by decide +kernel
theorem dX6_isDone_83 : decode cX6_isDone 83 = .ok (.ifCond .lt 7, 3) := by decide +kernel
theorem dX6_isDone_86 : decode cX6_isDone 86 = .ok (.iconst 1, 1) := by decide +kernel
theorem dX6_isDone_87 : decode cX6_isDone 87 = .ok (.goto 4, 3) := by decide +kernel
theorem dX6_isDone_90 : decode cX6_isDone 90 = .ok (.iconst 0, 1) := by decide +kernel
theorem dX6_isDone_91 : decode cX6_isDone 91 = .ok (.ireturn, 1) := by decide +kernel
theorem dX6_isDone_92 : decode cX6_isDone 92 = .ok (.aload_n 0, 1) := by decide +kernel
theorem dX6_isDone_93 : decode cX6_isDone 93 = .ok (.iload_n 2, 1) := by decide +kernel
theorem dX6_isDone_94 : decode cX6_isDone 94 = .ok (.invokevirtual 271, 3) := by decide +kernel
theorem dX6_isDone_97 : decode cX6_isDone 97 = .ok (.ifCond .lt 7, 3) := by decide +kernel
theorem dX6_isDone_100 : decode cX6_isDone 100 = .ok (.iconst 1, 1) := by decide +kernel
theorem dX6_isDone_101 : decode cX6_isDone 101 = .ok (.goto 4, 3) := by decide +kernel
theorem dX6_isDone_104 : decode cX6_isDone 104 = .ok (.iconst 0, 1) := by decide +kernel
theorem dX6_isDone_105 : decode cX6_isDone 105 = .ok (.ireturn, 1) := by decide +kernel
theorem dX6_isDone_106 : decode cX6_isDone 106 = .ok (.aload_n 0, 1) := by decide +kernel
theorem dX6_isDone_107 : decode cX6_isDone 107 = .ok (.iload_n 2, 1) := by decide +kernel
theorem dX6_isDone_108 : decode cX6_isDone 108 = .ok (.iconst 2, 1) := by decide +kernel
theorem dX6_isDone_109 : decode cX6_isDone 109 = .ok (.iload_n 3, 1) := by decide +kernel
theorem dX6_isDone_110 : decode cX6_isDone 110 = .ok (.invokevirtual 274, 3) := by decide +kernel
theorem dX6_isDone_113 : decode cX6_isDone 113 = .ok (.ifCond .lt 7, 3) := by decide +kernel
theorem dX6_isDone_116 : decode cX6_isDone 116 = .ok (.iconst 1, 1) := by decide +kernel
theorem dX6_isDone_117 : decode cX6_isDone 117 = .ok (.goto 4, 3) := by decide +kernel
theorem dX6_isDone_120 : decode cX6_isDone 120 = .ok (.iconst 0, 1) := by decide +kernel
theorem dX6_isDone_121 : decode cX6_isDone 121 = .ok (.ireturn, 1) := by decide +kernel
theorem dX6_isDone_122 : decode cX6_isDone 122 = .ok (.aload_n 0, 1) := by decide +kernel
theorem dX6_isDone_123 : decode cX6_isDone 123 = .ok (.iload_n 2, 1) := by decide +kernel
theorem dX6_isDone_124 : decode cX6_isDone 124 = .ok (.iconst 1, 1) := by decide +kernel
theorem dX6_isDone_125 : decode cX6_isDone 125 = .ok (.iload_n 3, 1) := by decide +kernel
theorem dX6_isDone_126 : decode cX6_isDone 126 = .ok (.invokevirtual 274, 3) := by decide +kernel
theorem dX6_isDone_129 : decode cX6_isDone 129 = .ok (.ifCond .lt 7, 3) := by decide +kernel
theorem dX6_isDone_132 : decode cX6_isDone 132 = .ok (.iconst 1, 1) := by decide +kernel
theorem dX6_isDone_133 : decode cX6_isDone 133 = .ok (.goto 4, 3) := by decide +kernel
theorem dX6_isDone_136 : decode cX6_isDone 136 = .ok (.iconst 0, 1) := by decide +kernel
theorem dX6_isDone_137 : decode cX6_isDone 137 = .ok (.ireturn, 1) := by decide +kernel
theorem dX6_goes_0 : decode cX6_goes 0 = .ok (.aload_n 0, 1) := by decide +kernel
theorem dX6_goes_1 : decode cX6_goes 1 = .ok (.iconst 0, 1) := by decide +kernel
theorem dX6_goes_2 : decode cX6_goes 2 = .ok (.putfield 228, 3) := by decide +kernel
theorem dX6_goes_5 : decode cX6_goes 5 = .ok (.iconst 0, 1) := by decide +kernel
theorem dX6_goes_6 : decode cX6_goes 6 = .ok (.istore_n 2, 1) := by decide +kernel
theorem dX6_goes_7 : decode cX6_goes 7 = .ok (.aload_n 0, 1) := by decide +kernel
theorem dX6_goes_8 : decode cX6_goes 8 = .ok (.invokevirtual 277, 3) := by decide +kernel
theorem dX6_goes_11 : decode cX6_goes 11 = .ok (.istore_n 3, 1) := by decide +kernel
theorem dX6_goes_12 : decode cX6_goes 12 = .ok (.iload_n 3, 1) := by decide +kernel
theorem dX6_goes_13 : decode cX6_goes 13 = .ok (.iconst (-1), 1) := by decide +kernel
theorem dX6_goes_14 : decode cX6_goes 14 = .ok (.if_icmp .ne 10, 3) := by decide +kernel
theorem dX6_goes_17 : decode cX6_goes 17 = .ok (.iconst (-1), 1) := by decide +kernel
theorem dX6_goes_18 : decode cX6_goes 18 = .ok (.aload_n 0, 1) := by decide +kernel
theorem dX6_goes_19 : decode cX6_goes 19 = .ok (.getfield 228, 3) := by decide +kernel
theorem dX6_goes_22 : decode cX6_goes 22 = .ok (.isub, 1) := by decide +kernel
theorem dX6_goes_23 : decode cX6_goes 23 = .ok (.ireturn, 1) := by decide +kernel
theorem dX6_goes_24 : decode cX6_goes 24 = .ok (.iload_n 2, 1) := by decide +kernel
theorem dX6_goes_25 : decode cX6_goes 25 = .ok (.iload_n 1, 1) := by decide +kernel
theorem dX6_goes_26 : decode cX6_goes 26 = .ok (.ifCond .eq 15, 3) := by decide +kernel
theorem dX6_goes_29 : decode cX6_goes 29 = .ok (.aload_n 0, 1) := by decide +kernel
theorem dX6_goes_30 : decode cX6_goes 30 = .ok (.iload_n 3, 1) := by decide +kernel
theorem dX6_goes_31 : decode cX6_goes 31 = .ok (.invokevirtual 280, 3) := by decide +kernel
theorem dX6_goes_34 : decode cX6_goes 34 = .ok (.ifCond .eq 7, 3) := by decide +kernel
theorem dX6_goes_37 : decode cX6_goes 37 = .ok (.iconst 1, 1) := by decide +kernel
theorem dX6_goes_38 : decode cX6_goes 38 = .ok (.goto 4, 3) := by decide +kernel
theorem dX6_goes_41 : decode cX6_goes 41 = .ok (.iconst 0, 1) := by decide +kernel
theorem dX6_goes_42 : decode cX6_goes 42 = .ok (.iadd, 1) := by decide +kernel
theorem dX6_goes_43 : decode cX6_goes 43 = .ok (.istore_n 2, 1) := by decide +kernel
theorem dX6_goes_44 : decode cX6_goes 44 = .ok (.aload_n 0, 1) := by decide +kernel
theorem dX6_goes_45 : decode cX6_goes 45 = .ok (.getfield 228, 3) := by decide +kernel
theorem dX6_goes_48 : decode cX6_goes 48 = .ok (.aload_n 0, 1) := by decide +kernel
theorem dX6_goes_49 : decode cX6_goes 49 = .ok (.getfield 225, 3) := by decide +kernel
theorem dX6_goes_52 : decode cX6_goes 52 = .ok (.if_icmp .ne 5, 3) := by decide +kernel
theorem dX6_goes_55 : decode cX6_goes 55 = .ok (.iload_n 2, 1) := by decide +kernel
theorem dX6_goes_56 : decode cX6_goes 56 = .ok (.ireturn, 1) := by decide +kernel
theorem dX6_goes_57 : decode cX6_goes 57 = .ok (.aload_n 0, 1) := by decide +kernel
theorem dX6_goes_58 : decode cX6_goes 58 = .ok (.aload_n 0, 1) := by decide +kernel
theorem dX6_goes_59 : decode cX6_goes 59 = .ok (.getfield 228, 3) := by decide +kernel
theorem dX6_goes_62 : decode cX6_goes 62 = .ok (.invokevirtual 231, 3) := by decide +kernel
theorem dX6_goes_65 : decode cX6_goes 65 = .ok (.bipush 59, 2) := by decide +kernel
theorem dX6_goes_67 : decode cX6_goes 67 = .ok (.if_icmp .eq 10, 3) := by decide +kernel
theorem dX6_goes_70 : decode cX6_goes 70 = .ok (.iconst (-1), 1) := by decide +kernel
theorem dX6_goes_71 : decode cX6_goes 71 = .ok (.aload_n 0, 1) := by decide +kernel
theorem dX6_goes_72 : decode cX6_goes 72 = .ok (.getfield 228, 3) := by decide +kernel
theorem dX6_goes_75 : decode cX6_goes 75 = .ok (.isub, 1) := by decide +kernel
theorem dX6_goes_76 : decode cX6_goes 76 = .ok (.ireturn, 1) := by decide +kernel
theorem dX6_goes_77 : decode cX6_goes 77 = .ok (.aload_n 0, 1) := by decide +kernel
theorem dX6_goes_78 : decode cX6_goes 78 = .ok (.dup, 1) := by decide +kernel
theorem dX6_goes_79 : decode cX6_goes 79 = .ok (.getfield 228, 3) := by decide +kernel
theorem dX6_goes_82 : decode cX6_goes 82 = .ok (.iconst 1, 1) := by decide +kernel
theorem dX6_goes_83 : decode cX6_goes 83 = .ok (.iadd, 1) := by decide +kernel
theorem dX6_goes_84 : decode cX6_goes 84 = .ok (.putfield 228, 3) := by decide +kernel
theorem dX6_goes_87 : decode cX6_goes 87 = .ok (.goto (-80), 3) := by decide +kernel
theorem dX6_text_0 : decode cX6_text 0 = .ok (.aload_n 0, 1) := by decide +kernel
theorem dX6_text_1 : decode cX6_text 1 = .ok (.iconst 0, 1) := by decide +kernel
theorem dX6_text_2 : decode cX6_text 2 = .ok (.invokevirtual 283, 3) := by decide +kernel
theorem dX6_text_5 : decode cX6_text 5 = .ok (.istore_n 1, 1) := by decide +kernel
theorem dX6_text_6 : decode cX6_text 6 = .ok (.iload_n 1, 1) := by decide +kernel
theorem dX6_text_7 : decode cX6_text 7 = .ok (.ifCond .ge 12, 3) := by decide +kernel
theorem dX6_text_10 : decode cX6_text 10 = .ok (.bipush (-100), 2) := by decide +kernel
theorem dX6_text_12 : decode cX6_text 12 = .ok (.iload_n 1, 1) := by decide +kernel
theorem dX6_text_13 : decode cX6_text 13 = .ok (.iadd, 1) := by decide +kernel
theorem dX6_text_14 : decode cX6_text 14 = .ok (.iconst 1, 1) := by decide +kernel
theorem dX6_text_15 : decode cX6_text 15 = .ok (.iadd, 1) := by decide +kernel
theorem dX6_text_16 : decode cX6_text 16 = .ok (.goto 8, 3) := by decide +kernel
theorem dX6_text_19 : decode cX6_text 19 = .ok (.aload_n 0, 1) := by decide +kernel
theorem dX6_text_20 : decode cX6_text 20 = .ok (.iconst 1, 1) := by decide +kernel
theorem dX6_text_21 : decode cX6_text 21 = .ok (.invokevirtual 283, 3) := by decide +kernel
theorem dX6_text_24 : decode cX6_text 24 = .ok (.istore_n 1, 1) := by decide +kernel
theorem dX6_text_25 : decode cX6_text 25 = .ok (.aload_n 0, 1) := by decide +kernel
theorem dX6_text_26 : decode cX6_text 26 = .ok (.iconst 0, 1) := by decide +kernel
theorem dX6_text_27 : decode cX6_text 27 = .ok (.putfield 225, 3) := by decide +kernel
theorem dX6_text_30 : decode cX6_text 30 = .ok (.iload_n 1, 1) := by decide +kernel
theorem dX6_text_31 : decode cX6_text 31 = .ok (.ireturn, 1) := by decide +kernel
theorem dX6_image_0 : decode cX6_image 0 = .ok (.aload_n 0, 1) := by decide +kernel
theorem dX6_image_1 : decode cX6_image 1 = .ok (.getfield 11, 3) := by decide +kernel
theorem dX6_image_4 : decode cX6_image 4 = .ok (.iconst 0, 1) := by decide +kernel
theorem dX6_image_5 : decode cX6_image 5 = .ok (.aload_n 0, 1) := by decide +kernel
theorem dX6_image_6 : decode cX6_image 6 = .ok (.getfield 15, 3) := by decide +kernel
theorem dX6_image_9 : decode cX6_image 9 = .ok (.iconst 0, 1) := by decide +kernel
theorem dX6_image_10 : decode cX6_image 10 = .ok (.bipush 69, 2) := by decide +kernel
theorem dX6_image_12 : decode cX6_image 12 = .ok (.invokestatic 287, 3) := by decide +kernel
theorem dX6_image_15 : decode cX6_image 15 = .ok (.aload_n 0, 1) := by decide +kernel
theorem dX6_image_16 : decode cX6_image 16 = .ok (.iconst 1, 1) := by decide +kernel
theorem dX6_image_17 : decode cX6_image 17 = .ok (.putfield 293, 3) := by decide +kernel
theorem dX6_image_20 : decode cX6_image 20 = .ok (.aload_n 0, 1) := by decide +kernel
theorem dX6_image_21 : decode cX6_image 21 = .ok (.getfield 11, 3) := by decide +kernel
theorem dX6_image_24 : decode cX6_image 24 = .ok (.bipush 66, 2) := by decide +kernel
theorem dX6_image_26 : decode cX6_image 26 = .ok (.iaload, 1) := by decide +kernel
theorem dX6_image_27 : decode cX6_image 27 = .ok (.ireturn, 1) := by decide +kernel
theorem dX6_back_0 : decode cX6_back 0 = .ok (.aload_n 0, 1) := by decide +kernel
theorem dX6_back_1 : decode cX6_back 1 = .ok (.getfield 293, 3) := by decide +kernel
theorem dX6_back_4 : decode cX6_back 4 = .ok (.ifCond .ne 6, 3) := by decide +kernel
theorem dX6_back_7 : decode cX6_back 7 = .ok (.bipush (-3), 2) := by decide +kernel
theorem dX6_back_9 : decode cX6_back 9 = .ok (.ireturn, 1) := by decide +kernel
theorem dX6_back_10 : decode cX6_back 10 = .ok (.aload_n 0, 1) := by decide +kernel
theorem dX6_back_11 : decode cX6_back 11 = .ok (.getfield 15, 3) := by decide +kernel
theorem dX6_back_14 : decode cX6_back 14 = .ok (.iconst 0, 1) := by decide +kernel
theorem dX6_back_15 : decode cX6_back 15 = .ok (.aload_n 0, 1) := by decide +kernel
theorem dX6_back_16 : decode cX6_back 16 = .ok (.getfield 11, 3) := by decide +kernel
theorem dX6_back_19 : decode cX6_back 19 = .ok (.iconst 0, 1) := by decide +kernel
theorem dX6_back_20 : decode cX6_back 20 = .ok (.bipush 69, 2) := by decide +kernel
theorem dX6_back_22 : decode cX6_back 22 = .ok (.invokestatic 287, 3) := by decide +kernel
theorem dX6_back_25 : decode cX6_back 25 = .ok (.aload_n 0, 1) := by decide +kernel
theorem dX6_back_26 : decode cX6_back 26 = .ok (.getfield 11, 3) := by decide +kernel
theorem dX6_back_29 : decode cX6_back 29 = .ok (.bipush 66, 2) := by decide +kernel
theorem dX6_back_31 : decode cX6_back 31 = .ok (.iaload, 1) := by decide +kernel
theorem dX6_back_32 : decode cX6_back 32 = .ok (.ireturn, 1) := by decide +kernel
theorem dX6_load_0 : decode cX6_load 0 = .ok (.iload_n 1, 1) := by decide +kernel
theorem dX6_load_1 : decode cX6_load 1 = .ok (.invokestatic 192, 3) := by decide +kernel
theorem dX6_load_4 : decode cX6_load 4 = .ok (.ifCond .eq 23, 3) := by decide +kernel
theorem dX6_load_7 : decode cX6_load 7 = .ok (.iload_n 2, 1) := by decide +kernel
theorem dX6_load_8 : decode cX6_load 8 = .ok (.invokestatic 122, 3) := by decide +kernel
theorem dX6_load_11 : decode cX6_load 11 = .ok (.ifCond .eq 16, 3) := by decide +kernel
theorem dX6_load_14 : decode cX6_load 14 = .ok (.iload 4, 2) := by decide +kernel
theorem dX6_load_16 : decode cX6_load 16 = .ok (.i2l, 1) := by decide +kernel
theorem dX6_load_17 : decode cX6_load 17 = .ok (.lconst 0, 1) := by decide +kernel
theorem dX6_load_18 : decode cX6_load 18 = .ok (.ldc2_w 297, 3) := by decide +kernel
theorem dX6_load_21 : decode cX6_load 21 = .ok (.invokestatic 49, 3) := by decide +kernel
theorem dX6_load_24 : decode cX6_load 24 = .ok (.ifCond .ne 6, 3) := by decide +kernel
theorem dX6_load_27 : decode cX6_load 27 = .ok (.bipush (-2), 2) := by decide +kernel
theorem dX6_load_29 : decode cX6_load 29 = .ok (.ireturn, 1) := by decide +kernel
theorem dX6_load_30 : decode cX6_load 30 = .ok (.aload_n 0, 1) := by decide +kernel
theorem dX6_load_31 : decode cX6_load 31 = .ok (.getfield 18, 3) := by decide +kernel
theorem dX6_load_34 : decode cX6_load 34 = .ok (.iload_n 1, 1) := by decide +kernel
theorem dX6_load_35 : decode cX6_load 35 = .ok (.iaload, 1) := by decide +kernel
theorem dX6_load_36 : decode cX6_load 36 = .ok (.iconst (-1), 1) := by decide +kernel
theorem dX6_load_37 : decode cX6_load 37 = .ok (.if_icmp .eq 16, 3) := by decide +kernel
theorem dX6_load_40 : decode cX6_load 40 = .ok (.aload_n 0, 1) := by decide +kernel
theorem dX6_load_41 : decode cX6_load 41 = .ok (.getfield 18, 3) := by decide +kernel
theorem dX6_load_44 : decode cX6_load 44 = .ok (.iload_n 1, 1) := by decide +kernel
theorem dX6_load_45 : decode cX6_load 45 = .ok (.iaload, 1) := by decide +kernel
theorem dX6_load_46 : decode cX6_load 46 = .ok (.iload_n 2, 1) := by decide +kernel
theorem dX6_load_47 : decode cX6_load 47 = .ok (.if_icmp .eq 6, 3) := by decide +kernel
theorem dX6_load_50 : decode cX6_load 50 = .ok (.bipush (-13), 2) := by decide +kernel
theorem dX6_load_52 : decode cX6_load 52 = .ok (.ireturn, 1) := by decide +kernel
theorem dX6_load_53 : decode cX6_load 53 = .ok (.aload_n 0, 1) := by decide +kernel
theorem dX6_load_54 : decode cX6_load 54 = .ok (.getfield 18, 3) := by decide +kernel
theorem dX6_load_57 : decode cX6_load 57 = .ok (.iload_n 1, 1) := by decide +kernel
theorem dX6_load_58 : decode cX6_load 58 = .ok (.iaload, 1) := by decide +kernel
theorem dX6_load_59 : decode cX6_load 59 = .ok (.iconst (-1), 1) := by decide +kernel
theorem dX6_load_60 : decode cX6_load 60 = .ok (.if_icmp .ne 6, 3) := by decide +kernel
theorem dX6_load_63 : decode cX6_load 63 = .ok (.bipush (-11), 2) := by decide +kernel
theorem dX6_load_65 : decode cX6_load 65 = .ok (.ireturn, 1) := by decide +kernel
theorem dX6_load_66 : decode cX6_load 66 = .ok (.iconst 0, 1) := by decide +kernel
theorem dX6_load_67 : decode cX6_load 67 = .ok (.istore 5, 2) := by decide +kernel
theorem dX6_load_69 : decode cX6_load 69 = .ok (.iconst 0, 1) := by decide +kernel
theorem dX6_load_70 : decode cX6_load 70 = .ok (.istore 6, 2) := by decide +kernel
theorem dX6_load_72 : decode cX6_load 72 = .ok (.iload 6, 2) := by decide +kernel
theorem dX6_load_74 : decode cX6_load 74 = .ok (.iload 4, 2) := by decide +kernel
theorem dX6_load_76 : decode cX6_load 76 = .ok (.if_icmp .ge 102, 3) := by decide +kernel
theorem dX6_load_79 : decode cX6_load 79 = .ok (.iload_n 3, 1) := by decide +kernel
theorem dX6_load_80 : decode cX6_load 80 = .ok (.i2l, 1) := by decide +kernel
theorem dX6_load_81 : decode cX6_load 81 = .ok (.ldc2_w 87, 3) := by decide +kernel
theorem dX6_load_84 : decode cX6_load 84 = .ok (.iload 6, 2) := by decide +kernel
theorem dX6_load_86 : decode cX6_load 86 = .ok (.i2l, 1) := by decide +kernel
theorem dX6_load_87 : decode cX6_load 87 = .ok (.lmul, 1) := by decide +kernel
theorem dX6_load_88 : decode cX6_load 88 = .ok (.ladd, 1) := by decide +kernel
theorem dX6_load_89 : decode cX6_load 89 = .ok (.lstore 7, 2) := by decide +kernel
theorem dX6_load_91 : decode cX6_load 91 = .ok (.lload 7, 2) := by decide +kernel
theorem dX6_load_93 : decode cX6_load 93 = .ok (.lconst 0, 1) := by decide +kernel
theorem dX6_load_94 : decode cX6_load 94 = .ok (.aload_n 0, 1) := by decide +kernel
theorem dX6_load_95 : decode cX6_load 95 = .ok (.getfield 21, 3) := by decide +kernel
theorem dX6_load_98 : decode cX6_load 98 = .ok (.iload_n 1, 1) := by decide +kernel
theorem dX6_load_99 : decode cX6_load 99 = .ok (.iaload, 1) := by decide +kernel
theorem dX6_load_100 : decode cX6_load 100 = .ok (.iconst 4, 1) := by decide +kernel
theorem dX6_load_101 : decode cX6_load 101 = .ok (.isub, 1) := by decide +kernel
theorem dX6_load_102 : decode cX6_load 102 = .ok (.i2l, 1) := by decide +kernel
theorem dX6_load_103 : decode cX6_load 103 = .ok (.invokestatic 49, 3) := by decide +kernel
theorem dX6_load_106 : decode cX6_load 106 = .ok (.ifCond .ne 6, 3) := by decide +kernel
theorem dX6_load_109 : decode cX6_load 109 = .ok (.bipush (-12), 2) := by decide +kernel
theorem dX6_load_111 : decode cX6_load 111 = .ok (.ireturn, 1) := by decide +kernel
theorem dX6_load_112 : decode cX6_load 112 = .ok (.lload 7, 2) := by decide +kernel
theorem dX6_load_114 : decode cX6_load 114 = .ok (.l2i, 1) := by decide +kernel
theorem dX6_load_115 : decode cX6_load 115 = .ok (.istore 9, 2) := by decide +kernel
theorem dX6_load_117 : decode cX6_load 117 = .ok (.iload 5, 2) := by decide +kernel
theorem dX6_load_119 : decode cX6_load 119 = .ok (.aload_n 0, 1) := by decide +kernel
theorem dX6_load_120 : decode cX6_load 120 = .ok (.aload_n 0, 1) := by decide +kernel
theorem dX6_load_121 : decode cX6_load 121 = .ok (.iload_n 1, 1) := by decide +kernel
theorem dX6_load_122 : decode cX6_load 122 = .ok (.iload 9, 2) := by decide +kernel
theorem dX6_load_124 : decode cX6_load 124 = .ok (.invokevirtual 186, 3) := by decide +kernel
theorem dX6_load_127 : decode cX6_load 127 = .ok (.l2i, 1) := by decide +kernel
theorem dX6_load_128 : decode cX6_load 128 = .ok (.aload_n 0, 1) := by decide +kernel
theorem dX6_load_129 : decode cX6_load 129 = .ok (.iload_n 1, 1) := by decide +kernel
theorem dX6_load_130 : decode cX6_load 130 = .ok (.iload 9, 2) := by decide +kernel
theorem dX6_load_132 : decode cX6_load 132 = .ok (.iconst 1, 1) := by decide +kernel
theorem dX6_load_133 : decode cX6_load 133 = .ok (.iadd, 1) := by decide +kernel
theorem dX6_load_134 : decode cX6_load 134 = .ok (.invokevirtual 186, 3) := by decide +kernel
theorem dX6_load_137 : decode cX6_load 137 = .ok (.l2i, 1) := by decide +kernel
theorem dX6_load_138 : decode cX6_load 138 = .ok (.aload_n 0, 1) := by decide +kernel
theorem dX6_load_139 : decode cX6_load 139 = .ok (.iload_n 1, 1) := by decide +kernel
theorem dX6_load_140 : decode cX6_load 140 = .ok (.iload 9, 2) := by decide +kernel
theorem dX6_load_142 : decode cX6_load 142 = .ok (.iconst 2, 1) := by decide +kernel
theorem dX6_load_143 : decode cX6_load 143 = .ok (.iadd, 1) := by decide +kernel
theorem dX6_load_144 : decode cX6_load 144 = .ok (.invokevirtual 186, 3) := by decide +kernel
theorem dX6_load_147 : decode cX6_load 147 = .ok (.l2i, 1) := by decide +kernel
theorem dX6_load_148 : decode cX6_load 148 = .ok (.aload_n 0, 1) := by decide +kernel
theorem dX6_load_149 : decode cX6_load 149 = .ok (.iload_n 1, 1) := by decide +kernel
theorem dX6_load_150 : decode cX6_load 150 = .ok (.iload 9, 2) := by decide +kernel
theorem dX6_load_152 : decode cX6_load 152 = .ok (.iconst 3, 1) := by decide +kernel
theorem dX6_load_153 : decode cX6_load 153 = .ok (.iadd, 1) := by decide +kernel
theorem dX6_load_154 : decode cX6_load 154 = .ok (.invokevirtual 186, 3) := by decide +kernel
theorem dX6_load_157 : decode cX6_load 157 = .ok (.l2i, 1) := by decide +kernel
theorem dX6_load_158 : decode cX6_load 158 = .ok (.invokevirtual 265, 3) := by decide +kernel
theorem dX6_load_161 : decode cX6_load 161 = .ok (.ifCond .lt 7, 3) := by decide +kernel
theorem dX6_load_164 : decode cX6_load 164 = .ok (.iconst 1, 1) := by decide +kernel
theorem dX6_load_165 : decode cX6_load 165 = .ok (.goto 4, 3) := by decide +kernel
theorem dX6_load_168 : decode cX6_load 168 = .ok (.iconst 0, 1) := by decide +kernel
theorem dX6_load_169 : decode cX6_load 169 = .ok (.iadd, 1) := by decide +kernel
theorem dX6_load_170 : decode cX6_load 170 = .ok (.istore 5, 2) := by decide +kernel
theorem dX6_load_172 : decode cX6_load 172 = .ok (.iinc 6 1, 3) := by decide +kernel
theorem dX6_load_175 : decode cX6_load 175 = .ok (.goto (-103), 3) := by decide +kernel
theorem dX6_load_178 : decode cX6_load 178 = .ok (.iload 5, 2) := by decide +kernel
theorem dX6_load_180 : decode cX6_load 180 = .ok (.ireturn, 1) := by decide +kernel
theorem dX6_pairsOfAll_0 : decode cX6_pairsOfAll 0 = .ok (.iconst 0, 1) := by decide +kernel
theorem dX6_pairsOfAll_1 : decode cX6_pairsOfAll 1 = .ok (.istore_n 1, 1) := by decide +kernel
theorem dX6_pairsOfAll_2 : decode cX6_pairsOfAll 2 = .ok (.iconst 0, 1) := by decide +kernel
theorem dX6_pairsOfAll_3 : decode cX6_pairsOfAll 3 = .ok (.istore_n 2, 1) := by decide +kernel
theorem dX6_pairsOfAll_4 : decode cX6_pairsOfAll 4 = .ok (.iload_n 2, 1) := by decide +kernel
theorem dX6_pairsOfAll_5 : decode cX6_pairsOfAll 5 = .ok (.aload_n 0, 1) := by decide +kernel
theorem dX6_pairsOfAll_6 : decode cX6_pairsOfAll 6 = .ok (.getfield 11, 3) := by decide +kernel
theorem dX6_pairsOfAll_9 : decode cX6_pairsOfAll 9 = .ok (.bipush 66, 2) := by decide +kernel
theorem dX6_pairsOfAll_11 : decode cX6_pairsOfAll 11 = .ok (.iaload, 1) := by decide +kernel
theorem dX6_pairsOfAll_12 : decode cX6_pairsOfAll 12 = .ok (.if_icmp .ge 18, 3) := by decide +kernel
theorem dX6_pairsOfAll_15 : decode cX6_pairsOfAll 15 = .ok (.iload_n 1, 1) := by decide +kernel
theorem dX6_pairsOfAll_16 : decode cX6_pairsOfAll 16 = .ok (.aload_n 0, 1) := by decide +kernel
theorem dX6_pairsOfAll_17 : decode cX6_pairsOfAll 17 = .ok (.iload_n 2, 1) := by decide +kernel
theorem dX6_pairsOfAll_18 : decode cX6_pairsOfAll 18 = .ok (.iconst 4, 1) := by decide +kernel
theorem dX6_pairsOfAll_19 : decode cX6_pairsOfAll 19 = .ok (.invokevirtual 77, 3) := by decide +kernel
theorem dX6_pairsOfAll_22 : decode cX6_pairsOfAll 22 = .ok (.iadd, 1) := by decide +kernel
theorem dX6_pairsOfAll_23 : decode cX6_pairsOfAll 23 = .ok (.istore_n 1, 1) := by decide +kernel
theorem dX6_pairsOfAll_24 : decode cX6_pairsOfAll 24 = .ok (.iinc 2 1, 3) := by decide +kernel
theorem dX6_pairsOfAll_27 : decode cX6_pairsOfAll 27 = .ok (.goto (-23), 3) := by decide +kernel
theorem dX6_pairsOfAll_30 : decode cX6_pairsOfAll 30 = .ok (.iload_n 1, 1) := by decide +kernel
theorem dX6_pairsOfAll_31 : decode cX6_pairsOfAll 31 = .ok (.ireturn, 1) := by decide +kernel
theorem dX6_jammed_0 : decode cX6_jammed 0 = .ok (.iconst 0, 1) := by decide +kernel
theorem dX6_jammed_1 : decode cX6_jammed 1 = .ok (.istore_n 1, 1) := by decide +kernel
theorem dX6_jammed_2 : decode cX6_jammed 2 = .ok (.iconst 0, 1) := by decide +kernel
theorem dX6_jammed_3 : decode cX6_jammed 3 = .ok (.istore_n 2, 1) := by decide +kernel
theorem dX6_jammed_4 : decode cX6_jammed 4 = .ok (.iload_n 2, 1) := by decide +kernel
theorem dX6_jammed_5 : decode cX6_jammed 5 = .ok (.aload_n 0, 1) := by decide +kernel
theorem dX6_jammed_6 : decode cX6_jammed 6 = .ok (.getfield 11, 3) := by decide +kernel
theorem dX6_jammed_9 : decode cX6_jammed 9 = .ok (.bipush 66, 2) := by decide +kernel
theorem dX6_jammed_11 : decode cX6_jammed 11 = .ok (.iaload, 1) := by decide +kernel
theorem dX6_jammed_12 : decode cX6_jammed 12 = .ok (.if_icmp .ge 26, 3) := by decide +kernel
theorem dX6_jammed_15 : decode cX6_jammed 15 = .ok (.iload_n 1, 1) := by decide +kernel
theorem dX6_jammed_16 : decode cX6_jammed 16 = .ok (.aload_n 0, 1) := by decide +kernel
theorem dX6_jammed_17 : decode cX6_jammed 17 = .ok (.iload_n 2, 1) := by decide +kernel
theorem dX6_jammed_18 : decode cX6_jammed 18 = .ok (.invokevirtual 106, 3) := by decide +kernel
theorem dX6_jammed_21 : decode cX6_jammed 21 = .ok (.iconst (-1), 1) := by decide +kernel
theorem dX6_jammed_22 : decode cX6_jammed 22 = .ok (.if_icmp .ne 7, 3) := by decide +kernel
theorem dX6_jammed_25 : decode cX6_jammed 25 = .ok (.iconst 0, 1) := by decide +kernel
theorem dX6_jammed_26 : decode cX6_jammed 26 = .ok (.goto 4, 3) := by decide +kernel
theorem dX6_jammed_29 : decode cX6_jammed 29 = .ok (.iconst 1, 1) := by decide +kernel
theorem dX6_jammed_30 : decode cX6_jammed 30 = .ok (.iadd, 1) := by decide +kernel
theorem dX6_jammed_31 : decode cX6_jammed 31 = .ok (.istore_n 1, 1) := by decide +kernel
theorem dX6_jammed_32 : decode cX6_jammed 32 = .ok (.iinc 2 1, 3) := by decide +kernel
theorem dX6_jammed_35 : decode cX6_jammed 35 = .ok (.goto (-31), 3) := by decide +kernel
theorem dX6_jammed_38 : decode cX6_jammed 38 = .ok (.iload_n 1, 1) := by decide +kernel
theorem dX6_jammed_39 : decode cX6_jammed 39 = .ok (.ireturn, 1) := by decide +kernel
theorem dX6_count_0 : decode cX6_count 0 = .ok (.iload_n 1, 1) := by decide +kernel
theorem dX6_count_1 : decode cX6_count 1 = .ok (.tableswitch 78 0 5 #[39, 47, 55, 60, 65, 70], 39) := by decide +kernel
theorem dX6_count_40 : decode cX6_count 40 = .ok (.aload_n 0, 1) := by decide +kernel
theorem dX6_count_41 : decode cX6_count 41 = .ok (.getfield 11, 3) := by decide +kernel
theorem dX6_count_44 : decode cX6_count 44 = .ok (.bipush 66, 2) := by decide +kernel
theorem dX6_count_46 : decode cX6_count 46 = .ok (.iaload, 1) := by decide +kernel
theorem dX6_count_47 : decode cX6_count 47 = .ok (.ireturn, 1) := by decide +kernel
theorem dX6_count_48 : decode cX6_count 48 = .ok (.aload_n 0, 1) := by decide +kernel
theorem dX6_count_49 : decode cX6_count 49 = .ok (.getfield 11, 3) := by decide +kernel
theorem dX6_count_52 : decode cX6_count 52 = .ok (.bipush 68, 2) := by decide +kernel
theorem dX6_count_54 : decode cX6_count 54 = .ok (.iaload, 1) := by decide +kernel
theorem dX6_count_55 : decode cX6_count 55 = .ok (.ireturn, 1) := by decide +kernel
theorem dX6_count_56 : decode cX6_count 56 = .ok (.aload_n 0, 1) := by decide +kernel
theorem dX6_count_57 : decode cX6_count 57 = .ok (.getfield 225, 3) := by decide +kernel
theorem dX6_count_60 : decode cX6_count 60 = .ok (.ireturn, 1) := by decide +kernel
theorem dX6_count_61 : decode cX6_count 61 = .ok (.aload_n 0, 1) := by decide +kernel
theorem dX6_count_62 : decode cX6_count 62 = .ok (.invokevirtual 299, 3) := by decide +kernel
theorem dX6_count_65 : decode cX6_count 65 = .ok (.ireturn, 1) := by decide +kernel
theorem dX6_count_66 : decode cX6_count 66 = .ok (.aload_n 0, 1) := by decide +kernel
theorem dX6_count_67 : decode cX6_count 67 = .ok (.invokevirtual 302, 3) := by decide +kernel
theorem dX6_count_70 : decode cX6_count 70 = .ok (.ireturn, 1) := by decide +kernel
theorem dX6_count_71 : decode cX6_count 71 = .ok (.aload_n 0, 1) := by decide +kernel
theorem dX6_count_72 : decode cX6_count 72 = .ok (.getfield 11, 3) := by decide +kernel
theorem dX6_count_75 : decode cX6_count 75 = .ok (.bipush 67, 2) := by decide +kernel
theorem dX6_count_77 : decode cX6_count 77 = .ok (.iaload, 1) := by decide +kernel
theorem dX6_count_78 : decode cX6_count 78 = .ok (.ireturn, 1) := by decide +kernel
theorem dX6_count_79 : decode cX6_count 79 = .ok (.bipush (-2), 2) := by decide +kernel
theorem dX6_count_81 : decode cX6_count 81 = .ok (.ireturn, 1) := by decide +kernel
theorem dX6_sheet_0 : decode cX6_sheet 0 = .ok (.iload_n 1, 1) := by decide +kernel
theorem dX6_sheet_1 : decode cX6_sheet 1 = .ok (.invokestatic 192, 3) := by decide +kernel
theorem dX6_sheet_4 : decode cX6_sheet 4 = .ok (.ifCond .eq 26, 3) := by decide +kernel
theorem dX6_sheet_7 : decode cX6_sheet 7 = .ok (.iload_n 2, 1) := by decide +kernel
theorem dX6_sheet_8 : decode cX6_sheet 8 = .ok (.i2l, 1) := by decide +kernel
theorem dX6_sheet_9 : decode cX6_sheet 9 = .ok (.ldc2_w 305, 3) := by decide +kernel
theorem dX6_sheet_12 : decode cX6_sheet 12 = .ok (.lconst 1, 1) := by decide +kernel
theorem dX6_sheet_13 : decode cX6_sheet 13 = .ok (.invokestatic 49, 3) := by decide +kernel
theorem dX6_sheet_16 : decode cX6_sheet 16 = .ok (.ifCond .eq 14, 3) := by decide +kernel
theorem dX6_sheet_19 : decode cX6_sheet 19 = .ok (.iload_n 2, 1) := by decide +kernel
theorem dX6_sheet_20 : decode cX6_sheet 20 = .ok (.iconst (-1), 1) := by decide +kernel
theorem dX6_sheet_21 : decode cX6_sheet 21 = .ok (.if_icmp .eq 12, 3) := by decide +kernel
theorem dX6_sheet_24 : decode cX6_sheet 24 = .ok (.iload_n 3, 1) := by decide +kernel
theorem dX6_sheet_25 : decode cX6_sheet 25 = .ok (.bipush 40, 2) := by decide +kernel
theorem dX6_sheet_27 : decode cX6_sheet 27 = .ok (.if_icmp .le 6, 3) := by decide +kernel
theorem dX6_sheet_30 : decode cX6_sheet 30 = .ok (.bipush (-2), 2) := by decide +kernel
theorem dX6_sheet_32 : decode cX6_sheet 32 = .ok (.ireturn, 1) := by decide +kernel
theorem dX6_sheet_33 : decode cX6_sheet 33 = .ok (.iload_n 2, 1) := by decide +kernel
theorem dX6_sheet_34 : decode cX6_sheet 34 = .ok (.iconst (-1), 1) := by decide +kernel
theorem dX6_sheet_35 : decode cX6_sheet 35 = .ok (.if_icmp .eq 10, 3) := by decide +kernel
theorem dX6_sheet_38 : decode cX6_sheet 38 = .ok (.iload_n 3, 1) := by decide +kernel
theorem dX6_sheet_39 : decode cX6_sheet 39 = .ok (.ifCond .ge 6, 3) := by decide +kernel
theorem dX6_sheet_42 : decode cX6_sheet 42 = .ok (.bipush (-14), 2) := by decide +kernel
theorem dX6_sheet_44 : decode cX6_sheet 44 = .ok (.ireturn, 1) := by decide +kernel
theorem dX6_sheet_45 : decode cX6_sheet 45 = .ok (.aload_n 0, 1) := by decide +kernel
theorem dX6_sheet_46 : decode cX6_sheet 46 = .ok (.getfield 18, 3) := by decide +kernel
theorem dX6_sheet_49 : decode cX6_sheet 49 = .ok (.iload_n 1, 1) := by decide +kernel
theorem dX6_sheet_50 : decode cX6_sheet 50 = .ok (.iload_n 2, 1) := by decide +kernel
theorem dX6_sheet_51 : decode cX6_sheet 51 = .ok (.iastore, 1) := by decide +kernel
theorem dX6_sheet_52 : decode cX6_sheet 52 = .ok (.aload_n 0, 1) := by decide +kernel
theorem dX6_sheet_53 : decode cX6_sheet 53 = .ok (.getfield 21, 3) := by decide +kernel
theorem dX6_sheet_56 : decode cX6_sheet 56 = .ok (.iload_n 1, 1) := by decide +kernel
theorem dX6_sheet_57 : decode cX6_sheet 57 = .ok (.iload_n 2, 1) := by decide +kernel
theorem dX6_sheet_58 : decode cX6_sheet 58 = .ok (.iconst (-1), 1) := by decide +kernel
theorem dX6_sheet_59 : decode cX6_sheet 59 = .ok (.if_icmp .ne 7, 3) := by decide +kernel
theorem dX6_sheet_62 : decode cX6_sheet 62 = .ok (.iconst 0, 1) := by decide +kernel
theorem dX6_sheet_63 : decode cX6_sheet 63 = .ok (.goto 4, 3) := by decide +kernel
theorem dX6_sheet_66 : decode cX6_sheet 66 = .ok (.iload_n 3, 1) := by decide +kernel
theorem dX6_sheet_67 : decode cX6_sheet 67 = .ok (.iastore, 1) := by decide +kernel
theorem dX6_sheet_68 : decode cX6_sheet 68 = .ok (.iconst 0, 1) := by decide +kernel
theorem dX6_sheet_69 : decode cX6_sheet 69 = .ok (.istore 4, 2) := by decide +kernel
theorem dX6_sheet_71 : decode cX6_sheet 71 = .ok (.iload 4, 2) := by decide +kernel
theorem dX6_sheet_73 : decode cX6_sheet 73 = .ok (.bipush 40, 2) := by decide +kernel
theorem dX6_sheet_75 : decode cX6_sheet 75 = .ok (.if_icmp .ge 22, 3) := by decide +kernel
theorem dX6_sheet_78 : decode cX6_sheet 78 = .ok (.aload_n 0, 1) := by decide +kernel
theorem dX6_sheet_79 : decode cX6_sheet 79 = .ok (.getfield 24, 3) := by decide +kernel
theorem dX6_sheet_82 : decode cX6_sheet 82 = .ok (.bipush 40, 2) := by decide +kernel
theorem dX6_sheet_84 : decode cX6_sheet 84 = .ok (.iload_n 1, 1) := by decide +kernel
theorem dX6_sheet_85 : decode cX6_sheet 85 = .ok (.imul, 1) := by decide +kernel
theorem dX6_sheet_86 : decode cX6_sheet 86 = .ok (.iload 4, 2) := by decide +kernel
theorem dX6_sheet_88 : decode cX6_sheet 88 = .ok (.iadd, 1) := by decide +kernel
theorem dX6_sheet_89 : decode cX6_sheet 89 = .ok (.lconst 0, 1) := by decide +kernel
theorem dX6_sheet_90 : decode cX6_sheet 90 = .ok (.lastore, 1) := by decide +kernel
theorem dX6_sheet_91 : decode cX6_sheet 91 = .ok (.iinc 4 1, 3) := by decide +kernel
theorem dX6_sheet_94 : decode cX6_sheet 94 = .ok (.goto (-23), 3) := by decide +kernel
theorem dX6_sheet_97 : decode cX6_sheet 97 = .ok (.iconst 1, 1) := by decide +kernel
theorem dX6_sheet_98 : decode cX6_sheet 98 = .ok (.ireturn, 1) := by decide +kernel
theorem dX6_put_0 : decode cX6_put 0 = .ok (.iload_n 1, 1) := by decide +kernel
theorem dX6_put_1 : decode cX6_put 1 = .ok (.invokestatic 192, 3) := by decide +kernel
theorem dX6_put_4 : decode cX6_put 4 = .ok (.ifCond .ne 6, 3) := by decide +kernel
theorem dX6_put_7 : decode cX6_put 7 = .ok (.bipush (-2), 2) := by decide +kernel
theorem dX6_put_9 : decode cX6_put 9 = .ok (.ireturn, 1) := by decide +kernel
theorem dX6_put_10 : decode cX6_put 10 = .ok (.aload_n 0, 1) := by decide +kernel
theorem dX6_put_11 : decode cX6_put 11 = .ok (.getfield 18, 3) := by decide +kernel
theorem dX6_put_14 : decode cX6_put 14 = .ok (.iload_n 1, 1) := by decide +kernel
theorem dX6_put_15 : decode cX6_put 15 = .ok (.iaload, 1) := by decide +kernel
theorem dX6_put_16 : decode cX6_put 16 = .ok (.iconst (-1), 1) := by decide +kernel
theorem dX6_put_17 : decode cX6_put 17 = .ok (.if_icmp .ne 6, 3) := by decide +kernel
theorem dX6_put_20 : decode cX6_put 20 = .ok (.bipush (-11), 2) := by decide +kernel
theorem dX6_put_22 : decode cX6_put 22 = .ok (.ireturn, 1) := by decide +kernel
theorem dX6_put_23 : decode cX6_put 23 = .ok (.iload_n 2, 1) := by decide +kernel
theorem dX6_put_24 : decode cX6_put 24 = .ok (.i2l, 1) := by decide +kernel
theorem dX6_put_25 : decode cX6_put 25 = .ok (.lconst 0, 1) := by decide +kernel
theorem dX6_put_26 : decode cX6_put 26 = .ok (.aload_n 0, 1) := by decide +kernel
theorem dX6_put_27 : decode cX6_put 27 = .ok (.getfield 21, 3) := by decide +kernel
theorem dX6_put_30 : decode cX6_put 30 = .ok (.iload_n 1, 1) := by decide +kernel
theorem dX6_put_31 : decode cX6_put 31 = .ok (.iaload, 1) := by decide +kernel
theorem dX6_put_32 : decode cX6_put 32 = .ok (.iconst 1, 1) := by decide +kernel
theorem dX6_put_33 : decode cX6_put 33 = .ok (.isub, 1) := by decide +kernel
theorem dX6_put_34 : decode cX6_put 34 = .ok (.i2l, 1) := by decide +kernel
theorem dX6_put_35 : decode cX6_put 35 = .ok (.invokestatic 49, 3) := by decide +kernel
theorem dX6_put_38 : decode cX6_put 38 = .ok (.ifCond .ne 6, 3) := by decide +kernel
theorem dX6_put_41 : decode cX6_put 41 = .ok (.bipush (-12), 2) := by decide +kernel
theorem dX6_put_43 : decode cX6_put 43 = .ok (.ireturn, 1) := by decide +kernel
theorem dX6_put_44 : decode cX6_put 44 = .ok (.aload_n 0, 1) := by decide +kernel
theorem dX6_put_45 : decode cX6_put 45 = .ok (.getfield 24, 3) := by decide +kernel
theorem dX6_put_48 : decode cX6_put 48 = .ok (.bipush 40, 2) := by decide +kernel
theorem dX6_put_50 : decode cX6_put 50 = .ok (.iload_n 1, 1) := by decide +kernel
theorem dX6_put_51 : decode cX6_put 51 = .ok (.imul, 1) := by decide +kernel
theorem dX6_put_52 : decode cX6_put 52 = .ok (.iload_n 2, 1) := by decide +kernel
theorem dX6_put_53 : decode cX6_put 53 = .ok (.iadd, 1) := by decide +kernel
theorem dX6_put_54 : decode cX6_put 54 = .ok (.aload_n 0, 1) := by decide +kernel
theorem dX6_put_55 : decode cX6_put 55 = .ok (.getfield 18, 3) := by decide +kernel
theorem dX6_put_58 : decode cX6_put 58 = .ok (.iload_n 1, 1) := by decide +kernel
theorem dX6_put_59 : decode cX6_put 59 = .ok (.iaload, 1) := by decide +kernel
theorem dX6_put_60 : decode cX6_put 60 = .ok (.ifCond .ne 7, 3) := by decide +kernel
theorem dX6_put_63 : decode cX6_put 63 = .ok (.lload_n 3, 1) := by decide +kernel
theorem dX6_put_64 : decode cX6_put 64 = .ok (.goto 6, 3) := by decide +kernel
theorem dX6_put_67 : decode cX6_put 67 = .ok (.lload_n 3, 1) := by decide +kernel
theorem dX6_put_68 : decode cX6_put 68 = .ok (.l2i, 1) := by decide +kernel
theorem dX6_put_69 : decode cX6_put 69 = .ok (.i2l, 1) := by decide +kernel
theorem dX6_put_70 : decode cX6_put 70 = .ok (.lastore, 1) := by decide +kernel
theorem dX6_put_71 : decode cX6_put 71 = .ok (.iconst 1, 1) := by decide +kernel
theorem dX6_put_72 : decode cX6_put 72 = .ok (.ireturn, 1) := by decide +kernel
theorem dX6_item_0 : decode cX6_item 0 = .ok (.iload_n 1, 1) := by decide +kernel
theorem dX6_item_1 : decode cX6_item 1 = .ok (.invokestatic 192, 3) := by decide +kernel
theorem dX6_item_4 : decode cX6_item 4 = .ok (.ifCond .eq 30, 3) := by decide +kernel
theorem dX6_item_7 : decode cX6_item 7 = .ok (.iload_n 2, 1) := by decide +kernel
theorem dX6_item_8 : decode cX6_item 8 = .ok (.i2l, 1) := by decide +kernel
theorem dX6_item_9 : decode cX6_item 9 = .ok (.lconst 0, 1) := by decide +kernel
theorem dX6_item_10 : decode cX6_item 10 = .ok (.aload_n 0, 1) := by decide +kernel
theorem dX6_item_11 : decode cX6_item 11 = .ok (.getfield 21, 3) := by decide +kernel
theorem dX6_item_14 : decode cX6_item 14 = .ok (.iload_n 1, 1) := by decide +kernel
theorem dX6_item_15 : decode cX6_item 15 = .ok (.iaload, 1) := by decide +kernel
theorem dX6_item_16 : decode cX6_item 16 = .ok (.iconst 1, 1) := by decide +kernel
theorem dX6_item_17 : decode cX6_item 17 = .ok (.isub, 1) := by decide +kernel
theorem dX6_item_18 : decode cX6_item 18 = .ok (.i2l, 1) := by decide +kernel
theorem dX6_item_19 : decode cX6_item 19 = .ok (.invokestatic 49, 3) := by decide +kernel
theorem dX6_item_22 : decode cX6_item 22 = .ok (.ifCond .eq 12, 3) := by decide +kernel
theorem dX6_item_25 : decode cX6_item 25 = .ok (.aload_n 0, 1) := by decide +kernel
theorem dX6_item_26 : decode cX6_item 26 = .ok (.iload_n 1, 1) := by decide +kernel
theorem dX6_item_27 : decode cX6_item 27 = .ok (.iload_n 2, 1) := by decide +kernel
theorem dX6_item_28 : decode cX6_item 28 = .ok (.invokevirtual 186, 3) := by decide +kernel
theorem dX6_item_31 : decode cX6_item 31 = .ok (.goto 6, 3) := by decide +kernel
theorem dX6_item_34 : decode cX6_item 34 = .ok (.ldc2_w 136, 3) := by decide +kernel
theorem dX6_item_37 : decode cX6_item 37 = .ok (.lreturn, 1) := by decide +kernel
theorem dX6_copy_0 : decode cX6_copy 0 = .ok (.iload_n 1, 1) := by decide +kernel
theorem dX6_copy_1 : decode cX6_copy 1 = .ok (.invokestatic 192, 3) := by decide +kernel
theorem dX6_copy_4 : decode cX6_copy 4 = .ok (.ifCond .eq 10, 3) := by decide +kernel
theorem dX6_copy_7 : decode cX6_copy 7 = .ok (.iload_n 3, 1) := by decide +kernel
theorem dX6_copy_8 : decode cX6_copy 8 = .ok (.invokestatic 192, 3) := by decide +kernel
theorem dX6_copy_11 : decode cX6_copy 11 = .ok (.ifCond .ne 6, 3) := by decide +kernel
theorem dX6_copy_14 : decode cX6_copy 14 = .ok (.bipush (-2), 2) := by decide +kernel
theorem dX6_copy_16 : decode cX6_copy 16 = .ok (.ireturn, 1) := by decide +kernel
theorem dX6_copy_17 : decode cX6_copy 17 = .ok (.aload_n 0, 1) := by decide +kernel
theorem dX6_copy_18 : decode cX6_copy 18 = .ok (.getfield 18, 3) := by decide +kernel
theorem dX6_copy_21 : decode cX6_copy 21 = .ok (.iload_n 1, 1) := by decide +kernel
theorem dX6_copy_22 : decode cX6_copy 22 = .ok (.iaload, 1) := by decide +kernel
theorem dX6_copy_23 : decode cX6_copy 23 = .ok (.iconst (-1), 1) := by decide +kernel
theorem dX6_copy_24 : decode cX6_copy 24 = .ok (.if_icmp .eq 13, 3) := by decide +kernel
theorem dX6_copy_27 : decode cX6_copy 27 = .ok (.aload_n 0, 1) := by decide +kernel
theorem dX6_copy_28 : decode cX6_copy 28 = .ok (.getfield 18, 3) := by decide +kernel
theorem dX6_copy_31 : decode cX6_copy 31 = .ok (.iload_n 3, 1) := by decide +kernel
theorem dX6_copy_32 : decode cX6_copy 32 = .ok (.iaload, 1) := by decide +kernel
theorem dX6_copy_33 : decode cX6_copy 33 = .ok (.iconst (-1), 1) := by decide +kernel
theorem dX6_copy_34 : decode cX6_copy 34 = .ok (.if_icmp .ne 6, 3) := by decide +kernel
theorem dX6_copy_37 : decode cX6_copy 37 = .ok (.bipush (-11), 2) := by decide +kernel
theorem dX6_copy_39 : decode cX6_copy 39 = .ok (.ireturn, 1) := by decide +kernel
theorem dX6_copy_40 : decode cX6_copy 40 = .ok (.aload_n 0, 1) := by decide +kernel
theorem dX6_copy_41 : decode cX6_copy 41 = .ok (.getfield 18, 3) := by decide +kernel
theorem dX6_copy_44 : decode cX6_copy 44 = .ok (.iload_n 1, 1) := by decide +kernel
theorem dX6_copy_45 : decode cX6_copy 45 = .ok (.iaload, 1) := by decide +kernel
theorem dX6_copy_46 : decode cX6_copy 46 = .ok (.aload_n 0, 1) := by decide +kernel
theorem dX6_copy_47 : decode cX6_copy 47 = .ok (.getfield 18, 3) := by decide +kernel
theorem dX6_copy_50 : decode cX6_copy 50 = .ok (.iload_n 3, 1) := by decide +kernel
theorem dX6_copy_51 : decode cX6_copy 51 = .ok (.iaload, 1) := by decide +kernel
theorem dX6_copy_52 : decode cX6_copy 52 = .ok (.if_icmp .eq 6, 3) := by decide +kernel
theorem dX6_copy_55 : decode cX6_copy 55 = .ok (.bipush (-13), 2) := by decide +kernel
theorem dX6_copy_57 : decode cX6_copy 57 = .ok (.ireturn, 1) := by decide +kernel
theorem dX6_copy_58 : decode cX6_copy 58 = .ok (.iload 5, 2) := by decide +kernel
theorem dX6_copy_60 : decode cX6_copy 60 = .ok (.ifCond .lt 39, 3) := by decide +kernel
theorem dX6_copy_63 : decode cX6_copy 63 = .ok (.iload_n 2, 1) := by decide +kernel
theorem dX6_copy_64 : decode cX6_copy 64 = .ok (.ifCond .lt 35, 3) := by decide +kernel
theorem dX6_copy_67 : decode cX6_copy 67 = .ok (.iload 4, 2) := by decide +kernel
theorem dX6_copy_69 : decode cX6_copy 69 = .ok (.ifCond .lt 30, 3) := by decide +kernel
theorem dX6_copy_72 : decode cX6_copy 72 = .ok (.iload_n 2, 1) := by decide +kernel
theorem dX6_copy_73 : decode cX6_copy 73 = .ok (.aload_n 0, 1) := by decide +kernel
theorem dX6_copy_74 : decode cX6_copy 74 = .ok (.getfield 21, 3) := by decide +kernel
theorem dX6_copy_77 : decode cX6_copy 77 = .ok (.iload_n 1, 1) := by decide +kernel
theorem dX6_copy_78 : decode cX6_copy 78 = .ok (.iaload, 1) := by decide +kernel
theorem dX6_copy_79 : decode cX6_copy 79 = .ok (.iload 5, 2) := by decide +kernel
theorem dX6_copy_81 : decode cX6_copy 81 = .ok (.isub, 1) := by decide +kernel
theorem dX6_copy_82 : decode cX6_copy 82 = .ok (.if_icmp .gt 17, 3) := by decide +kernel
theorem dX6_copy_85 : decode cX6_copy 85 = .ok (.iload 4, 2) := by decide +kernel
theorem dX6_copy_87 : decode cX6_copy 87 = .ok (.aload_n 0, 1) := by decide +kernel
theorem dX6_copy_88 : decode cX6_copy 88 = .ok (.getfield 21, 3) := by decide +kernel
theorem dX6_copy_91 : decode cX6_copy 91 = .ok (.iload_n 3, 1) := by decide +kernel
theorem dX6_copy_92 : decode cX6_copy 92 = .ok (.iaload, 1) := by decide +kernel
theorem dX6_copy_93 : decode cX6_copy 93 = .ok (.iload 5, 2) := by decide +kernel
theorem dX6_copy_95 : decode cX6_copy 95 = .ok (.isub, 1) := by decide +kernel
theorem dX6_copy_96 : decode cX6_copy 96 = .ok (.if_icmp .le 6, 3) := by decide +kernel
theorem dX6_copy_99 : decode cX6_copy 99 = .ok (.bipush (-12), 2) := by decide +kernel
theorem dX6_copy_101 : decode cX6_copy 101 = .ok (.ireturn, 1) := by decide +kernel
theorem dX6_copy_102 : decode cX6_copy 102 = .ok (.aload_n 0, 1) := by decide +kernel
theorem dX6_copy_103 : decode cX6_copy 103 = .ok (.getfield 24, 3) := by decide +kernel
theorem dX6_copy_106 : decode cX6_copy 106 = .ok (.bipush 40, 2) := by decide +kernel
theorem dX6_copy_108 : decode cX6_copy 108 = .ok (.iload_n 1, 1) := by decide +kernel
theorem dX6_copy_109 : decode cX6_copy 109 = .ok (.imul, 1) := by decide +kernel
theorem dX6_copy_110 : decode cX6_copy 110 = .ok (.iload_n 2, 1) := by decide +kernel
theorem dX6_copy_111 : decode cX6_copy 111 = .ok (.iadd, 1) := by decide +kernel
theorem dX6_copy_112 : decode cX6_copy 112 = .ok (.aload_n 0, 1) := by decide +kernel
theorem dX6_copy_113 : decode cX6_copy 113 = .ok (.getfield 46, 3) := by decide +kernel
theorem dX6_copy_116 : decode cX6_copy 116 = .ok (.iconst 0, 1) := by decide +kernel
theorem dX6_copy_117 : decode cX6_copy 117 = .ok (.iload 5, 2) := by decide +kernel
theorem dX6_copy_119 : decode cX6_copy 119 = .ok (.invokestatic 287, 3) := by decide +kernel
theorem dX6_copy_122 : decode cX6_copy 122 = .ok (.aload_n 0, 1) := by decide +kernel
theorem dX6_copy_123 : decode cX6_copy 123 = .ok (.getfield 46, 3) := by decide +kernel
theorem dX6_copy_126 : decode cX6_copy 126 = .ok (.iconst 0, 1) := by decide +kernel
theorem dX6_copy_127 : decode cX6_copy 127 = .ok (.aload_n 0, 1) := by decide +kernel
theorem dX6_copy_128 : decode cX6_copy 128 = .ok (.getfield 24, 3) := by decide +kernel
theorem dX6_copy_131 : decode cX6_copy 131 = .ok (.bipush 40, 2) := by decide +kernel
theorem dX6_copy_133 : decode cX6_copy 133 = .ok (.iload_n 3, 1) := by decide +kernel
theorem dX6_copy_134 : decode cX6_copy 134 = .ok (.imul, 1) := by decide +kernel
theorem dX6_copy_135 : decode cX6_copy 135 = .ok (.iload 4, 2) := by decide +kernel
theorem dX6_copy_137 : decode cX6_copy 137 = .ok (.iadd, 1) := by decide +kernel
theorem dX6_copy_138 : decode cX6_copy 138 = .ok (.iload 5, 2) := by decide +kernel
theorem dX6_copy_140 : decode cX6_copy 140 = .ok (.invokestatic 287, 3) := by decide +kernel
theorem dX6_copy_143 : decode cX6_copy 143 = .ok (.iload 5, 2) := by decide +kernel
theorem dX6_copy_145 : decode cX6_copy 145 = .ok (.ireturn, 1) := by decide +kernel
theorem dJ13_compare_74951_0 : decode cJ13_compare_74951 0 = .ok (.lload_n 0, 1) := by decide +kernel
theorem dJ13_compare_74951_1 : decode cJ13_compare_74951 1 = .ok (.lload_n 2, 1) := by decide +kernel
theorem dJ13_compare_74951_2 : decode cJ13_compare_74951 2 = .ok (.lcmp, 1) := by decide +kernel
theorem dJ13_compare_74951_3 : decode cJ13_compare_74951 3 = .ok (.ifCond .ge 7, 3) := by decide +kernel
theorem dJ13_compare_74951_6 : decode cJ13_compare_74951 6 = .ok (.iconst (-1), 1) := by decide +kernel
theorem dJ13_compare_74951_7 : decode cJ13_compare_74951 7 = .ok (.goto 14, 3) := by decide +kernel
theorem dJ13_compare_74951_10 : decode cJ13_compare_74951 10 = .ok (.lload_n 0, 1) := by decide +kernel
theorem dJ13_compare_74951_11 : decode cJ13_compare_74951 11 = .ok (.lload_n 2, 1) := by decide +kernel
theorem dJ13_compare_74951_12 : decode cJ13_compare_74951 12 = .ok (.lcmp, 1) := by decide +kernel
theorem dJ13_compare_74951_13 : decode cJ13_compare_74951 13 = .ok (.ifCond .ne 7, 3) := by decide +kernel
theorem dJ13_compare_74951_16 : decode cJ13_compare_74951 16 = .ok (.iconst 0, 1) := by decide +kernel
theorem dJ13_compare_74951_17 : decode cJ13_compare_74951 17 = .ok (.goto 4, 3) := by decide +kernel
theorem dJ13_compare_74951_20 : decode cJ13_compare_74951 20 = .ok (.iconst 1, 1) := by decide +kernel
theorem dJ13_compare_74951_21 : decode cJ13_compare_74951 21 = .ok (.ireturn, 1) := by decide +kernel
theorem dJ9_abs_067f4_0 : decode cJ9_abs_067f4 0 = .ok (.lload_n 0, 1) := by decide +kernel
theorem dJ9_abs_067f4_1 : decode cJ9_abs_067f4 1 = .ok (.lconst 0, 1) := by decide +kernel
theorem dJ9_abs_067f4_2 : decode cJ9_abs_067f4 2 = .ok (.lcmp, 1) := by decide +kernel
theorem dJ9_abs_067f4_3 : decode cJ9_abs_067f4 3 = .ok (.ifCond .ge 8, 3) := by decide +kernel
theorem dJ9_abs_067f4_6 : decode cJ9_abs_067f4 6 = .ok (.lload_n 0, 1) := by decide +kernel
theorem dJ9_abs_067f4_7 : decode cJ9_abs_067f4 7 = .ok (.lneg, 1) := by decide +kernel
theorem dJ9_abs_067f4_8 : decode cJ9_abs_067f4 8 = .ok (.goto 4, 3) := by decide +kernel
theorem dJ9_abs_067f4_11 : decode cJ9_abs_067f4 11 = .ok (.lload_n 0, 1) := by decide +kernel
theorem dJ9_abs_067f4_12 : decode cJ9_abs_067f4 12 = .ok (.lreturn, 1) := by decide +kernel
theorem dJ9_max_7cf53_0 : decode cJ9_max_7cf53 0 = .ok (.iload_n 0, 1) := by decide +kernel
theorem dJ9_max_7cf53_1 : decode cJ9_max_7cf53 1 = .ok (.iload_n 1, 1) := by decide +kernel
theorem dJ9_max_7cf53_2 : decode cJ9_max_7cf53 2 = .ok (.if_icmp .lt 7, 3) := by decide +kernel
theorem dJ9_max_7cf53_5 : decode cJ9_max_7cf53 5 = .ok (.iload_n 0, 1) := by decide +kernel
theorem dJ9_max_7cf53_6 : decode cJ9_max_7cf53 6 = .ok (.goto 4, 3) := by decide +kernel
theorem dJ9_max_7cf53_9 : decode cJ9_max_7cf53 9 = .ok (.iload_n 1, 1) := by decide +kernel
theorem dJ9_max_7cf53_10 : decode cJ9_max_7cf53 10 = .ok (.ireturn, 1) := by decide +kernel
theorem dJ9_min_7cf53_0 : decode cJ9_min_7cf53 0 = .ok (.iload_n 0, 1) := by decide +kernel
theorem dJ9_min_7cf53_1 : decode cJ9_min_7cf53 1 = .ok (.iload_n 1, 1) := by decide +kernel
theorem dJ9_min_7cf53_2 : decode cJ9_min_7cf53 2 = .ok (.if_icmp .gt 7, 3) := by decide +kernel
theorem dJ9_min_7cf53_5 : decode cJ9_min_7cf53 5 = .ok (.iload_n 0, 1) := by decide +kernel
theorem dJ9_min_7cf53_6 : decode cJ9_min_7cf53 6 = .ok (.goto 4, 3) := by decide +kernel
theorem dJ9_min_7cf53_9 : decode cJ9_min_7cf53 9 = .ok (.iload_n 1, 1) := by decide +kernel
theorem dJ9_min_7cf53_10 : decode cJ9_min_7cf53 10 = .ok (.ireturn, 1) := by decide +kernel
theorem dJ0_length_8abf5_0 : decode cJ0_length_8abf5 0 = .ok (.aload_n 0, 1) := by decide +kernel
theorem dJ0_length_8abf5_1 : decode cJ0_length_8abf5 1 = .ok (.getfield 9, 3) := by decide +kernel
theorem dJ0_length_8abf5_4 : decode cJ0_length_8abf5 4 = .ok (.arraylength, 1) := by decide +kernel
theorem dJ0_length_8abf5_5 : decode cJ0_length_8abf5 5 = .ok (.aload_n 0, 1) := by decide +kernel
theorem dJ0_length_8abf5_6 : decode cJ0_length_8abf5 6 = .ok (.invokevirtual 335, 3) := by decide +kernel
theorem dJ0_length_8abf5_9 : decode cJ0_length_8abf5 9 = .ok (.ishr, 1) := by decide +kernel
theorem dJ0_length_8abf5_10 : decode cJ0_length_8abf5 10 = .ok (.ireturn, 1) := by decide +kernel
theorem dJ0_charAt_5068e_0 : decode cJ0_charAt_5068e 0 = .ok (.aload_n 0, 1) := by decide +kernel
theorem dJ0_charAt_5068e_1 : decode cJ0_charAt_5068e 1 = .ok (.invokevirtual 492, 3) := by decide +kernel
theorem dJ0_charAt_5068e_4 : decode cJ0_charAt_5068e 4 = .ok (.ifCond .eq 12, 3) := by decide +kernel
theorem dJ0_charAt_5068e_7 : decode cJ0_charAt_5068e 7 = .ok (.aload_n 0, 1) := by decide +kernel
theorem dJ0_charAt_5068e_8 : decode cJ0_charAt_5068e 8 = .ok (.getfield 9, 3) := by decide +kernel
theorem dJ0_charAt_5068e_11 : decode cJ0_charAt_5068e 11 = .ok (.iload_n 1, 1) := by decide +kernel
theorem dJ0_charAt_5068e_12 : decode cJ0_charAt_5068e 12 = .ok (.invokestatic 495, 3) := by decide +kernel
theorem dJ0_charAt_5068e_15 : decode cJ0_charAt_5068e 15 = .ok (.ireturn, 1) := by decide +kernel
theorem dJ0_charAt_5068e_16 : decode cJ0_charAt_5068e 16 = .ok (.aload_n 0, 1) := by decide +kernel
theorem dJ0_charAt_5068e_17 : decode cJ0_charAt_5068e 17 = .ok (.getfield 9, 3) := by decide +kernel
theorem dJ0_charAt_5068e_20 : decode cJ0_charAt_5068e 20 = .ok (.iload_n 1, 1) := by decide +kernel
theorem dJ0_charAt_5068e_21 : decode cJ0_charAt_5068e 21 = .ok (.invokestatic 498, 3) := by decide +kernel
theorem dJ0_charAt_5068e_24 : decode cJ0_charAt_5068e 24 = .ok (.ireturn, 1) := by decide +kernel
theorem dJ0_coder_7d493_0 : decode cJ0_coder_7d493 0 = .ok (.getstatic 38, 3) := by decide +kernel
theorem dJ0_coder_7d493_3 : decode cJ0_coder_7d493 3 = .ok (.ifCond .eq 10, 3) := by decide +kernel
theorem dJ0_coder_7d493_6 : decode cJ0_coder_7d493 6 = .ok (.aload_n 0, 1) := by decide +kernel
theorem dJ0_coder_7d493_7 : decode cJ0_coder_7d493 7 = .ok (.getfield 15, 3) := by decide +kernel
theorem dJ0_coder_7d493_10 : decode cJ0_coder_7d493 10 = .ok (.goto 4, 3) := by decide +kernel
theorem dJ0_coder_7d493_13 : decode cJ0_coder_7d493 13 = .ok (.iconst 1, 1) := by decide +kernel
theorem dJ0_coder_7d493_14 : decode cJ0_coder_7d493 14 = .ok (.ireturn, 1) := by decide +kernel
theorem dJ0_isLatin1_aae02_0 : decode cJ0_isLatin1_aae02 0 = .ok (.getstatic 38, 3) := by decide +kernel
theorem dJ0_isLatin1_aae02_3 : decode cJ0_isLatin1_aae02 3 = .ok (.ifCond .eq 14, 3) := by decide +kernel
theorem dJ0_isLatin1_aae02_6 : decode cJ0_isLatin1_aae02 6 = .ok (.aload_n 0, 1) := by decide +kernel
theorem dJ0_isLatin1_aae02_7 : decode cJ0_isLatin1_aae02 7 = .ok (.getfield 15, 3) := by decide +kernel
theorem dJ0_isLatin1_aae02_10 : decode cJ0_isLatin1_aae02 10 = .ok (.ifCond .ne 7, 3) := by decide +kernel
theorem dJ0_isLatin1_aae02_13 : decode cJ0_isLatin1_aae02 13 = .ok (.iconst 1, 1) := by decide +kernel
theorem dJ0_isLatin1_aae02_14 : decode cJ0_isLatin1_aae02 14 = .ok (.goto 4, 3) := by decide +kernel
theorem dJ0_isLatin1_aae02_17 : decode cJ0_isLatin1_aae02 17 = .ok (.iconst 0, 1) := by decide +kernel
theorem dJ0_isLatin1_aae02_18 : decode cJ0_isLatin1_aae02 18 = .ok (.ireturn, 1) := by decide +kernel
theorem dJ0_checkIndex_df160_0 : decode cJ0_checkIndex_df160 0 = .ok (.iload_n 0, 1) := by decide +kernel
theorem dJ0_checkIndex_df160_1 : decode cJ0_checkIndex_df160 1 = .ok (.iload_n 1, 1) := by decide +kernel
theorem dJ0_checkIndex_df160_2 : decode cJ0_checkIndex_df160 2 = .ok (.getstatic 1053, 3) := by decide +kernel
theorem dJ0_checkIndex_df160_5 : decode cJ0_checkIndex_df160 5 = .ok (.invokestatic 1059, 3) := by decide +kernel
theorem dJ0_checkIndex_df160_8 : decode cJ0_checkIndex_df160 8 = .ok (.pop, 1) := by decide +kernel
theorem dJ0_checkIndex_df160_9 : decode cJ0_checkIndex_df160 9 = .ok (.return_, 1) := by decide +kernel
theorem dJ1_charAt_3b067_0 : decode cJ1_charAt_3b067 0 = .ok (.iload_n 1, 1) := by decide +kernel
theorem dJ1_charAt_3b067_1 : decode cJ1_charAt_3b067 1 = .ok (.aload_n 0, 1) := by decide +kernel
theorem dJ1_charAt_3b067_2 : decode cJ1_charAt_3b067 2 = .ok (.arraylength, 1) := by decide +kernel
theorem dJ1_charAt_3b067_3 : decode cJ1_charAt_3b067 3 = .ok (.invokestatic 9, 3) := by decide +kernel
theorem dJ1_charAt_3b067_6 : decode cJ1_charAt_3b067 6 = .ok (.aload_n 0, 1) := by decide +kernel
theorem dJ1_charAt_3b067_7 : decode cJ1_charAt_3b067 7 = .ok (.iload_n 1, 1) := by decide +kernel
theorem dJ1_charAt_3b067_8 : decode cJ1_charAt_3b067 8 = .ok (.baload, 1) := by decide +kernel
theorem dJ1_charAt_3b067_9 : decode cJ1_charAt_3b067 9 = .ok (.sipush 255, 3) := by decide +kernel
theorem dJ1_charAt_3b067_12 : decode cJ1_charAt_3b067 12 = .ok (.iand, 1) := by decide +kernel
theorem dJ1_charAt_3b067_13 : decode cJ1_charAt_3b067 13 = .ok (.i2c, 1) := by decide +kernel
theorem dJ1_charAt_3b067_14 : decode cJ1_charAt_3b067 14 = .ok (.ireturn, 1) := by decide +kernel
theorem dJ2_getChar_3b067_0 : decode cJ2_getChar_3b067 0 = .ok (.getstatic 44, 3) := by decide +kernel
theorem dJ2_getChar_3b067_3 : decode cJ2_getChar_3b067 3 = .ok (.ifCond .ne 25, 3) := by decide +kernel
theorem dJ2_getChar_3b067_6 : decode cJ2_getChar_3b067 6 = .ok (.iload_n 1, 1) := by decide +kernel
theorem dJ2_getChar_3b067_7 : decode cJ2_getChar_3b067 7 = .ok (.ifCond .lt 11, 3) := by decide +kernel
theorem dJ2_getChar_3b067_10 : decode cJ2_getChar_3b067 10 = .ok (.iload_n 1, 1) := by decide +kernel
theorem dJ2_getChar_3b067_11 : decode cJ2_getChar_3b067 11 = .ok (.aload_n 0, 1) := by decide +kernel
theorem dJ2_getChar_3b067_12 : decode cJ2_getChar_3b067 12 = .ok (.invokestatic 48, 3) := by decide +kernel
theorem dJ2_getChar_3b067_15 : decode cJ2_getChar_3b067 15 = .ok (.if_icmp .lt 13, 3) := by decide +kernel
theorem dJ2_getChar_3b067_18 : decode cJ2_getChar_3b067 18 = .ok (.new 52, 3) := by decide +kernel
theorem dJ2_getChar_3b067_21 : decode cJ2_getChar_3b067 21 = .ok (.dup, 1) := by decide +kernel
theorem dJ2_getChar_3b067_22 : decode cJ2_getChar_3b067 22 = .ok (.ldc 54, 2) := by decide +kernel
theorem dJ2_getChar_3b067_24 : decode cJ2_getChar_3b067 24 = .ok (.invokespecial 56, 3) := by decide +kernel
theorem dJ2_getChar_3b067_27 : decode cJ2_getChar_3b067 27 = .ok (.athrow, 1) := by decide +kernel
theorem dJ2_getChar_3b067_28 : decode cJ2_getChar_3b067 28 = .ok (.iload_n 1, 1) := by decide +kernel
theorem dJ2_getChar_3b067_29 : decode cJ2_getChar_3b067 29 = .ok (.iconst 1, 1) := by decide +kernel
theorem dJ2_getChar_3b067_30 : decode cJ2_getChar_3b067 30 = .ok (.ishl, 1) := by decide +kernel
theorem dJ2_getChar_3b067_31 : decode cJ2_getChar_3b067 31 = .ok (.istore_n 1, 1) := by decide +kernel
theorem dJ2_getChar_3b067_32 : decode cJ2_getChar_3b067 32 = .ok (.aload_n 0, 1) := by decide +kernel
theorem dJ2_getChar_3b067_33 : decode cJ2_getChar_3b067 33 = .ok (.iload_n 1, 1) := by decide +kernel
theorem dJ2_getChar_3b067_34 : decode cJ2_getChar_3b067 34 = .ok (.iinc 1 1, 3) := by decide +kernel
theorem dJ2_getChar_3b067_37 : decode cJ2_getChar_3b067 37 = .ok (.baload, 1) := by decide +kernel
theorem dJ2_getChar_3b067_38 : decode cJ2_getChar_3b067 38 = .ok (.sipush 255, 3) := by decide +kernel
theorem dJ2_getChar_3b067_41 : decode cJ2_getChar_3b067 41 = .ok (.iand, 1) := by decide +kernel
theorem dJ2_getChar_3b067_42 : decode cJ2_getChar_3b067 42 = .ok (.getstatic 59, 3) := by decide +kernel
theorem dJ2_getChar_3b067_45 : decode cJ2_getChar_3b067 45 = .ok (.ishl, 1) := by decide +kernel
theorem dJ2_getChar_3b067_46 : decode cJ2_getChar_3b067 46 = .ok (.aload_n 0, 1) := by decide +kernel
theorem dJ2_getChar_3b067_47 : decode cJ2_getChar_3b067 47 = .ok (.iload_n 1, 1) := by decide +kernel
theorem dJ2_getChar_3b067_48 : decode cJ2_getChar_3b067 48 = .ok (.baload, 1) := by decide +kernel
theorem dJ2_getChar_3b067_49 : decode cJ2_getChar_3b067 49 = .ok (.sipush 255, 3) := by decide +kernel
theorem dJ2_getChar_3b067_52 : decode cJ2_getChar_3b067 52 = .ok (.iand, 1) := by decide +kernel
theorem dJ2_getChar_3b067_53 : decode cJ2_getChar_3b067 53 = .ok (.getstatic 63, 3) := by decide +kernel
theorem dJ2_getChar_3b067_56 : decode cJ2_getChar_3b067 56 = .ok (.ishl, 1) := by decide +kernel
theorem dJ2_getChar_3b067_57 : decode cJ2_getChar_3b067 57 = .ok (.ior, 1) := by decide +kernel
theorem dJ2_getChar_3b067_58 : decode cJ2_getChar_3b067 58 = .ok (.i2c, 1) := by decide +kernel
theorem dJ2_getChar_3b067_59 : decode cJ2_getChar_3b067 59 = .ok (.ireturn, 1) := by decide +kernel
theorem dJ2_length_9d52b_0 : decode cJ2_length_9d52b 0 = .ok (.aload_n 0, 1) := by decide +kernel
theorem dJ2_length_9d52b_1 : decode cJ2_length_9d52b 1 = .ok (.arraylength, 1) := by decide +kernel
theorem dJ2_length_9d52b_2 : decode cJ2_length_9d52b 2 = .ok (.iconst 1, 1) := by decide +kernel
theorem dJ2_length_9d52b_3 : decode cJ2_length_9d52b 3 = .ok (.ishr, 1) := by decide +kernel
theorem dJ2_length_9d52b_4 : decode cJ2_length_9d52b 4 = .ok (.ireturn, 1) := by decide +kernel
theorem dJ2_charAt_3b067_0 : decode cJ2_charAt_3b067 0 = .ok (.iload_n 1, 1) := by decide +kernel
theorem dJ2_charAt_3b067_1 : decode cJ2_charAt_3b067 1 = .ok (.aload_n 0, 1) := by decide +kernel
theorem dJ2_charAt_3b067_2 : decode cJ2_charAt_3b067 2 = .ok (.invokestatic 67, 3) := by decide +kernel
theorem dJ2_charAt_3b067_5 : decode cJ2_charAt_3b067 5 = .ok (.aload_n 0, 1) := by decide +kernel
theorem dJ2_charAt_3b067_6 : decode cJ2_charAt_3b067 6 = .ok (.iload_n 1, 1) := by decide +kernel
theorem dJ2_charAt_3b067_7 : decode cJ2_charAt_3b067 7 = .ok (.invokestatic 71, 3) := by decide +kernel
theorem dJ2_charAt_3b067_10 : decode cJ2_charAt_3b067 10 = .ok (.ireturn, 1) := by decide +kernel
theorem dJ2_checkIndex_2214a_0 : decode cJ2_checkIndex_2214a 0 = .ok (.iload_n 0, 1) := by decide +kernel
theorem dJ2_checkIndex_2214a_1 : decode cJ2_checkIndex_2214a 1 = .ok (.aload_n 1, 1) := by decide +kernel
theorem dJ2_checkIndex_2214a_2 : decode cJ2_checkIndex_2214a 2 = .ok (.invokestatic 48, 3) := by decide +kernel
theorem dJ2_checkIndex_2214a_5 : decode cJ2_checkIndex_2214a 5 = .ok (.invokestatic 414, 3) := by decide +kernel
theorem dJ2_checkIndex_2214a_8 : decode cJ2_checkIndex_2214a 8 = .ok (.return_, 1) := by decide +kernel
theorem dJ3_checkIndex_8e157_0 : decode cJ3_checkIndex_8e157 0 = .ok (.iload_n 0, 1) := by decide +kernel
theorem dJ3_checkIndex_8e157_1 : decode cJ3_checkIndex_8e157 1 = .ok (.ifCond .lt 8, 3) := by decide +kernel
theorem dJ3_checkIndex_8e157_4 : decode cJ3_checkIndex_8e157 4 = .ok (.iload_n 0, 1) := by decide +kernel
theorem dJ3_checkIndex_8e157_5 : decode cJ3_checkIndex_8e157 5 = .ok (.iload_n 1, 1) := by decide +kernel
theorem dJ3_checkIndex_8e157_6 : decode cJ3_checkIndex_8e157 6 = .ok (.if_icmp .lt 10, 3) := by decide +kernel
theorem dJ3_checkIndex_8e157_9 : decode cJ3_checkIndex_8e157 9 = .ok (.aload_n 2, 1) := by decide +kernel
theorem dJ3_checkIndex_8e157_10 : decode cJ3_checkIndex_8e157 10 = .ok (.iload_n 0, 1) := by decide +kernel
theorem dJ3_checkIndex_8e157_11 : decode cJ3_checkIndex_8e157 11 = .ok (.iload_n 1, 1) := by decide +kernel
theorem dJ3_checkIndex_8e157_12 : decode cJ3_checkIndex_8e157 12 = .ok (.invokestatic 95, 3) := by decide +kernel
theorem dJ3_checkIndex_8e157_15 : decode cJ3_checkIndex_8e157 15 = .ok (.athrow, 1) := by decide +kernel
theorem dJ3_checkIndex_8e157_16 : decode cJ3_checkIndex_8e157 16 = .ok (.iload_n 0, 1) := by decide +kernel
theorem dJ3_checkIndex_8e157_17 : decode cJ3_checkIndex_8e157 17 = .ok (.ireturn, 1) := by decide +kernel
theorem dL_law_0 : decode cL_law 0 = .ok (.new 7, 3) := by decide +kernel
theorem dL_law_3 : decode cL_law 3 = .ok (.dup, 1) := by decide +kernel
theorem dL_law_4 : decode cL_law 4 = .ok (.invokespecial 9, 3) := by decide +kernel
theorem dL_law_7 : decode cL_law 7 = .ok (.astore_n 1, 1) := by decide +kernel
theorem dL_law_8 : decode cL_law 8 = .ok (.new 10, 3) := by decide +kernel
theorem dL_law_11 : decode cL_law 11 = .ok (.dup, 1) := by decide +kernel
theorem dL_law_12 : decode cL_law 12 = .ok (.invokespecial 12, 3) := by decide +kernel
theorem dL_law_15 : decode cL_law 15 = .ok (.astore_n 2, 1) := by decide +kernel
theorem dL_law_16 : decode cL_law 16 = .ok (.iconst 0, 1) := by decide +kernel
theorem dL_law_17 : decode cL_law 17 = .ok (.istore_n 3, 1) := by decide +kernel
theorem dL_law_18 : decode cL_law 18 = .ok (.iload_n 3, 1) := by decide +kernel
theorem dL_law_19 : decode cL_law 19 = .ok (.aload_n 0, 1) := by decide +kernel
theorem dL_law_20 : decode cL_law 20 = .ok (.arraylength, 1) := by decide +kernel
theorem dL_law_21 : decode cL_law 21 = .ok (.bipush 7, 2) := by decide +kernel
theorem dL_law_23 : decode cL_law 23 = .ok (.isub, 1) := by decide +kernel
theorem dL_law_24 : decode cL_law 24 = .ok (.if_icmp .gt 1521, 3) := by decide +kernel
theorem dL_law_27 : decode cL_law 27 = .ok (.aload_n 0, 1) := by decide +kernel
theorem dL_law_28 : decode cL_law 28 = .ok (.iload_n 3, 1) := by decide +kernel
theorem dL_law_29 : decode cL_law 29 = .ok (.iaload, 1) := by decide +kernel
theorem dL_law_30 : decode cL_law 30 = .ok (.bipush 63, 2) := by decide +kernel
theorem dL_law_32 : decode cL_law 32 = .ok (.iand, 1) := by decide +kernel
theorem dL_law_33 : decode cL_law 33 = .ok (.tableswitch 1506 0 35 #[159, 212, 225, 268, 291, 314, 357, 390, 423, 456, 489, 523, 546, 560, 584, 618, 651, 694, 747, 790, 853, 896, 929, 983, 1006, 1040, 1103, 1178, 1191, 1204, 1217, 1270, 1293, 1336, 1409, 1443], 159) := by decide +kernel
theorem dL_law_192 : decode cL_law 192 = .ok (.aload_n 1, 1) := by decide +kernel
theorem dL_law_193 : decode cL_law 193 = .ok (.aload_n 0, 1) := by decide +kernel
theorem dL_law_194 : decode cL_law 194 = .ok (.iload_n 3, 1) := by decide +kernel
theorem dL_law_195 : decode cL_law 195 = .ok (.iconst 1, 1) := by decide +kernel
theorem dL_law_196 : decode cL_law 196 = .ok (.iadd, 1) := by decide +kernel
theorem dL_law_197 : decode cL_law 197 = .ok (.iaload, 1) := by decide +kernel
theorem dL_law_198 : decode cL_law 198 = .ok (.aload_n 0, 1) := by decide +kernel
theorem dL_law_199 : decode cL_law 199 = .ok (.iload_n 3, 1) := by decide +kernel
theorem dL_law_200 : decode cL_law 200 = .ok (.iconst 2, 1) := by decide +kernel
theorem dL_law_201 : decode cL_law 201 = .ok (.iadd, 1) := by decide +kernel
theorem dL_law_202 : decode cL_law 202 = .ok (.iaload, 1) := by decide +kernel
theorem dL_law_203 : decode cL_law 203 = .ok (.aload_n 0, 1) := by decide +kernel
theorem dL_law_204 : decode cL_law 204 = .ok (.iload_n 3, 1) := by decide +kernel
theorem dL_law_205 : decode cL_law 205 = .ok (.iconst 3, 1) := by decide +kernel
theorem dL_law_206 : decode cL_law 206 = .ok (.iadd, 1) := by decide +kernel
theorem dL_law_207 : decode cL_law 207 = .ok (.iaload, 1) := by decide +kernel
theorem dL_law_208 : decode cL_law 208 = .ok (.aload_n 0, 1) := by decide +kernel
theorem dL_law_209 : decode cL_law 209 = .ok (.iload_n 3, 1) := by decide +kernel
theorem dL_law_210 : decode cL_law 210 = .ok (.iconst 4, 1) := by decide +kernel
theorem dL_law_211 : decode cL_law 211 = .ok (.iadd, 1) := by decide +kernel
theorem dL_law_212 : decode cL_law 212 = .ok (.iaload, 1) := by decide +kernel
theorem dL_law_213 : decode cL_law 213 = .ok (.invokevirtual 13, 3) := by decide +kernel
theorem dL_law_216 : decode cL_law 216 = .ok (.aload_n 2, 1) := by decide +kernel
theorem dL_law_217 : decode cL_law 217 = .ok (.aload_n 0, 1) := by decide +kernel
theorem dL_law_218 : decode cL_law 218 = .ok (.iload_n 3, 1) := by decide +kernel
theorem dL_law_219 : decode cL_law 219 = .ok (.iconst 1, 1) := by decide +kernel
theorem dL_law_220 : decode cL_law 220 = .ok (.iadd, 1) := by decide +kernel
theorem dL_law_221 : decode cL_law 221 = .ok (.iaload, 1) := by decide +kernel
theorem dL_law_222 : decode cL_law 222 = .ok (.aload_n 0, 1) := by decide +kernel
theorem dL_law_223 : decode cL_law 223 = .ok (.iload_n 3, 1) := by decide +kernel
theorem dL_law_224 : decode cL_law 224 = .ok (.iconst 2, 1) := by decide +kernel
theorem dL_law_225 : decode cL_law 225 = .ok (.iadd, 1) := by decide +kernel
theorem dL_law_226 : decode cL_law 226 = .ok (.iaload, 1) := by decide +kernel
theorem dL_law_227 : decode cL_law 227 = .ok (.aload_n 0, 1) := by decide +kernel
theorem dL_law_228 : decode cL_law 228 = .ok (.iload_n 3, 1) := by decide +kernel
theorem dL_law_229 : decode cL_law 229 = .ok (.iconst 3, 1) := by decide +kernel
theorem dL_law_230 : decode cL_law 230 = .ok (.iadd, 1) := by decide +kernel
theorem dL_law_231 : decode cL_law 231 = .ok (.iaload, 1) := by decide +kernel
theorem dL_law_232 : decode cL_law 232 = .ok (.aload_n 0, 1) := by decide +kernel
theorem dL_law_233 : decode cL_law 233 = .ok (.iload_n 3, 1) := by decide +kernel
theorem dL_law_234 : decode cL_law 234 = .ok (.iconst 4, 1) := by decide +kernel
theorem dL_law_235 : decode cL_law 235 = .ok (.iadd, 1) := by decide +kernel
theorem dL_law_236 : decode cL_law 236 = .ok (.iaload, 1) := by decide +kernel
theorem dL_law_237 : decode cL_law 237 = .ok (.invokevirtual 17, 3) := by decide +kernel
theorem dL_law_240 : decode cL_law 240 = .ok (.if_icmp .eq 1299, 3) := by decide +kernel
theorem dL_law_243 : decode cL_law 243 = .ok (.iconst 0, 1) := by decide +kernel
theorem dL_law_244 : decode cL_law 244 = .ok (.ireturn, 1) := by decide +kernel
theorem dL_law_245 : decode cL_law 245 = .ok (.aload_n 1, 1) := by decide +kernel
theorem dL_law_246 : decode cL_law 246 = .ok (.invokevirtual 18, 3) := by decide +kernel
theorem dL_law_249 : decode cL_law 249 = .ok (.aload_n 2, 1) := by decide +kernel
theorem dL_law_250 : decode cL_law 250 = .ok (.invokevirtual 22, 3) := by decide +kernel
theorem dL_law_253 : decode cL_law 253 = .ok (.if_icmp .eq 1286, 3) := by decide +kernel
theorem dL_law_256 : decode cL_law 256 = .ok (.iconst 0, 1) := by decide +kernel
theorem dL_law_257 : decode cL_law 257 = .ok (.ireturn, 1) := by decide +kernel
theorem dL_law_258 : decode cL_law 258 = .ok (.aload_n 1, 1) := by decide +kernel
theorem dL_law_259 : decode cL_law 259 = .ok (.aload_n 0, 1) := by decide +kernel
theorem dL_law_260 : decode cL_law 260 = .ok (.iload_n 3, 1) := by decide +kernel
theorem dL_law_261 : decode cL_law 261 = .ok (.iconst 1, 1) := by decide +kernel
theorem dL_law_262 : decode cL_law 262 = .ok (.iadd, 1) := by decide +kernel
theorem dL_law_263 : decode cL_law 263 = .ok (.iaload, 1) := by decide +kernel
theorem dL_law_264 : decode cL_law 264 = .ok (.aload_n 0, 1) := by decide +kernel
theorem dL_law_265 : decode cL_law 265 = .ok (.iload_n 3, 1) := by decide +kernel
theorem dL_law_266 : decode cL_law 266 = .ok (.iconst 2, 1) := by decide +kernel
theorem dL_law_267 : decode cL_law 267 = .ok (.iadd, 1) := by decide +kernel
theorem dL_law_268 : decode cL_law 268 = .ok (.iaload, 1) := by decide +kernel
theorem dL_law_269 : decode cL_law 269 = .ok (.aload_n 0, 1) := by decide +kernel
theorem dL_law_270 : decode cL_law 270 = .ok (.iload_n 3, 1) := by decide +kernel
theorem dL_law_271 : decode cL_law 271 = .ok (.iconst 3, 1) := by decide +kernel
theorem dL_law_272 : decode cL_law 272 = .ok (.iadd, 1) := by decide +kernel
theorem dL_law_273 : decode cL_law 273 = .ok (.iaload, 1) := by decide +kernel
theorem dL_law_274 : decode cL_law 274 = .ok (.invokevirtual 23, 3) := by decide +kernel
theorem dL_law_277 : decode cL_law 277 = .ok (.aload_n 2, 1) := by decide +kernel
theorem dL_law_278 : decode cL_law 278 = .ok (.aload_n 0, 1) := by decide +kernel
theorem dL_law_279 : decode cL_law 279 = .ok (.iload_n 3, 1) := by decide +kernel
theorem dL_law_280 : decode cL_law 280 = .ok (.iconst 1, 1) := by decide +kernel
theorem dL_law_281 : decode cL_law 281 = .ok (.iadd, 1) := by decide +kernel
theorem dL_law_282 : decode cL_law 282 = .ok (.iaload, 1) := by decide +kernel
theorem dL_law_283 : decode cL_law 283 = .ok (.aload_n 0, 1) := by decide +kernel
theorem dL_law_284 : decode cL_law 284 = .ok (.iload_n 3, 1) := by decide +kernel
theorem dL_law_285 : decode cL_law 285 = .ok (.iconst 2, 1) := by decide +kernel
theorem dL_law_286 : decode cL_law 286 = .ok (.iadd, 1) := by decide +kernel
theorem dL_law_287 : decode cL_law 287 = .ok (.iaload, 1) := by decide +kernel
theorem dL_law_288 : decode cL_law 288 = .ok (.aload_n 0, 1) := by decide +kernel
theorem dL_law_289 : decode cL_law 289 = .ok (.iload_n 3, 1) := by decide +kernel
theorem dL_law_290 : decode cL_law 290 = .ok (.iconst 3, 1) := by decide +kernel
theorem dL_law_291 : decode cL_law 291 = .ok (.iadd, 1) := by decide +kernel
theorem dL_law_292 : decode cL_law 292 = .ok (.iaload, 1) := by decide +kernel
theorem dL_law_293 : decode cL_law 293 = .ok (.invokevirtual 27, 3) := by decide +kernel
theorem dL_law_296 : decode cL_law 296 = .ok (.if_icmp .eq 1243, 3) := by decide +kernel
theorem dL_law_299 : decode cL_law 299 = .ok (.iconst 0, 1) := by decide +kernel
theorem dL_law_300 : decode cL_law 300 = .ok (.ireturn, 1) := by decide +kernel
theorem dL_law_301 : decode cL_law 301 = .ok (.aload_n 1, 1) := by decide +kernel
theorem dL_law_302 : decode cL_law 302 = .ok (.aload_n 0, 1) := by decide +kernel
theorem dL_law_303 : decode cL_law 303 = .ok (.iload_n 3, 1) := by decide +kernel
theorem dL_law_304 : decode cL_law 304 = .ok (.iconst 1, 1) := by decide +kernel
theorem dL_law_305 : decode cL_law 305 = .ok (.iadd, 1) := by decide +kernel
theorem dL_law_306 : decode cL_law 306 = .ok (.iaload, 1) := by decide +kernel
theorem dL_law_307 : decode cL_law 307 = .ok (.invokevirtual 28, 3) := by decide +kernel
theorem dL_law_310 : decode cL_law 310 = .ok (.aload_n 2, 1) := by decide +kernel
theorem dL_law_311 : decode cL_law 311 = .ok (.aload_n 0, 1) := by decide +kernel
theorem dL_law_312 : decode cL_law 312 = .ok (.iload_n 3, 1) := by decide +kernel
theorem dL_law_313 : decode cL_law 313 = .ok (.iconst 1, 1) := by decide +kernel
theorem dL_law_314 : decode cL_law 314 = .ok (.iadd, 1) := by decide +kernel
theorem dL_law_315 : decode cL_law 315 = .ok (.iaload, 1) := by decide +kernel
theorem dL_law_316 : decode cL_law 316 = .ok (.invokevirtual 32, 3) := by decide +kernel
theorem dL_law_319 : decode cL_law 319 = .ok (.if_icmp .eq 1220, 3) := by decide +kernel
theorem dL_law_322 : decode cL_law 322 = .ok (.iconst 0, 1) := by decide +kernel
theorem dL_law_323 : decode cL_law 323 = .ok (.ireturn, 1) := by decide +kernel
theorem dL_law_324 : decode cL_law 324 = .ok (.aload_n 1, 1) := by decide +kernel
theorem dL_law_325 : decode cL_law 325 = .ok (.aload_n 0, 1) := by decide +kernel
theorem dL_law_326 : decode cL_law 326 = .ok (.iload_n 3, 1) := by decide +kernel
theorem dL_law_327 : decode cL_law 327 = .ok (.iconst 1, 1) := by decide +kernel
theorem dL_law_328 : decode cL_law 328 = .ok (.iadd, 1) := by decide +kernel
theorem dL_law_329 : decode cL_law 329 = .ok (.iaload, 1) := by decide +kernel
theorem dL_law_330 : decode cL_law 330 = .ok (.invokevirtual 33, 3) := by decide +kernel
theorem dL_law_333 : decode cL_law 333 = .ok (.aload_n 2, 1) := by decide +kernel
theorem dL_law_334 : decode cL_law 334 = .ok (.aload_n 0, 1) := by decide +kernel
theorem dL_law_335 : decode cL_law 335 = .ok (.iload_n 3, 1) := by decide +kernel
theorem dL_law_336 : decode cL_law 336 = .ok (.iconst 1, 1) := by decide +kernel
theorem dL_law_337 : decode cL_law 337 = .ok (.iadd, 1) := by decide +kernel
theorem dL_law_338 : decode cL_law 338 = .ok (.iaload, 1) := by decide +kernel
theorem dL_law_339 : decode cL_law 339 = .ok (.invokevirtual 36, 3) := by decide +kernel
theorem dL_law_342 : decode cL_law 342 = .ok (.if_icmp .eq 1197, 3) := by decide +kernel
theorem dL_law_345 : decode cL_law 345 = .ok (.iconst 0, 1) := by decide +kernel
theorem dL_law_346 : decode cL_law 346 = .ok (.ireturn, 1) := by decide +kernel
theorem dL_law_347 : decode cL_law 347 = .ok (.aload_n 1, 1) := by decide +kernel
theorem dL_law_348 : decode cL_law 348 = .ok (.aload_n 0, 1) := by decide +kernel
theorem dL_law_349 : decode cL_law 349 = .ok (.iload_n 3, 1) := by decide +kernel
theorem dL_law_350 : decode cL_law 350 = .ok (.iconst 1, 1) := by decide +kernel
theorem dL_law_351 : decode cL_law 351 = .ok (.iadd, 1) := by decide +kernel
theorem dL_law_352 : decode cL_law 352 = .ok (.iaload, 1) := by decide +kernel
theorem dL_law_353 : decode cL_law 353 = .ok (.aload_n 0, 1) := by decide +kernel
theorem dL_law_354 : decode cL_law 354 = .ok (.iload_n 3, 1) := by decide +kernel
theorem dL_law_355 : decode cL_law 355 = .ok (.iconst 2, 1) := by decide +kernel
theorem dL_law_356 : decode cL_law 356 = .ok (.iadd, 1) := by decide +kernel
theorem dL_law_357 : decode cL_law 357 = .ok (.iaload, 1) := by decide +kernel
theorem dL_law_358 : decode cL_law 358 = .ok (.aload_n 0, 1) := by decide +kernel
theorem dL_law_359 : decode cL_law 359 = .ok (.iload_n 3, 1) := by decide +kernel
theorem dL_law_360 : decode cL_law 360 = .ok (.iconst 3, 1) := by decide +kernel
theorem dL_law_361 : decode cL_law 361 = .ok (.iadd, 1) := by decide +kernel
theorem dL_law_362 : decode cL_law 362 = .ok (.iaload, 1) := by decide +kernel
theorem dL_law_363 : decode cL_law 363 = .ok (.invokevirtual 37, 3) := by decide +kernel
theorem dL_law_366 : decode cL_law 366 = .ok (.aload_n 2, 1) := by decide +kernel
theorem dL_law_367 : decode cL_law 367 = .ok (.aload_n 0, 1) := by decide +kernel
theorem dL_law_368 : decode cL_law 368 = .ok (.iload_n 3, 1) := by decide +kernel
theorem dL_law_369 : decode cL_law 369 = .ok (.iconst 1, 1) := by decide +kernel
theorem dL_law_370 : decode cL_law 370 = .ok (.iadd, 1) := by decide +kernel
theorem dL_law_371 : decode cL_law 371 = .ok (.iaload, 1) := by decide +kernel
theorem dL_law_372 : decode cL_law 372 = .ok (.aload_n 0, 1) := by decide +kernel
theorem dL_law_373 : decode cL_law 373 = .ok (.iload_n 3, 1) := by decide +kernel
theorem dL_law_374 : decode cL_law 374 = .ok (.iconst 2, 1) := by decide +kernel
theorem dL_law_375 : decode cL_law 375 = .ok (.iadd, 1) := by decide +kernel
theorem dL_law_376 : decode cL_law 376 = .ok (.iaload, 1) := by decide +kernel
theorem dL_law_377 : decode cL_law 377 = .ok (.aload_n 0, 1) := by decide +kernel
theorem dL_law_378 : decode cL_law 378 = .ok (.iload_n 3, 1) := by decide +kernel
theorem dL_law_379 : decode cL_law 379 = .ok (.iconst 3, 1) := by decide +kernel
theorem dL_law_380 : decode cL_law 380 = .ok (.iadd, 1) := by decide +kernel
theorem dL_law_381 : decode cL_law 381 = .ok (.iaload, 1) := by decide +kernel
theorem dL_law_382 : decode cL_law 382 = .ok (.invokevirtual 40, 3) := by decide +kernel
theorem dL_law_385 : decode cL_law 385 = .ok (.if_icmp .eq 1154, 3) := by decide +kernel
theorem dL_law_388 : decode cL_law 388 = .ok (.iconst 0, 1) := by decide +kernel
theorem dL_law_389 : decode cL_law 389 = .ok (.ireturn, 1) := by decide +kernel
theorem dL_law_390 : decode cL_law 390 = .ok (.aload_n 1, 1) := by decide +kernel
theorem dL_law_391 : decode cL_law 391 = .ok (.aload_n 0, 1) := by decide +kernel
theorem dL_law_392 : decode cL_law 392 = .ok (.iload_n 3, 1) := by decide +kernel
theorem dL_law_393 : decode cL_law 393 = .ok (.iconst 1, 1) := by decide +kernel
theorem dL_law_394 : decode cL_law 394 = .ok (.iadd, 1) := by decide +kernel
theorem dL_law_395 : decode cL_law 395 = .ok (.iaload, 1) := by decide +kernel
theorem dL_law_396 : decode cL_law 396 = .ok (.aload_n 0, 1) := by decide +kernel
theorem dL_law_397 : decode cL_law 397 = .ok (.iload_n 3, 1) := by decide +kernel
theorem dL_law_398 : decode cL_law 398 = .ok (.iconst 2, 1) := by decide +kernel
theorem dL_law_399 : decode cL_law 399 = .ok (.iadd, 1) := by decide +kernel
theorem dL_law_400 : decode cL_law 400 = .ok (.iaload, 1) := by decide +kernel
theorem dL_law_401 : decode cL_law 401 = .ok (.invokevirtual 41, 3) := by decide +kernel
theorem dL_law_404 : decode cL_law 404 = .ok (.aload_n 2, 1) := by decide +kernel
theorem dL_law_405 : decode cL_law 405 = .ok (.aload_n 0, 1) := by decide +kernel
theorem dL_law_406 : decode cL_law 406 = .ok (.iload_n 3, 1) := by decide +kernel
theorem dL_law_407 : decode cL_law 407 = .ok (.iconst 1, 1) := by decide +kernel
theorem dL_law_408 : decode cL_law 408 = .ok (.iadd, 1) := by decide +kernel
theorem dL_law_409 : decode cL_law 409 = .ok (.iaload, 1) := by decide +kernel
theorem dL_law_410 : decode cL_law 410 = .ok (.aload_n 0, 1) := by decide +kernel
theorem dL_law_411 : decode cL_law 411 = .ok (.iload_n 3, 1) := by decide +kernel
theorem dL_law_412 : decode cL_law 412 = .ok (.iconst 2, 1) := by decide +kernel
theorem dL_law_413 : decode cL_law 413 = .ok (.iadd, 1) := by decide +kernel
theorem dL_law_414 : decode cL_law 414 = .ok (.iaload, 1) := by decide +kernel
theorem dL_law_415 : decode cL_law 415 = .ok (.invokevirtual 45, 3) := by decide +kernel
theorem dL_law_418 : decode cL_law 418 = .ok (.if_icmp .eq 1121, 3) := by decide +kernel
theorem dL_law_421 : decode cL_law 421 = .ok (.iconst 0, 1) := by decide +kernel
theorem dL_law_422 : decode cL_law 422 = .ok (.ireturn, 1) := by decide +kernel
theorem dL_law_423 : decode cL_law 423 = .ok (.aload_n 1, 1) := by decide +kernel
theorem dL_law_424 : decode cL_law 424 = .ok (.aload_n 0, 1) := by decide +kernel
theorem dL_law_425 : decode cL_law 425 = .ok (.iload_n 3, 1) := by decide +kernel
theorem dL_law_426 : decode cL_law 426 = .ok (.iconst 1, 1) := by decide +kernel
theorem dL_law_427 : decode cL_law 427 = .ok (.iadd, 1) := by decide +kernel
theorem dL_law_428 : decode cL_law 428 = .ok (.iaload, 1) := by decide +kernel
theorem dL_law_429 : decode cL_law 429 = .ok (.aload_n 0, 1) := by decide +kernel
theorem dL_law_430 : decode cL_law 430 = .ok (.iload_n 3, 1) := by decide +kernel
theorem dL_law_431 : decode cL_law 431 = .ok (.iconst 2, 1) := by decide +kernel
theorem dL_law_432 : decode cL_law 432 = .ok (.iadd, 1) := by decide +kernel
theorem dL_law_433 : decode cL_law 433 = .ok (.iaload, 1) := by decide +kernel
theorem dL_law_434 : decode cL_law 434 = .ok (.invokevirtual 46, 3) := by decide +kernel
theorem dL_law_437 : decode cL_law 437 = .ok (.aload_n 2, 1) := by decide +kernel
theorem dL_law_438 : decode cL_law 438 = .ok (.aload_n 0, 1) := by decide +kernel
theorem dL_law_439 : decode cL_law 439 = .ok (.iload_n 3, 1) := by decide +kernel
theorem dL_law_440 : decode cL_law 440 = .ok (.iconst 1, 1) := by decide +kernel
theorem dL_law_441 : decode cL_law 441 = .ok (.iadd, 1) := by decide +kernel
theorem dL_law_442 : decode cL_law 442 = .ok (.iaload, 1) := by decide +kernel
theorem dL_law_443 : decode cL_law 443 = .ok (.aload_n 0, 1) := by decide +kernel
theorem dL_law_444 : decode cL_law 444 = .ok (.iload_n 3, 1) := by decide +kernel
theorem dL_law_445 : decode cL_law 445 = .ok (.iconst 2, 1) := by decide +kernel
theorem dL_law_446 : decode cL_law 446 = .ok (.iadd, 1) := by decide +kernel
theorem dL_law_447 : decode cL_law 447 = .ok (.iaload, 1) := by decide +kernel
theorem dL_law_448 : decode cL_law 448 = .ok (.invokevirtual 49, 3) := by decide +kernel
theorem dL_law_451 : decode cL_law 451 = .ok (.if_icmp .eq 1088, 3) := by decide +kernel
theorem dL_law_454 : decode cL_law 454 = .ok (.iconst 0, 1) := by decide +kernel
theorem dL_law_455 : decode cL_law 455 = .ok (.ireturn, 1) := by decide +kernel
theorem dL_law_456 : decode cL_law 456 = .ok (.aload_n 1, 1) := by decide +kernel
theorem dL_law_457 : decode cL_law 457 = .ok (.aload_n 0, 1) := by decide +kernel
theorem dL_law_458 : decode cL_law 458 = .ok (.iload_n 3, 1) := by decide +kernel
theorem dL_law_459 : decode cL_law 459 = .ok (.iconst 1, 1) := by decide +kernel
theorem dL_law_460 : decode cL_law 460 = .ok (.iadd, 1) := by decide +kernel
theorem dL_law_461 : decode cL_law 461 = .ok (.iaload, 1) := by decide +kernel
theorem dL_law_462 : decode cL_law 462 = .ok (.aload_n 0, 1) := by decide +kernel
theorem dL_law_463 : decode cL_law 463 = .ok (.iload_n 3, 1) := by decide +kernel
theorem dL_law_464 : decode cL_law 464 = .ok (.iconst 2, 1) := by decide +kernel
theorem dL_law_465 : decode cL_law 465 = .ok (.iadd, 1) := by decide +kernel
theorem dL_law_466 : decode cL_law 466 = .ok (.iaload, 1) := by decide +kernel
theorem dL_law_467 : decode cL_law 467 = .ok (.invokevirtual 50, 3) := by decide +kernel
theorem dL_law_470 : decode cL_law 470 = .ok (.aload_n 2, 1) := by decide +kernel
theorem dL_law_471 : decode cL_law 471 = .ok (.aload_n 0, 1) := by decide +kernel
theorem dL_law_472 : decode cL_law 472 = .ok (.iload_n 3, 1) := by decide +kernel
theorem dL_law_473 : decode cL_law 473 = .ok (.iconst 1, 1) := by decide +kernel
theorem dL_law_474 : decode cL_law 474 = .ok (.iadd, 1) := by decide +kernel
theorem dL_law_475 : decode cL_law 475 = .ok (.iaload, 1) := by decide +kernel
theorem dL_law_476 : decode cL_law 476 = .ok (.aload_n 0, 1) := by decide +kernel
theorem dL_law_477 : decode cL_law 477 = .ok (.iload_n 3, 1) := by decide +kernel
theorem dL_law_478 : decode cL_law 478 = .ok (.iconst 2, 1) := by decide +kernel
theorem dL_law_479 : decode cL_law 479 = .ok (.iadd, 1) := by decide +kernel
theorem dL_law_480 : decode cL_law 480 = .ok (.iaload, 1) := by decide +kernel
theorem dL_law_481 : decode cL_law 481 = .ok (.invokevirtual 53, 3) := by decide +kernel
theorem dL_law_484 : decode cL_law 484 = .ok (.if_icmp .eq 1055, 3) := by decide +kernel
theorem dL_law_487 : decode cL_law 487 = .ok (.iconst 0, 1) := by decide +kernel
theorem dL_law_488 : decode cL_law 488 = .ok (.ireturn, 1) := by decide +kernel
theorem dL_law_489 : decode cL_law 489 = .ok (.aload_n 1, 1) := by decide +kernel
theorem dL_law_490 : decode cL_law 490 = .ok (.aload_n 0, 1) := by decide +kernel
theorem dL_law_491 : decode cL_law 491 = .ok (.iload_n 3, 1) := by decide +kernel
theorem dL_law_492 : decode cL_law 492 = .ok (.iconst 1, 1) := by decide +kernel
theorem dL_law_493 : decode cL_law 493 = .ok (.iadd, 1) := by decide +kernel
theorem dL_law_494 : decode cL_law 494 = .ok (.iaload, 1) := by decide +kernel
theorem dL_law_495 : decode cL_law 495 = .ok (.aload_n 0, 1) := by decide +kernel
theorem dL_law_496 : decode cL_law 496 = .ok (.iload_n 3, 1) := by decide +kernel
theorem dL_law_497 : decode cL_law 497 = .ok (.iconst 2, 1) := by decide +kernel
theorem dL_law_498 : decode cL_law 498 = .ok (.iadd, 1) := by decide +kernel
theorem dL_law_499 : decode cL_law 499 = .ok (.iaload, 1) := by decide +kernel
theorem dL_law_500 : decode cL_law 500 = .ok (.invokevirtual 54, 3) := by decide +kernel
theorem dL_law_503 : decode cL_law 503 = .ok (.aload_n 2, 1) := by decide +kernel
theorem dL_law_504 : decode cL_law 504 = .ok (.aload_n 0, 1) := by decide +kernel
theorem dL_law_505 : decode cL_law 505 = .ok (.iload_n 3, 1) := by decide +kernel
theorem dL_law_506 : decode cL_law 506 = .ok (.iconst 1, 1) := by decide +kernel
theorem dL_law_507 : decode cL_law 507 = .ok (.iadd, 1) := by decide +kernel
theorem dL_law_508 : decode cL_law 508 = .ok (.iaload, 1) := by decide +kernel
theorem dL_law_509 : decode cL_law 509 = .ok (.aload_n 0, 1) := by decide +kernel
theorem dL_law_510 : decode cL_law 510 = .ok (.iload_n 3, 1) := by decide +kernel
theorem dL_law_511 : decode cL_law 511 = .ok (.iconst 2, 1) := by decide +kernel
theorem dL_law_512 : decode cL_law 512 = .ok (.iadd, 1) := by decide +kernel
theorem dL_law_513 : decode cL_law 513 = .ok (.iaload, 1) := by decide +kernel
theorem dL_law_514 : decode cL_law 514 = .ok (.invokevirtual 57, 3) := by decide +kernel
theorem dL_law_517 : decode cL_law 517 = .ok (.if_icmp .eq 1022, 3) := by decide +kernel
theorem dL_law_520 : decode cL_law 520 = .ok (.iconst 0, 1) := by decide +kernel
theorem dL_law_521 : decode cL_law 521 = .ok (.ireturn, 1) := by decide +kernel
theorem dL_law_522 : decode cL_law 522 = .ok (.aload_n 1, 1) := by decide +kernel
theorem dL_law_523 : decode cL_law 523 = .ok (.aload_n 0, 1) := by decide +kernel
theorem dL_law_524 : decode cL_law 524 = .ok (.iload_n 3, 1) := by decide +kernel
theorem dL_law_525 : decode cL_law 525 = .ok (.iconst 1, 1) := by decide +kernel
theorem dL_law_526 : decode cL_law 526 = .ok (.iadd, 1) := by decide +kernel
theorem dL_law_527 : decode cL_law 527 = .ok (.iaload, 1) := by decide +kernel
theorem dL_law_528 : decode cL_law 528 = .ok (.aload_n 0, 1) := by decide +kernel
theorem dL_law_529 : decode cL_law 529 = .ok (.iload_n 3, 1) := by decide +kernel
theorem dL_law_530 : decode cL_law 530 = .ok (.iconst 2, 1) := by decide +kernel
theorem dL_law_531 : decode cL_law 531 = .ok (.iadd, 1) := by decide +kernel
theorem dL_law_532 : decode cL_law 532 = .ok (.iaload, 1) := by decide +kernel
theorem dL_law_533 : decode cL_law 533 = .ok (.invokevirtual 58, 3) := by decide +kernel
theorem dL_law_536 : decode cL_law 536 = .ok (.aload_n 2, 1) := by decide +kernel
theorem dL_law_537 : decode cL_law 537 = .ok (.aload_n 0, 1) := by decide +kernel
theorem dL_law_538 : decode cL_law 538 = .ok (.iload_n 3, 1) := by decide +kernel
theorem dL_law_539 : decode cL_law 539 = .ok (.iconst 1, 1) := by decide +kernel
theorem dL_law_540 : decode cL_law 540 = .ok (.iadd, 1) := by decide +kernel
theorem dL_law_541 : decode cL_law 541 = .ok (.iaload, 1) := by decide +kernel
theorem dL_law_542 : decode cL_law 542 = .ok (.aload_n 0, 1) := by decide +kernel
theorem dL_law_543 : decode cL_law 543 = .ok (.iload_n 3, 1) := by decide +kernel
theorem dL_law_544 : decode cL_law 544 = .ok (.iconst 2, 1) := by decide +kernel
theorem dL_law_545 : decode cL_law 545 = .ok (.iadd, 1) := by decide +kernel
theorem dL_law_546 : decode cL_law 546 = .ok (.iaload, 1) := by decide +kernel
theorem dL_law_547 : decode cL_law 547 = .ok (.invokevirtual 62, 3) := by decide +kernel
theorem dL_law_550 : decode cL_law 550 = .ok (.lcmp, 1) := by decide +kernel
theorem dL_law_551 : decode cL_law 551 = .ok (.ifCond .eq 988, 3) := by decide +kernel
theorem dL_law_554 : decode cL_law 554 = .ok (.iconst 0, 1) := by decide +kernel
theorem dL_law_555 : decode cL_law 555 = .ok (.ireturn, 1) := by decide +kernel
theorem dL_law_556 : decode cL_law 556 = .ok (.aload_n 1, 1) := by decide +kernel
theorem dL_law_557 : decode cL_law 557 = .ok (.aload_n 0, 1) := by decide +kernel
theorem dL_law_558 : decode cL_law 558 = .ok (.iload_n 3, 1) := by decide +kernel
theorem dL_law_559 : decode cL_law 559 = .ok (.iconst 1, 1) := by decide +kernel
theorem dL_law_560 : decode cL_law 560 = .ok (.iadd, 1) := by decide +kernel
theorem dL_law_561 : decode cL_law 561 = .ok (.iaload, 1) := by decide +kernel
theorem dL_law_562 : decode cL_law 562 = .ok (.invokevirtual 63, 3) := by decide +kernel
theorem dL_law_565 : decode cL_law 565 = .ok (.aload_n 2, 1) := by decide +kernel
theorem dL_law_566 : decode cL_law 566 = .ok (.aload_n 0, 1) := by decide +kernel
theorem dL_law_567 : decode cL_law 567 = .ok (.iload_n 3, 1) := by decide +kernel
theorem dL_law_568 : decode cL_law 568 = .ok (.iconst 1, 1) := by decide +kernel
theorem dL_law_569 : decode cL_law 569 = .ok (.iadd, 1) := by decide +kernel
theorem dL_law_570 : decode cL_law 570 = .ok (.iaload, 1) := by decide +kernel
theorem dL_law_571 : decode cL_law 571 = .ok (.invokevirtual 66, 3) := by decide +kernel
theorem dL_law_574 : decode cL_law 574 = .ok (.if_icmp .eq 965, 3) := by decide +kernel
theorem dL_law_577 : decode cL_law 577 = .ok (.iconst 0, 1) := by decide +kernel
theorem dL_law_578 : decode cL_law 578 = .ok (.ireturn, 1) := by decide +kernel
theorem dL_law_579 : decode cL_law 579 = .ok (.aload_n 1, 1) := by decide +kernel
theorem dL_law_580 : decode cL_law 580 = .ok (.invokevirtual 67, 3) := by decide +kernel
theorem dL_law_583 : decode cL_law 583 = .ok (.aload_n 2, 1) := by decide +kernel
theorem dL_law_584 : decode cL_law 584 = .ok (.invokevirtual 71, 3) := by decide +kernel
theorem dL_law_587 : decode cL_law 587 = .ok (.lcmp, 1) := by decide +kernel
theorem dL_law_588 : decode cL_law 588 = .ok (.ifCond .eq 951, 3) := by decide +kernel
theorem dL_law_591 : decode cL_law 591 = .ok (.iconst 0, 1) := by decide +kernel
theorem dL_law_592 : decode cL_law 592 = .ok (.ireturn, 1) := by decide +kernel
theorem dL_law_593 : decode cL_law 593 = .ok (.aload_n 1, 1) := by decide +kernel
theorem dL_law_594 : decode cL_law 594 = .ok (.aload_n 0, 1) := by decide +kernel
theorem dL_law_595 : decode cL_law 595 = .ok (.iload_n 3, 1) := by decide +kernel
theorem dL_law_596 : decode cL_law 596 = .ok (.iconst 1, 1) := by decide +kernel
theorem dL_law_597 : decode cL_law 597 = .ok (.iadd, 1) := by decide +kernel
theorem dL_law_598 : decode cL_law 598 = .ok (.iaload, 1) := by decide +kernel
theorem dL_law_599 : decode cL_law 599 = .ok (.invokevirtual 72, 3) := by decide +kernel
theorem dL_law_602 : decode cL_law 602 = .ok (.aload_n 2, 1) := by decide +kernel
theorem dL_law_603 : decode cL_law 603 = .ok (.aload_n 0, 1) := by decide +kernel
theorem dL_law_604 : decode cL_law 604 = .ok (.iload_n 3, 1) := by decide +kernel
theorem dL_law_605 : decode cL_law 605 = .ok (.iconst 1, 1) := by decide +kernel
theorem dL_law_606 : decode cL_law 606 = .ok (.iadd, 1) := by decide +kernel
theorem dL_law_607 : decode cL_law 607 = .ok (.iaload, 1) := by decide +kernel
theorem dL_law_608 : decode cL_law 608 = .ok (.invokevirtual 76, 3) := by decide +kernel
theorem dL_law_611 : decode cL_law 611 = .ok (.lcmp, 1) := by decide +kernel
theorem dL_law_612 : decode cL_law 612 = .ok (.ifCond .eq 927, 3) := by decide +kernel
theorem dL_law_615 : decode cL_law 615 = .ok (.iconst 0, 1) := by decide +kernel
theorem dL_law_616 : decode cL_law 616 = .ok (.ireturn, 1) := by decide +kernel
theorem dL_law_617 : decode cL_law 617 = .ok (.aload_n 1, 1) := by decide +kernel
theorem dL_law_618 : decode cL_law 618 = .ok (.aload_n 0, 1) := by decide +kernel
theorem dL_law_619 : decode cL_law 619 = .ok (.iload_n 3, 1) := by decide +kernel
theorem dL_law_620 : decode cL_law 620 = .ok (.iconst 1, 1) := by decide +kernel
theorem dL_law_621 : decode cL_law 621 = .ok (.iadd, 1) := by decide +kernel
theorem dL_law_622 : decode cL_law 622 = .ok (.iaload, 1) := by decide +kernel
theorem dL_law_623 : decode cL_law 623 = .ok (.aload_n 0, 1) := by decide +kernel
theorem dL_law_624 : decode cL_law 624 = .ok (.iload_n 3, 1) := by decide +kernel
theorem dL_law_625 : decode cL_law 625 = .ok (.iconst 2, 1) := by decide +kernel
theorem dL_law_626 : decode cL_law 626 = .ok (.iadd, 1) := by decide +kernel
theorem dL_law_627 : decode cL_law 627 = .ok (.iaload, 1) := by decide +kernel
theorem dL_law_628 : decode cL_law 628 = .ok (.invokevirtual 77, 3) := by decide +kernel
theorem dL_law_631 : decode cL_law 631 = .ok (.aload_n 2, 1) := by decide +kernel
theorem dL_law_632 : decode cL_law 632 = .ok (.aload_n 0, 1) := by decide +kernel
theorem dL_law_633 : decode cL_law 633 = .ok (.iload_n 3, 1) := by decide +kernel
theorem dL_law_634 : decode cL_law 634 = .ok (.iconst 1, 1) := by decide +kernel
theorem dL_law_635 : decode cL_law 635 = .ok (.iadd, 1) := by decide +kernel
theorem dL_law_636 : decode cL_law 636 = .ok (.iaload, 1) := by decide +kernel
theorem dL_law_637 : decode cL_law 637 = .ok (.aload_n 0, 1) := by decide +kernel
theorem dL_law_638 : decode cL_law 638 = .ok (.iload_n 3, 1) := by decide +kernel
theorem dL_law_639 : decode cL_law 639 = .ok (.iconst 2, 1) := by decide +kernel
theorem dL_law_640 : decode cL_law 640 = .ok (.iadd, 1) := by decide +kernel
theorem dL_law_641 : decode cL_law 641 = .ok (.iaload, 1) := by decide +kernel
theorem dL_law_642 : decode cL_law 642 = .ok (.invokevirtual 80, 3) := by decide +kernel
theorem dL_law_645 : decode cL_law 645 = .ok (.lcmp, 1) := by decide +kernel
theorem dL_law_646 : decode cL_law 646 = .ok (.ifCond .eq 893, 3) := by decide +kernel
theorem dL_law_649 : decode cL_law 649 = .ok (.iconst 0, 1) := by decide +kernel
theorem dL_law_650 : decode cL_law 650 = .ok (.ireturn, 1) := by decide +kernel
theorem dL_law_651 : decode cL_law 651 = .ok (.aload_n 1, 1) := by decide +kernel
theorem dL_law_652 : decode cL_law 652 = .ok (.aload_n 0, 1) := by decide +kernel
theorem dL_law_653 : decode cL_law 653 = .ok (.iload_n 3, 1) := by decide +kernel
theorem dL_law_654 : decode cL_law 654 = .ok (.iconst 1, 1) := by decide +kernel
theorem dL_law_655 : decode cL_law 655 = .ok (.iadd, 1) := by decide +kernel
theorem dL_law_656 : decode cL_law 656 = .ok (.iaload, 1) := by decide +kernel
theorem dL_law_657 : decode cL_law 657 = .ok (.aload_n 0, 1) := by decide +kernel
theorem dL_law_658 : decode cL_law 658 = .ok (.iload_n 3, 1) := by decide +kernel
theorem dL_law_659 : decode cL_law 659 = .ok (.iconst 2, 1) := by decide +kernel
theorem dL_law_660 : decode cL_law 660 = .ok (.iadd, 1) := by decide +kernel
theorem dL_law_661 : decode cL_law 661 = .ok (.iaload, 1) := by decide +kernel
theorem dL_law_662 : decode cL_law 662 = .ok (.invokevirtual 81, 3) := by decide +kernel
theorem dL_law_665 : decode cL_law 665 = .ok (.aload_n 2, 1) := by decide +kernel
theorem dL_law_666 : decode cL_law 666 = .ok (.aload_n 0, 1) := by decide +kernel
theorem dL_law_667 : decode cL_law 667 = .ok (.iload_n 3, 1) := by decide +kernel
theorem dL_law_668 : decode cL_law 668 = .ok (.iconst 1, 1) := by decide +kernel
theorem dL_law_669 : decode cL_law 669 = .ok (.iadd, 1) := by decide +kernel
theorem dL_law_670 : decode cL_law 670 = .ok (.iaload, 1) := by decide +kernel
theorem dL_law_671 : decode cL_law 671 = .ok (.aload_n 0, 1) := by decide +kernel
theorem dL_law_672 : decode cL_law 672 = .ok (.iload_n 3, 1) := by decide +kernel
theorem dL_law_673 : decode cL_law 673 = .ok (.iconst 2, 1) := by decide +kernel
theorem dL_law_674 : decode cL_law 674 = .ok (.iadd, 1) := by decide +kernel
theorem dL_law_675 : decode cL_law 675 = .ok (.iaload, 1) := by decide +kernel
theorem dL_law_676 : decode cL_law 676 = .ok (.invokevirtual 84, 3) := by decide +kernel
theorem dL_law_679 : decode cL_law 679 = .ok (.if_icmp .eq 860, 3) := by decide +kernel
theorem dL_law_682 : decode cL_law 682 = .ok (.iconst 0, 1) := by decide +kernel
theorem dL_law_683 : decode cL_law 683 = .ok (.ireturn, 1) := by decide +kernel
theorem dL_law_684 : decode cL_law 684 = .ok (.aload_n 1, 1) := by decide +kernel
theorem dL_law_685 : decode cL_law 685 = .ok (.aload_n 0, 1) := by decide +kernel
theorem dL_law_686 : decode cL_law 686 = .ok (.iload_n 3, 1) := by decide +kernel
theorem dL_law_687 : decode cL_law 687 = .ok (.iconst 1, 1) := by decide +kernel
theorem dL_law_688 : decode cL_law 688 = .ok (.iadd, 1) := by decide +kernel
theorem dL_law_689 : decode cL_law 689 = .ok (.iaload, 1) := by decide +kernel
theorem dL_law_690 : decode cL_law 690 = .ok (.aload_n 0, 1) := by decide +kernel
theorem dL_law_691 : decode cL_law 691 = .ok (.iload_n 3, 1) := by decide +kernel
theorem dL_law_692 : decode cL_law 692 = .ok (.iconst 2, 1) := by decide +kernel
theorem dL_law_693 : decode cL_law 693 = .ok (.iadd, 1) := by decide +kernel
theorem dL_law_694 : decode cL_law 694 = .ok (.iaload, 1) := by decide +kernel
theorem dL_law_695 : decode cL_law 695 = .ok (.aload_n 0, 1) := by decide +kernel
theorem dL_law_696 : decode cL_law 696 = .ok (.iload_n 3, 1) := by decide +kernel
theorem dL_law_697 : decode cL_law 697 = .ok (.iconst 3, 1) := by decide +kernel
theorem dL_law_698 : decode cL_law 698 = .ok (.iadd, 1) := by decide +kernel
theorem dL_law_699 : decode cL_law 699 = .ok (.iaload, 1) := by decide +kernel
theorem dL_law_700 : decode cL_law 700 = .ok (.invokevirtual 85, 3) := by decide +kernel
theorem dL_law_703 : decode cL_law 703 = .ok (.aload_n 2, 1) := by decide +kernel
theorem dL_law_704 : decode cL_law 704 = .ok (.aload_n 0, 1) := by decide +kernel
theorem dL_law_705 : decode cL_law 705 = .ok (.iload_n 3, 1) := by decide +kernel
theorem dL_law_706 : decode cL_law 706 = .ok (.iconst 1, 1) := by decide +kernel
theorem dL_law_707 : decode cL_law 707 = .ok (.iadd, 1) := by decide +kernel
theorem dL_law_708 : decode cL_law 708 = .ok (.iaload, 1) := by decide +kernel
theorem dL_law_709 : decode cL_law 709 = .ok (.aload_n 0, 1) := by decide +kernel
theorem dL_law_710 : decode cL_law 710 = .ok (.iload_n 3, 1) := by decide +kernel
theorem dL_law_711 : decode cL_law 711 = .ok (.iconst 2, 1) := by decide +kernel
theorem dL_law_712 : decode cL_law 712 = .ok (.iadd, 1) := by decide +kernel
theorem dL_law_713 : decode cL_law 713 = .ok (.iaload, 1) := by decide +kernel
theorem dL_law_714 : decode cL_law 714 = .ok (.aload_n 0, 1) := by decide +kernel
theorem dL_law_715 : decode cL_law 715 = .ok (.iload_n 3, 1) := by decide +kernel
theorem dL_law_716 : decode cL_law 716 = .ok (.iconst 3, 1) := by decide +kernel
theorem dL_law_717 : decode cL_law 717 = .ok (.iadd, 1) := by decide +kernel
theorem dL_law_718 : decode cL_law 718 = .ok (.iaload, 1) := by decide +kernel
theorem dL_law_719 : decode cL_law 719 = .ok (.invokevirtual 88, 3) := by decide +kernel
theorem dL_law_722 : decode cL_law 722 = .ok (.if_icmp .eq 817, 3) := by decide +kernel
theorem dL_law_725 : decode cL_law 725 = .ok (.iconst 0, 1) := by decide +kernel
theorem dL_law_726 : decode cL_law 726 = .ok (.ireturn, 1) := by decide +kernel
theorem dL_law_727 : decode cL_law 727 = .ok (.aload_n 1, 1) := by decide +kernel
theorem dL_law_728 : decode cL_law 728 = .ok (.aload_n 0, 1) := by decide +kernel
theorem dL_law_729 : decode cL_law 729 = .ok (.iload_n 3, 1) := by decide +kernel
theorem dL_law_730 : decode cL_law 730 = .ok (.iconst 1, 1) := by decide +kernel
theorem dL_law_731 : decode cL_law 731 = .ok (.iadd, 1) := by decide +kernel
theorem dL_law_732 : decode cL_law 732 = .ok (.iaload, 1) := by decide +kernel
theorem dL_law_733 : decode cL_law 733 = .ok (.aload_n 0, 1) := by decide +kernel
theorem dL_law_734 : decode cL_law 734 = .ok (.iload_n 3, 1) := by decide +kernel
theorem dL_law_735 : decode cL_law 735 = .ok (.iconst 2, 1) := by decide +kernel
theorem dL_law_736 : decode cL_law 736 = .ok (.iadd, 1) := by decide +kernel
theorem dL_law_737 : decode cL_law 737 = .ok (.iaload, 1) := by decide +kernel
theorem dL_law_738 : decode cL_law 738 = .ok (.aload_n 0, 1) := by decide +kernel
theorem dL_law_739 : decode cL_law 739 = .ok (.iload_n 3, 1) := by decide +kernel
theorem dL_law_740 : decode cL_law 740 = .ok (.iconst 3, 1) := by decide +kernel
theorem dL_law_741 : decode cL_law 741 = .ok (.iadd, 1) := by decide +kernel
theorem dL_law_742 : decode cL_law 742 = .ok (.iaload, 1) := by decide +kernel
theorem dL_law_743 : decode cL_law 743 = .ok (.aload_n 0, 1) := by decide +kernel
theorem dL_law_744 : decode cL_law 744 = .ok (.iload_n 3, 1) := by decide +kernel
theorem dL_law_745 : decode cL_law 745 = .ok (.iconst 4, 1) := by decide +kernel
theorem dL_law_746 : decode cL_law 746 = .ok (.iadd, 1) := by decide +kernel
theorem dL_law_747 : decode cL_law 747 = .ok (.iaload, 1) := by decide +kernel
theorem dL_law_748 : decode cL_law 748 = .ok (.invokevirtual 89, 3) := by decide +kernel
theorem dL_law_751 : decode cL_law 751 = .ok (.aload_n 2, 1) := by decide +kernel
theorem dL_law_752 : decode cL_law 752 = .ok (.aload_n 0, 1) := by decide +kernel
theorem dL_law_753 : decode cL_law 753 = .ok (.iload_n 3, 1) := by decide +kernel
theorem dL_law_754 : decode cL_law 754 = .ok (.iconst 1, 1) := by decide +kernel
theorem dL_law_755 : decode cL_law 755 = .ok (.iadd, 1) := by decide +kernel
theorem dL_law_756 : decode cL_law 756 = .ok (.iaload, 1) := by decide +kernel
theorem dL_law_757 : decode cL_law 757 = .ok (.aload_n 0, 1) := by decide +kernel
theorem dL_law_758 : decode cL_law 758 = .ok (.iload_n 3, 1) := by decide +kernel
theorem dL_law_759 : decode cL_law 759 = .ok (.iconst 2, 1) := by decide +kernel
theorem dL_law_760 : decode cL_law 760 = .ok (.iadd, 1) := by decide +kernel
theorem dL_law_761 : decode cL_law 761 = .ok (.iaload, 1) := by decide +kernel
theorem dL_law_762 : decode cL_law 762 = .ok (.aload_n 0, 1) := by decide +kernel
theorem dL_law_763 : decode cL_law 763 = .ok (.iload_n 3, 1) := by decide +kernel
theorem dL_law_764 : decode cL_law 764 = .ok (.iconst 3, 1) := by decide +kernel
theorem dL_law_765 : decode cL_law 765 = .ok (.iadd, 1) := by decide +kernel
theorem dL_law_766 : decode cL_law 766 = .ok (.iaload, 1) := by decide +kernel
theorem dL_law_767 : decode cL_law 767 = .ok (.aload_n 0, 1) := by decide +kernel
theorem dL_law_768 : decode cL_law 768 = .ok (.iload_n 3, 1) := by decide +kernel
theorem dL_law_769 : decode cL_law 769 = .ok (.iconst 4, 1) := by decide +kernel
theorem dL_law_770 : decode cL_law 770 = .ok (.iadd, 1) := by decide +kernel
theorem dL_law_771 : decode cL_law 771 = .ok (.iaload, 1) := by decide +kernel
theorem dL_law_772 : decode cL_law 772 = .ok (.invokevirtual 92, 3) := by decide +kernel
theorem dL_law_775 : decode cL_law 775 = .ok (.if_icmp .eq 764, 3) := by decide +kernel
theorem dL_law_778 : decode cL_law 778 = .ok (.iconst 0, 1) := by decide +kernel
theorem dL_law_779 : decode cL_law 779 = .ok (.ireturn, 1) := by decide +kernel
theorem dL_law_780 : decode cL_law 780 = .ok (.aload_n 1, 1) := by decide +kernel
theorem dL_law_781 : decode cL_law 781 = .ok (.aload_n 0, 1) := by decide +kernel
theorem dL_law_782 : decode cL_law 782 = .ok (.iload_n 3, 1) := by decide +kernel
theorem dL_law_783 : decode cL_law 783 = .ok (.iconst 1, 1) := by decide +kernel
theorem dL_law_784 : decode cL_law 784 = .ok (.iadd, 1) := by decide +kernel
theorem dL_law_785 : decode cL_law 785 = .ok (.iaload, 1) := by decide +kernel
theorem dL_law_786 : decode cL_law 786 = .ok (.aload_n 0, 1) := by decide +kernel
theorem dL_law_787 : decode cL_law 787 = .ok (.iload_n 3, 1) := by decide +kernel
theorem dL_law_788 : decode cL_law 788 = .ok (.iconst 2, 1) := by decide +kernel
theorem dL_law_789 : decode cL_law 789 = .ok (.iadd, 1) := by decide +kernel
theorem dL_law_790 : decode cL_law 790 = .ok (.iaload, 1) := by decide +kernel
theorem dL_law_791 : decode cL_law 791 = .ok (.aload_n 0, 1) := by decide +kernel
theorem dL_law_792 : decode cL_law 792 = .ok (.iload_n 3, 1) := by decide +kernel
theorem dL_law_793 : decode cL_law 793 = .ok (.iconst 3, 1) := by decide +kernel
theorem dL_law_794 : decode cL_law 794 = .ok (.iadd, 1) := by decide +kernel
theorem dL_law_795 : decode cL_law 795 = .ok (.iaload, 1) := by decide +kernel
theorem dL_law_796 : decode cL_law 796 = .ok (.invokevirtual 93, 3) := by decide +kernel
theorem dL_law_799 : decode cL_law 799 = .ok (.aload_n 2, 1) := by decide +kernel
theorem dL_law_800 : decode cL_law 800 = .ok (.aload_n 0, 1) := by decide +kernel
theorem dL_law_801 : decode cL_law 801 = .ok (.iload_n 3, 1) := by decide +kernel
theorem dL_law_802 : decode cL_law 802 = .ok (.iconst 1, 1) := by decide +kernel
theorem dL_law_803 : decode cL_law 803 = .ok (.iadd, 1) := by decide +kernel
theorem dL_law_804 : decode cL_law 804 = .ok (.iaload, 1) := by decide +kernel
theorem dL_law_805 : decode cL_law 805 = .ok (.aload_n 0, 1) := by decide +kernel
theorem dL_law_806 : decode cL_law 806 = .ok (.iload_n 3, 1) := by decide +kernel
theorem dL_law_807 : decode cL_law 807 = .ok (.iconst 2, 1) := by decide +kernel
theorem dL_law_808 : decode cL_law 808 = .ok (.iadd, 1) := by decide +kernel
theorem dL_law_809 : decode cL_law 809 = .ok (.iaload, 1) := by decide +kernel
theorem dL_law_810 : decode cL_law 810 = .ok (.aload_n 0, 1) := by decide +kernel
theorem dL_law_811 : decode cL_law 811 = .ok (.iload_n 3, 1) := by decide +kernel
theorem dL_law_812 : decode cL_law 812 = .ok (.iconst 3, 1) := by decide +kernel
theorem dL_law_813 : decode cL_law 813 = .ok (.iadd, 1) := by decide +kernel
theorem dL_law_814 : decode cL_law 814 = .ok (.iaload, 1) := by decide +kernel
theorem dL_law_815 : decode cL_law 815 = .ok (.invokevirtual 96, 3) := by decide +kernel
theorem dL_law_818 : decode cL_law 818 = .ok (.if_icmp .eq 721, 3) := by decide +kernel
theorem dL_law_821 : decode cL_law 821 = .ok (.iconst 0, 1) := by decide +kernel
theorem dL_law_822 : decode cL_law 822 = .ok (.ireturn, 1) := by decide +kernel
theorem dL_law_823 : decode cL_law 823 = .ok (.aload_n 1, 1) := by decide +kernel
theorem dL_law_824 : decode cL_law 824 = .ok (.aload_n 0, 1) := by decide +kernel
theorem dL_law_825 : decode cL_law 825 = .ok (.iload_n 3, 1) := by decide +kernel
theorem dL_law_826 : decode cL_law 826 = .ok (.iconst 1, 1) := by decide +kernel
theorem dL_law_827 : decode cL_law 827 = .ok (.iadd, 1) := by decide +kernel
theorem dL_law_828 : decode cL_law 828 = .ok (.iaload, 1) := by decide +kernel
theorem dL_law_829 : decode cL_law 829 = .ok (.aload_n 0, 1) := by decide +kernel
theorem dL_law_830 : decode cL_law 830 = .ok (.iload_n 3, 1) := by decide +kernel
theorem dL_law_831 : decode cL_law 831 = .ok (.iconst 2, 1) := by decide +kernel
theorem dL_law_832 : decode cL_law 832 = .ok (.iadd, 1) := by decide +kernel
theorem dL_law_833 : decode cL_law 833 = .ok (.iaload, 1) := by decide +kernel
theorem dL_law_834 : decode cL_law 834 = .ok (.aload_n 0, 1) := by decide +kernel
theorem dL_law_835 : decode cL_law 835 = .ok (.iload_n 3, 1) := by decide +kernel
theorem dL_law_836 : decode cL_law 836 = .ok (.iconst 3, 1) := by decide +kernel
theorem dL_law_837 : decode cL_law 837 = .ok (.iadd, 1) := by decide +kernel
theorem dL_law_838 : decode cL_law 838 = .ok (.iaload, 1) := by decide +kernel
theorem dL_law_839 : decode cL_law 839 = .ok (.aload_n 0, 1) := by decide +kernel
theorem dL_law_840 : decode cL_law 840 = .ok (.iload_n 3, 1) := by decide +kernel
theorem dL_law_841 : decode cL_law 841 = .ok (.iconst 4, 1) := by decide +kernel
theorem dL_law_842 : decode cL_law 842 = .ok (.iadd, 1) := by decide +kernel
theorem dL_law_843 : decode cL_law 843 = .ok (.iaload, 1) := by decide +kernel
theorem dL_law_844 : decode cL_law 844 = .ok (.aload_n 0, 1) := by decide +kernel
theorem dL_law_845 : decode cL_law 845 = .ok (.iload_n 3, 1) := by decide +kernel
theorem dL_law_846 : decode cL_law 846 = .ok (.iconst 5, 1) := by decide +kernel
theorem dL_law_847 : decode cL_law 847 = .ok (.iadd, 1) := by decide +kernel
theorem dL_law_848 : decode cL_law 848 = .ok (.iaload, 1) := by decide +kernel
theorem dL_law_849 : decode cL_law 849 = .ok (.invokevirtual 97, 3) := by decide +kernel
theorem dL_law_852 : decode cL_law 852 = .ok (.aload_n 2, 1) := by decide +kernel
theorem dL_law_853 : decode cL_law 853 = .ok (.aload_n 0, 1) := by decide +kernel
theorem dL_law_854 : decode cL_law 854 = .ok (.iload_n 3, 1) := by decide +kernel
theorem dL_law_855 : decode cL_law 855 = .ok (.iconst 1, 1) := by decide +kernel
theorem dL_law_856 : decode cL_law 856 = .ok (.iadd, 1) := by decide +kernel
theorem dL_law_857 : decode cL_law 857 = .ok (.iaload, 1) := by decide +kernel
theorem dL_law_858 : decode cL_law 858 = .ok (.aload_n 0, 1) := by decide +kernel
theorem dL_law_859 : decode cL_law 859 = .ok (.iload_n 3, 1) := by decide +kernel
theorem dL_law_860 : decode cL_law 860 = .ok (.iconst 2, 1) := by decide +kernel
theorem dL_law_861 : decode cL_law 861 = .ok (.iadd, 1) := by decide +kernel
theorem dL_law_862 : decode cL_law 862 = .ok (.iaload, 1) := by decide +kernel
theorem dL_law_863 : decode cL_law 863 = .ok (.aload_n 0, 1) := by decide +kernel
theorem dL_law_864 : decode cL_law 864 = .ok (.iload_n 3, 1) := by decide +kernel
theorem dL_law_865 : decode cL_law 865 = .ok (.iconst 3, 1) := by decide +kernel
theorem dL_law_866 : decode cL_law 866 = .ok (.iadd, 1) := by decide +kernel
theorem dL_law_867 : decode cL_law 867 = .ok (.iaload, 1) := by decide +kernel
theorem dL_law_868 : decode cL_law 868 = .ok (.aload_n 0, 1) := by decide +kernel
theorem dL_law_869 : decode cL_law 869 = .ok (.iload_n 3, 1) := by decide +kernel
theorem dL_law_870 : decode cL_law 870 = .ok (.iconst 4, 1) := by decide +kernel
theorem dL_law_871 : decode cL_law 871 = .ok (.iadd, 1) := by decide +kernel
theorem dL_law_872 : decode cL_law 872 = .ok (.iaload, 1) := by decide +kernel
theorem dL_law_873 : decode cL_law 873 = .ok (.aload_n 0, 1) := by decide +kernel
theorem dL_law_874 : decode cL_law 874 = .ok (.iload_n 3, 1) := by decide +kernel
theorem dL_law_875 : decode cL_law 875 = .ok (.iconst 5, 1) := by decide +kernel
theorem dL_law_876 : decode cL_law 876 = .ok (.iadd, 1) := by decide +kernel
theorem dL_law_877 : decode cL_law 877 = .ok (.iaload, 1) := by decide +kernel
theorem dL_law_878 : decode cL_law 878 = .ok (.invokevirtual 101, 3) := by decide +kernel
theorem dL_law_881 : decode cL_law 881 = .ok (.if_icmp .eq 658, 3) := by decide +kernel
theorem dL_law_884 : decode cL_law 884 = .ok (.iconst 0, 1) := by decide +kernel
theorem dL_law_885 : decode cL_law 885 = .ok (.ireturn, 1) := by decide +kernel
theorem dL_law_886 : decode cL_law 886 = .ok (.aload_n 1, 1) := by decide +kernel
theorem dL_law_887 : decode cL_law 887 = .ok (.aload_n 0, 1) := by decide +kernel
theorem dL_law_888 : decode cL_law 888 = .ok (.iload_n 3, 1) := by decide +kernel
theorem dL_law_889 : decode cL_law 889 = .ok (.iconst 1, 1) := by decide +kernel
theorem dL_law_890 : decode cL_law 890 = .ok (.iadd, 1) := by decide +kernel
theorem dL_law_891 : decode cL_law 891 = .ok (.iaload, 1) := by decide +kernel
theorem dL_law_892 : decode cL_law 892 = .ok (.aload_n 0, 1) := by decide +kernel
theorem dL_law_893 : decode cL_law 893 = .ok (.iload_n 3, 1) := by decide +kernel
theorem dL_law_894 : decode cL_law 894 = .ok (.iconst 2, 1) := by decide +kernel
theorem dL_law_895 : decode cL_law 895 = .ok (.iadd, 1) := by decide +kernel
theorem dL_law_896 : decode cL_law 896 = .ok (.iaload, 1) := by decide +kernel
theorem dL_law_897 : decode cL_law 897 = .ok (.aload_n 0, 1) := by decide +kernel
theorem dL_law_898 : decode cL_law 898 = .ok (.iload_n 3, 1) := by decide +kernel
theorem dL_law_899 : decode cL_law 899 = .ok (.iconst 3, 1) := by decide +kernel
theorem dL_law_900 : decode cL_law 900 = .ok (.iadd, 1) := by decide +kernel
theorem dL_law_901 : decode cL_law 901 = .ok (.iaload, 1) := by decide +kernel
theorem dL_law_902 : decode cL_law 902 = .ok (.invokevirtual 102, 3) := by decide +kernel
theorem dL_law_905 : decode cL_law 905 = .ok (.aload_n 2, 1) := by decide +kernel
theorem dL_law_906 : decode cL_law 906 = .ok (.aload_n 0, 1) := by decide +kernel
theorem dL_law_907 : decode cL_law 907 = .ok (.iload_n 3, 1) := by decide +kernel
theorem dL_law_908 : decode cL_law 908 = .ok (.iconst 1, 1) := by decide +kernel
theorem dL_law_909 : decode cL_law 909 = .ok (.iadd, 1) := by decide +kernel
theorem dL_law_910 : decode cL_law 910 = .ok (.iaload, 1) := by decide +kernel
theorem dL_law_911 : decode cL_law 911 = .ok (.aload_n 0, 1) := by decide +kernel
theorem dL_law_912 : decode cL_law 912 = .ok (.iload_n 3, 1) := by decide +kernel
theorem dL_law_913 : decode cL_law 913 = .ok (.iconst 2, 1) := by decide +kernel
theorem dL_law_914 : decode cL_law 914 = .ok (.iadd, 1) := by decide +kernel
theorem dL_law_915 : decode cL_law 915 = .ok (.iaload, 1) := by decide +kernel
theorem dL_law_916 : decode cL_law 916 = .ok (.aload_n 0, 1) := by decide +kernel
theorem dL_law_917 : decode cL_law 917 = .ok (.iload_n 3, 1) := by decide +kernel
theorem dL_law_918 : decode cL_law 918 = .ok (.iconst 3, 1) := by decide +kernel
theorem dL_law_919 : decode cL_law 919 = .ok (.iadd, 1) := by decide +kernel
theorem dL_law_920 : decode cL_law 920 = .ok (.iaload, 1) := by decide +kernel
theorem dL_law_921 : decode cL_law 921 = .ok (.invokevirtual 105, 3) := by decide +kernel
theorem dL_law_924 : decode cL_law 924 = .ok (.if_icmp .eq 615, 3) := by decide +kernel
theorem dL_law_927 : decode cL_law 927 = .ok (.iconst 0, 1) := by decide +kernel
theorem dL_law_928 : decode cL_law 928 = .ok (.ireturn, 1) := by decide +kernel
theorem dL_law_929 : decode cL_law 929 = .ok (.aload_n 1, 1) := by decide +kernel
theorem dL_law_930 : decode cL_law 930 = .ok (.aload_n 0, 1) := by decide +kernel
theorem dL_law_931 : decode cL_law 931 = .ok (.iload_n 3, 1) := by decide +kernel
theorem dL_law_932 : decode cL_law 932 = .ok (.iconst 1, 1) := by decide +kernel
theorem dL_law_933 : decode cL_law 933 = .ok (.iadd, 1) := by decide +kernel
theorem dL_law_934 : decode cL_law 934 = .ok (.iaload, 1) := by decide +kernel
theorem dL_law_935 : decode cL_law 935 = .ok (.aload_n 0, 1) := by decide +kernel
theorem dL_law_936 : decode cL_law 936 = .ok (.iload_n 3, 1) := by decide +kernel
theorem dL_law_937 : decode cL_law 937 = .ok (.iconst 2, 1) := by decide +kernel
theorem dL_law_938 : decode cL_law 938 = .ok (.iadd, 1) := by decide +kernel
theorem dL_law_939 : decode cL_law 939 = .ok (.iaload, 1) := by decide +kernel
theorem dL_law_940 : decode cL_law 940 = .ok (.invokevirtual 106, 3) := by decide +kernel
theorem dL_law_943 : decode cL_law 943 = .ok (.aload_n 2, 1) := by decide +kernel
theorem dL_law_944 : decode cL_law 944 = .ok (.aload_n 0, 1) := by decide +kernel
theorem dL_law_945 : decode cL_law 945 = .ok (.iload_n 3, 1) := by decide +kernel
theorem dL_law_946 : decode cL_law 946 = .ok (.iconst 1, 1) := by decide +kernel
theorem dL_law_947 : decode cL_law 947 = .ok (.iadd, 1) := by decide +kernel
theorem dL_law_948 : decode cL_law 948 = .ok (.iaload, 1) := by decide +kernel
theorem dL_law_949 : decode cL_law 949 = .ok (.aload_n 0, 1) := by decide +kernel
theorem dL_law_950 : decode cL_law 950 = .ok (.iload_n 3, 1) := by decide +kernel
theorem dL_law_951 : decode cL_law 951 = .ok (.iconst 2, 1) := by decide +kernel
theorem dL_law_952 : decode cL_law 952 = .ok (.iadd, 1) := by decide +kernel
theorem dL_law_953 : decode cL_law 953 = .ok (.iaload, 1) := by decide +kernel
theorem dL_law_954 : decode cL_law 954 = .ok (.invokevirtual 109, 3) := by decide +kernel
theorem dL_law_957 : decode cL_law 957 = .ok (.if_icmp .eq 582, 3) := by decide +kernel
theorem dL_law_960 : decode cL_law 960 = .ok (.iconst 0, 1) := by decide +kernel
theorem dL_law_961 : decode cL_law 961 = .ok (.ireturn, 1) := by decide +kernel
theorem dL_law_962 : decode cL_law 962 = .ok (.aload_n 1, 1) := by decide +kernel
theorem dL_law_963 : decode cL_law 963 = .ok (.aload_n 0, 1) := by decide +kernel
theorem dL_law_964 : decode cL_law 964 = .ok (.iload_n 3, 1) := by decide +kernel
theorem dL_law_965 : decode cL_law 965 = .ok (.iconst 1, 1) := by decide +kernel
theorem dL_law_966 : decode cL_law 966 = .ok (.iadd, 1) := by decide +kernel
theorem dL_law_967 : decode cL_law 967 = .ok (.iaload, 1) := by decide +kernel
theorem dL_law_968 : decode cL_law 968 = .ok (.aload_n 0, 1) := by decide +kernel
theorem dL_law_969 : decode cL_law 969 = .ok (.iload_n 3, 1) := by decide +kernel
theorem dL_law_970 : decode cL_law 970 = .ok (.iconst 2, 1) := by decide +kernel
theorem dL_law_971 : decode cL_law 971 = .ok (.iadd, 1) := by decide +kernel
theorem dL_law_972 : decode cL_law 972 = .ok (.iaload, 1) := by decide +kernel
theorem dL_law_973 : decode cL_law 973 = .ok (.aload_n 0, 1) := by decide +kernel
theorem dL_law_974 : decode cL_law 974 = .ok (.iload_n 3, 1) := by decide +kernel
theorem dL_law_975 : decode cL_law 975 = .ok (.iconst 3, 1) := by decide +kernel
theorem dL_law_976 : decode cL_law 976 = .ok (.iadd, 1) := by decide +kernel
theorem dL_law_977 : decode cL_law 977 = .ok (.iaload, 1) := by decide +kernel
theorem dL_law_978 : decode cL_law 978 = .ok (.aload_n 0, 1) := by decide +kernel
theorem dL_law_979 : decode cL_law 979 = .ok (.iload_n 3, 1) := by decide +kernel
theorem dL_law_980 : decode cL_law 980 = .ok (.iconst 4, 1) := by decide +kernel
theorem dL_law_981 : decode cL_law 981 = .ok (.iadd, 1) := by decide +kernel
theorem dL_law_982 : decode cL_law 982 = .ok (.iaload, 1) := by decide +kernel
theorem dL_law_983 : decode cL_law 983 = .ok (.invokevirtual 110, 3) := by decide +kernel
theorem dL_law_986 : decode cL_law 986 = .ok (.aload_n 2, 1) := by decide +kernel
theorem dL_law_987 : decode cL_law 987 = .ok (.aload_n 0, 1) := by decide +kernel
theorem dL_law_988 : decode cL_law 988 = .ok (.iload_n 3, 1) := by decide +kernel
theorem dL_law_989 : decode cL_law 989 = .ok (.iconst 1, 1) := by decide +kernel
theorem dL_law_990 : decode cL_law 990 = .ok (.iadd, 1) := by decide +kernel
theorem dL_law_991 : decode cL_law 991 = .ok (.iaload, 1) := by decide +kernel
theorem dL_law_992 : decode cL_law 992 = .ok (.aload_n 0, 1) := by decide +kernel
theorem dL_law_993 : decode cL_law 993 = .ok (.iload_n 3, 1) := by decide +kernel
theorem dL_law_994 : decode cL_law 994 = .ok (.iconst 2, 1) := by decide +kernel
theorem dL_law_995 : decode cL_law 995 = .ok (.iadd, 1) := by decide +kernel
theorem dL_law_996 : decode cL_law 996 = .ok (.iaload, 1) := by decide +kernel
theorem dL_law_997 : decode cL_law 997 = .ok (.aload_n 0, 1) := by decide +kernel
theorem dL_law_998 : decode cL_law 998 = .ok (.iload_n 3, 1) := by decide +kernel
theorem dL_law_999 : decode cL_law 999 = .ok (.iconst 3, 1) := by decide +kernel
theorem dL_law_1000 : decode cL_law 1000 = .ok (.iadd, 1) := by decide +kernel
theorem dL_law_1001 : decode cL_law 1001 = .ok (.iaload, 1) := by decide +kernel
theorem dL_law_1002 : decode cL_law 1002 = .ok (.aload_n 0, 1) := by decide +kernel
theorem dL_law_1003 : decode cL_law 1003 = .ok (.iload_n 3, 1) := by decide +kernel
theorem dL_law_1004 : decode cL_law 1004 = .ok (.iconst 4, 1) := by decide +kernel
theorem dL_law_1005 : decode cL_law 1005 = .ok (.iadd, 1) := by decide +kernel
theorem dL_law_1006 : decode cL_law 1006 = .ok (.iaload, 1) := by decide +kernel
theorem dL_law_1007 : decode cL_law 1007 = .ok (.invokevirtual 114, 3) := by decide +kernel
theorem dL_law_1010 : decode cL_law 1010 = .ok (.lcmp, 1) := by decide +kernel
theorem dL_law_1011 : decode cL_law 1011 = .ok (.ifCond .eq 528, 3) := by decide +kernel
theorem dL_law_1014 : decode cL_law 1014 = .ok (.iconst 0, 1) := by decide +kernel
theorem dL_law_1015 : decode cL_law 1015 = .ok (.ireturn, 1) := by decide +kernel
theorem dL_law_1016 : decode cL_law 1016 = .ok (.aload_n 1, 1) := by decide +kernel
theorem dL_law_1017 : decode cL_law 1017 = .ok (.aload_n 0, 1) := by decide +kernel
theorem dL_law_1018 : decode cL_law 1018 = .ok (.iload_n 3, 1) := by decide +kernel
theorem dL_law_1019 : decode cL_law 1019 = .ok (.iconst 1, 1) := by decide +kernel
theorem dL_law_1020 : decode cL_law 1020 = .ok (.iadd, 1) := by decide +kernel
theorem dL_law_1021 : decode cL_law 1021 = .ok (.iaload, 1) := by decide +kernel
theorem dL_law_1022 : decode cL_law 1022 = .ok (.invokevirtual 115, 3) := by decide +kernel
theorem dL_law_1025 : decode cL_law 1025 = .ok (.aload_n 2, 1) := by decide +kernel
theorem dL_law_1026 : decode cL_law 1026 = .ok (.aload_n 0, 1) := by decide +kernel
theorem dL_law_1027 : decode cL_law 1027 = .ok (.iload_n 3, 1) := by decide +kernel
theorem dL_law_1028 : decode cL_law 1028 = .ok (.iconst 1, 1) := by decide +kernel
theorem dL_law_1029 : decode cL_law 1029 = .ok (.iadd, 1) := by decide +kernel
theorem dL_law_1030 : decode cL_law 1030 = .ok (.iaload, 1) := by decide +kernel
theorem dL_law_1031 : decode cL_law 1031 = .ok (.invokevirtual 118, 3) := by decide +kernel
theorem dL_law_1034 : decode cL_law 1034 = .ok (.if_icmp .eq 505, 3) := by decide +kernel
theorem dL_law_1037 : decode cL_law 1037 = .ok (.iconst 0, 1) := by decide +kernel
theorem dL_law_1038 : decode cL_law 1038 = .ok (.ireturn, 1) := by decide +kernel
theorem dL_law_1039 : decode cL_law 1039 = .ok (.aload_n 1, 1) := by decide +kernel
theorem dL_law_1040 : decode cL_law 1040 = .ok (.aload_n 0, 1) := by decide +kernel
theorem dL_law_1041 : decode cL_law 1041 = .ok (.iload_n 3, 1) := by decide +kernel
theorem dL_law_1042 : decode cL_law 1042 = .ok (.iconst 1, 1) := by decide +kernel
theorem dL_law_1043 : decode cL_law 1043 = .ok (.iadd, 1) := by decide +kernel
theorem dL_law_1044 : decode cL_law 1044 = .ok (.iaload, 1) := by decide +kernel
theorem dL_law_1045 : decode cL_law 1045 = .ok (.aload_n 0, 1) := by decide +kernel
theorem dL_law_1046 : decode cL_law 1046 = .ok (.iload_n 3, 1) := by decide +kernel
theorem dL_law_1047 : decode cL_law 1047 = .ok (.iconst 2, 1) := by decide +kernel
theorem dL_law_1048 : decode cL_law 1048 = .ok (.iadd, 1) := by decide +kernel
theorem dL_law_1049 : decode cL_law 1049 = .ok (.iaload, 1) := by decide +kernel
theorem dL_law_1050 : decode cL_law 1050 = .ok (.invokevirtual 119, 3) := by decide +kernel
theorem dL_law_1053 : decode cL_law 1053 = .ok (.aload_n 2, 1) := by decide +kernel
theorem dL_law_1054 : decode cL_law 1054 = .ok (.aload_n 0, 1) := by decide +kernel
theorem dL_law_1055 : decode cL_law 1055 = .ok (.iload_n 3, 1) := by decide +kernel
theorem dL_law_1056 : decode cL_law 1056 = .ok (.iconst 1, 1) := by decide +kernel
theorem dL_law_1057 : decode cL_law 1057 = .ok (.iadd, 1) := by decide +kernel
theorem dL_law_1058 : decode cL_law 1058 = .ok (.iaload, 1) := by decide +kernel
theorem dL_law_1059 : decode cL_law 1059 = .ok (.aload_n 0, 1) := by decide +kernel
theorem dL_law_1060 : decode cL_law 1060 = .ok (.iload_n 3, 1) := by decide +kernel
theorem dL_law_1061 : decode cL_law 1061 = .ok (.iconst 2, 1) := by decide +kernel
theorem dL_law_1062 : decode cL_law 1062 = .ok (.iadd, 1) := by decide +kernel
theorem dL_law_1063 : decode cL_law 1063 = .ok (.iaload, 1) := by decide +kernel
theorem dL_law_1064 : decode cL_law 1064 = .ok (.invokevirtual 122, 3) := by decide +kernel
theorem dL_law_1067 : decode cL_law 1067 = .ok (.lcmp, 1) := by decide +kernel
theorem dL_law_1068 : decode cL_law 1068 = .ok (.ifCond .eq 471, 3) := by decide +kernel
theorem dL_law_1071 : decode cL_law 1071 = .ok (.iconst 0, 1) := by decide +kernel
theorem dL_law_1072 : decode cL_law 1072 = .ok (.ireturn, 1) := by decide +kernel
theorem dL_law_1073 : decode cL_law 1073 = .ok (.aload_n 1, 1) := by decide +kernel
theorem dL_law_1074 : decode cL_law 1074 = .ok (.aload_n 0, 1) := by decide +kernel
theorem dL_law_1075 : decode cL_law 1075 = .ok (.iload_n 3, 1) := by decide +kernel
theorem dL_law_1076 : decode cL_law 1076 = .ok (.iconst 1, 1) := by decide +kernel
theorem dL_law_1077 : decode cL_law 1077 = .ok (.iadd, 1) := by decide +kernel
theorem dL_law_1078 : decode cL_law 1078 = .ok (.iaload, 1) := by decide +kernel
theorem dL_law_1079 : decode cL_law 1079 = .ok (.aload_n 0, 1) := by decide +kernel
theorem dL_law_1080 : decode cL_law 1080 = .ok (.iload_n 3, 1) := by decide +kernel
theorem dL_law_1081 : decode cL_law 1081 = .ok (.iconst 2, 1) := by decide +kernel
theorem dL_law_1082 : decode cL_law 1082 = .ok (.iadd, 1) := by decide +kernel
theorem dL_law_1083 : decode cL_law 1083 = .ok (.iaload, 1) := by decide +kernel
theorem dL_law_1084 : decode cL_law 1084 = .ok (.aload_n 0, 1) := by decide +kernel
theorem dL_law_1085 : decode cL_law 1085 = .ok (.iload_n 3, 1) := by decide +kernel
theorem dL_law_1086 : decode cL_law 1086 = .ok (.iconst 3, 1) := by decide +kernel
theorem dL_law_1087 : decode cL_law 1087 = .ok (.iadd, 1) := by decide +kernel
theorem dL_law_1088 : decode cL_law 1088 = .ok (.iaload, 1) := by decide +kernel
theorem dL_law_1089 : decode cL_law 1089 = .ok (.aload_n 0, 1) := by decide +kernel
theorem dL_law_1090 : decode cL_law 1090 = .ok (.iload_n 3, 1) := by decide +kernel
theorem dL_law_1091 : decode cL_law 1091 = .ok (.iconst 4, 1) := by decide +kernel
theorem dL_law_1092 : decode cL_law 1092 = .ok (.iadd, 1) := by decide +kernel
theorem dL_law_1093 : decode cL_law 1093 = .ok (.iaload, 1) := by decide +kernel
theorem dL_law_1094 : decode cL_law 1094 = .ok (.aload_n 0, 1) := by decide +kernel
theorem dL_law_1095 : decode cL_law 1095 = .ok (.iload_n 3, 1) := by decide +kernel
theorem dL_law_1096 : decode cL_law 1096 = .ok (.iconst 5, 1) := by decide +kernel
theorem dL_law_1097 : decode cL_law 1097 = .ok (.iadd, 1) := by decide +kernel
theorem dL_law_1098 : decode cL_law 1098 = .ok (.iaload, 1) := by decide +kernel
theorem dL_law_1099 : decode cL_law 1099 = .ok (.invokevirtual 123, 3) := by decide +kernel
theorem dL_law_1102 : decode cL_law 1102 = .ok (.aload_n 2, 1) := by decide +kernel
theorem dL_law_1103 : decode cL_law 1103 = .ok (.aload_n 0, 1) := by decide +kernel
theorem dL_law_1104 : decode cL_law 1104 = .ok (.iload_n 3, 1) := by decide +kernel
theorem dL_law_1105 : decode cL_law 1105 = .ok (.iconst 1, 1) := by decide +kernel
theorem dL_law_1106 : decode cL_law 1106 = .ok (.iadd, 1) := by decide +kernel
theorem dL_law_1107 : decode cL_law 1107 = .ok (.iaload, 1) := by decide +kernel
theorem dL_law_1108 : decode cL_law 1108 = .ok (.aload_n 0, 1) := by decide +kernel
theorem dL_law_1109 : decode cL_law 1109 = .ok (.iload_n 3, 1) := by decide +kernel
theorem dL_law_1110 : decode cL_law 1110 = .ok (.iconst 2, 1) := by decide +kernel
theorem dL_law_1111 : decode cL_law 1111 = .ok (.iadd, 1) := by decide +kernel
theorem dL_law_1112 : decode cL_law 1112 = .ok (.iaload, 1) := by decide +kernel
theorem dL_law_1113 : decode cL_law 1113 = .ok (.aload_n 0, 1) := by decide +kernel
theorem dL_law_1114 : decode cL_law 1114 = .ok (.iload_n 3, 1) := by decide +kernel
theorem dL_law_1115 : decode cL_law 1115 = .ok (.iconst 3, 1) := by decide +kernel
theorem dL_law_1116 : decode cL_law 1116 = .ok (.iadd, 1) := by decide +kernel
theorem dL_law_1117 : decode cL_law 1117 = .ok (.iaload, 1) := by decide +kernel
theorem dL_law_1118 : decode cL_law 1118 = .ok (.aload_n 0, 1) := by decide +kernel
theorem dL_law_1119 : decode cL_law 1119 = .ok (.iload_n 3, 1) := by decide +kernel
theorem dL_law_1120 : decode cL_law 1120 = .ok (.iconst 4, 1) := by decide +kernel
theorem dL_law_1121 : decode cL_law 1121 = .ok (.iadd, 1) := by decide +kernel
theorem dL_law_1122 : decode cL_law 1122 = .ok (.iaload, 1) := by decide +kernel
theorem dL_law_1123 : decode cL_law 1123 = .ok (.aload_n 0, 1) := by decide +kernel
theorem dL_law_1124 : decode cL_law 1124 = .ok (.iload_n 3, 1) := by decide +kernel
theorem dL_law_1125 : decode cL_law 1125 = .ok (.iconst 5, 1) := by decide +kernel
theorem dL_law_1126 : decode cL_law 1126 = .ok (.iadd, 1) := by decide +kernel
theorem dL_law_1127 : decode cL_law 1127 = .ok (.iaload, 1) := by decide +kernel
theorem dL_law_1128 : decode cL_law 1128 = .ok (.invokevirtual 126, 3) := by decide +kernel
theorem dL_law_1131 : decode cL_law 1131 = .ok (.if_icmp .eq 408, 3) := by decide +kernel
theorem dL_law_1134 : decode cL_law 1134 = .ok (.iconst 0, 1) := by decide +kernel
theorem dL_law_1135 : decode cL_law 1135 = .ok (.ireturn, 1) := by decide +kernel
theorem dL_law_1136 : decode cL_law 1136 = .ok (.aload_n 1, 1) := by decide +kernel
theorem dL_law_1137 : decode cL_law 1137 = .ok (.aload_n 0, 1) := by decide +kernel
theorem dL_law_1138 : decode cL_law 1138 = .ok (.iload_n 3, 1) := by decide +kernel
theorem dL_law_1139 : decode cL_law 1139 = .ok (.iconst 1, 1) := by decide +kernel
theorem dL_law_1140 : decode cL_law 1140 = .ok (.iadd, 1) := by decide +kernel
theorem dL_law_1141 : decode cL_law 1141 = .ok (.iaload, 1) := by decide +kernel
theorem dL_law_1142 : decode cL_law 1142 = .ok (.aload_n 0, 1) := by decide +kernel
theorem dL_law_1143 : decode cL_law 1143 = .ok (.iload_n 3, 1) := by decide +kernel
theorem dL_law_1144 : decode cL_law 1144 = .ok (.iconst 2, 1) := by decide +kernel
theorem dL_law_1145 : decode cL_law 1145 = .ok (.iadd, 1) := by decide +kernel
theorem dL_law_1146 : decode cL_law 1146 = .ok (.iaload, 1) := by decide +kernel
theorem dL_law_1147 : decode cL_law 1147 = .ok (.aload_n 0, 1) := by decide +kernel
theorem dL_law_1148 : decode cL_law 1148 = .ok (.iload_n 3, 1) := by decide +kernel
theorem dL_law_1149 : decode cL_law 1149 = .ok (.iconst 3, 1) := by decide +kernel
theorem dL_law_1150 : decode cL_law 1150 = .ok (.iadd, 1) := by decide +kernel
theorem dL_law_1151 : decode cL_law 1151 = .ok (.iaload, 1) := by decide +kernel
theorem dL_law_1152 : decode cL_law 1152 = .ok (.aload_n 0, 1) := by decide +kernel
theorem dL_law_1153 : decode cL_law 1153 = .ok (.iload_n 3, 1) := by decide +kernel
theorem dL_law_1154 : decode cL_law 1154 = .ok (.iconst 4, 1) := by decide +kernel
theorem dL_law_1155 : decode cL_law 1155 = .ok (.iadd, 1) := by decide +kernel
theorem dL_law_1156 : decode cL_law 1156 = .ok (.iaload, 1) := by decide +kernel
theorem dL_law_1157 : decode cL_law 1157 = .ok (.aload_n 0, 1) := by decide +kernel
theorem dL_law_1158 : decode cL_law 1158 = .ok (.iload_n 3, 1) := by decide +kernel
theorem dL_law_1159 : decode cL_law 1159 = .ok (.iconst 5, 1) := by decide +kernel
theorem dL_law_1160 : decode cL_law 1160 = .ok (.iadd, 1) := by decide +kernel
theorem dL_law_1161 : decode cL_law 1161 = .ok (.iaload, 1) := by decide +kernel
theorem dL_law_1162 : decode cL_law 1162 = .ok (.aload_n 0, 1) := by decide +kernel
theorem dL_law_1163 : decode cL_law 1163 = .ok (.iload_n 3, 1) := by decide +kernel
theorem dL_law_1164 : decode cL_law 1164 = .ok (.bipush 6, 2) := by decide +kernel
theorem dL_law_1166 : decode cL_law 1166 = .ok (.iadd, 1) := by decide +kernel
theorem dL_law_1167 : decode cL_law 1167 = .ok (.iaload, 1) := by decide +kernel
theorem dL_law_1168 : decode cL_law 1168 = .ok (.invokevirtual 127, 3) := by decide +kernel
theorem dL_law_1171 : decode cL_law 1171 = .ok (.aload_n 2, 1) := by decide +kernel
theorem dL_law_1172 : decode cL_law 1172 = .ok (.aload_n 0, 1) := by decide +kernel
theorem dL_law_1173 : decode cL_law 1173 = .ok (.iload_n 3, 1) := by decide +kernel
theorem dL_law_1174 : decode cL_law 1174 = .ok (.iconst 1, 1) := by decide +kernel
theorem dL_law_1175 : decode cL_law 1175 = .ok (.iadd, 1) := by decide +kernel
theorem dL_law_1176 : decode cL_law 1176 = .ok (.iaload, 1) := by decide +kernel
theorem dL_law_1177 : decode cL_law 1177 = .ok (.aload_n 0, 1) := by decide +kernel
theorem dL_law_1178 : decode cL_law 1178 = .ok (.iload_n 3, 1) := by decide +kernel
theorem dL_law_1179 : decode cL_law 1179 = .ok (.iconst 2, 1) := by decide +kernel
theorem dL_law_1180 : decode cL_law 1180 = .ok (.iadd, 1) := by decide +kernel
theorem dL_law_1181 : decode cL_law 1181 = .ok (.iaload, 1) := by decide +kernel
theorem dL_law_1182 : decode cL_law 1182 = .ok (.aload_n 0, 1) := by decide +kernel
theorem dL_law_1183 : decode cL_law 1183 = .ok (.iload_n 3, 1) := by decide +kernel
theorem dL_law_1184 : decode cL_law 1184 = .ok (.iconst 3, 1) := by decide +kernel
theorem dL_law_1185 : decode cL_law 1185 = .ok (.iadd, 1) := by decide +kernel
theorem dL_law_1186 : decode cL_law 1186 = .ok (.iaload, 1) := by decide +kernel
theorem dL_law_1187 : decode cL_law 1187 = .ok (.aload_n 0, 1) := by decide +kernel
theorem dL_law_1188 : decode cL_law 1188 = .ok (.iload_n 3, 1) := by decide +kernel
theorem dL_law_1189 : decode cL_law 1189 = .ok (.iconst 4, 1) := by decide +kernel
theorem dL_law_1190 : decode cL_law 1190 = .ok (.iadd, 1) := by decide +kernel
theorem dL_law_1191 : decode cL_law 1191 = .ok (.iaload, 1) := by decide +kernel
theorem dL_law_1192 : decode cL_law 1192 = .ok (.aload_n 0, 1) := by decide +kernel
theorem dL_law_1193 : decode cL_law 1193 = .ok (.iload_n 3, 1) := by decide +kernel
theorem dL_law_1194 : decode cL_law 1194 = .ok (.iconst 5, 1) := by decide +kernel
theorem dL_law_1195 : decode cL_law 1195 = .ok (.iadd, 1) := by decide +kernel
theorem dL_law_1196 : decode cL_law 1196 = .ok (.iaload, 1) := by decide +kernel
theorem dL_law_1197 : decode cL_law 1197 = .ok (.aload_n 0, 1) := by decide +kernel
theorem dL_law_1198 : decode cL_law 1198 = .ok (.iload_n 3, 1) := by decide +kernel
theorem dL_law_1199 : decode cL_law 1199 = .ok (.bipush 6, 2) := by decide +kernel
theorem dL_law_1201 : decode cL_law 1201 = .ok (.iadd, 1) := by decide +kernel
theorem dL_law_1202 : decode cL_law 1202 = .ok (.iaload, 1) := by decide +kernel
theorem dL_law_1203 : decode cL_law 1203 = .ok (.invokevirtual 131, 3) := by decide +kernel
theorem dL_law_1206 : decode cL_law 1206 = .ok (.if_icmp .eq 333, 3) := by decide +kernel
theorem dL_law_1209 : decode cL_law 1209 = .ok (.iconst 0, 1) := by decide +kernel
theorem dL_law_1210 : decode cL_law 1210 = .ok (.ireturn, 1) := by decide +kernel
theorem dL_law_1211 : decode cL_law 1211 = .ok (.aload_n 1, 1) := by decide +kernel
theorem dL_law_1212 : decode cL_law 1212 = .ok (.invokevirtual 132, 3) := by decide +kernel
theorem dL_law_1215 : decode cL_law 1215 = .ok (.aload_n 2, 1) := by decide +kernel
theorem dL_law_1216 : decode cL_law 1216 = .ok (.invokevirtual 135, 3) := by decide +kernel
theorem dL_law_1219 : decode cL_law 1219 = .ok (.if_icmp .eq 320, 3) := by decide +kernel
theorem dL_law_1222 : decode cL_law 1222 = .ok (.iconst 0, 1) := by decide +kernel
theorem dL_law_1223 : decode cL_law 1223 = .ok (.ireturn, 1) := by decide +kernel
theorem dL_law_1224 : decode cL_law 1224 = .ok (.aload_n 1, 1) := by decide +kernel
theorem dL_law_1225 : decode cL_law 1225 = .ok (.invokevirtual 136, 3) := by decide +kernel
theorem dL_law_1228 : decode cL_law 1228 = .ok (.aload_n 2, 1) := by decide +kernel
theorem dL_law_1229 : decode cL_law 1229 = .ok (.invokevirtual 139, 3) := by decide +kernel
theorem dL_law_1232 : decode cL_law 1232 = .ok (.if_icmp .eq 307, 3) := by decide +kernel
theorem dL_law_1235 : decode cL_law 1235 = .ok (.iconst 0, 1) := by decide +kernel
theorem dL_law_1236 : decode cL_law 1236 = .ok (.ireturn, 1) := by decide +kernel
theorem dL_law_1237 : decode cL_law 1237 = .ok (.aload_n 1, 1) := by decide +kernel
theorem dL_law_1238 : decode cL_law 1238 = .ok (.invokevirtual 140, 3) := by decide +kernel
theorem dL_law_1241 : decode cL_law 1241 = .ok (.aload_n 2, 1) := by decide +kernel
theorem dL_law_1242 : decode cL_law 1242 = .ok (.invokevirtual 143, 3) := by decide +kernel
theorem dL_law_1245 : decode cL_law 1245 = .ok (.if_icmp .eq 294, 3) := by decide +kernel
theorem dL_law_1248 : decode cL_law 1248 = .ok (.iconst 0, 1) := by decide +kernel
theorem dL_law_1249 : decode cL_law 1249 = .ok (.ireturn, 1) := by decide +kernel
theorem dL_law_1250 : decode cL_law 1250 = .ok (.aload_n 1, 1) := by decide +kernel
theorem dL_law_1251 : decode cL_law 1251 = .ok (.aload_n 0, 1) := by decide +kernel
theorem dL_law_1252 : decode cL_law 1252 = .ok (.iload_n 3, 1) := by decide +kernel
theorem dL_law_1253 : decode cL_law 1253 = .ok (.iconst 1, 1) := by decide +kernel
theorem dL_law_1254 : decode cL_law 1254 = .ok (.iadd, 1) := by decide +kernel
theorem dL_law_1255 : decode cL_law 1255 = .ok (.iaload, 1) := by decide +kernel
theorem dL_law_1256 : decode cL_law 1256 = .ok (.aload_n 0, 1) := by decide +kernel
theorem dL_law_1257 : decode cL_law 1257 = .ok (.iload_n 3, 1) := by decide +kernel
theorem dL_law_1258 : decode cL_law 1258 = .ok (.iconst 2, 1) := by decide +kernel
theorem dL_law_1259 : decode cL_law 1259 = .ok (.iadd, 1) := by decide +kernel
theorem dL_law_1260 : decode cL_law 1260 = .ok (.iaload, 1) := by decide +kernel
theorem dL_law_1261 : decode cL_law 1261 = .ok (.aload_n 0, 1) := by decide +kernel
theorem dL_law_1262 : decode cL_law 1262 = .ok (.iload_n 3, 1) := by decide +kernel
theorem dL_law_1263 : decode cL_law 1263 = .ok (.iconst 3, 1) := by decide +kernel
theorem dL_law_1264 : decode cL_law 1264 = .ok (.iadd, 1) := by decide +kernel
theorem dL_law_1265 : decode cL_law 1265 = .ok (.iaload, 1) := by decide +kernel
theorem dL_law_1266 : decode cL_law 1266 = .ok (.aload_n 0, 1) := by decide +kernel
theorem dL_law_1267 : decode cL_law 1267 = .ok (.iload_n 3, 1) := by decide +kernel
theorem dL_law_1268 : decode cL_law 1268 = .ok (.iconst 4, 1) := by decide +kernel
theorem dL_law_1269 : decode cL_law 1269 = .ok (.iadd, 1) := by decide +kernel
theorem dL_law_1270 : decode cL_law 1270 = .ok (.iaload, 1) := by decide +kernel
theorem dL_law_1271 : decode cL_law 1271 = .ok (.invokevirtual 144, 3) := by decide +kernel
theorem dL_law_1274 : decode cL_law 1274 = .ok (.aload_n 2, 1) := by decide +kernel
theorem dL_law_1275 : decode cL_law 1275 = .ok (.aload_n 0, 1) := by decide +kernel
theorem dL_law_1276 : decode cL_law 1276 = .ok (.iload_n 3, 1) := by decide +kernel
theorem dL_law_1277 : decode cL_law 1277 = .ok (.iconst 1, 1) := by decide +kernel
theorem dL_law_1278 : decode cL_law 1278 = .ok (.iadd, 1) := by decide +kernel
theorem dL_law_1279 : decode cL_law 1279 = .ok (.iaload, 1) := by decide +kernel
theorem dL_law_1280 : decode cL_law 1280 = .ok (.aload_n 0, 1) := by decide +kernel
theorem dL_law_1281 : decode cL_law 1281 = .ok (.iload_n 3, 1) := by decide +kernel
theorem dL_law_1282 : decode cL_law 1282 = .ok (.iconst 2, 1) := by decide +kernel
theorem dL_law_1283 : decode cL_law 1283 = .ok (.iadd, 1) := by decide +kernel
theorem dL_law_1284 : decode cL_law 1284 = .ok (.iaload, 1) := by decide +kernel
theorem dL_law_1285 : decode cL_law 1285 = .ok (.aload_n 0, 1) := by decide +kernel
theorem dL_law_1286 : decode cL_law 1286 = .ok (.iload_n 3, 1) := by decide +kernel
theorem dL_law_1287 : decode cL_law 1287 = .ok (.iconst 3, 1) := by decide +kernel
theorem dL_law_1288 : decode cL_law 1288 = .ok (.iadd, 1) := by decide +kernel
theorem dL_law_1289 : decode cL_law 1289 = .ok (.iaload, 1) := by decide +kernel
theorem dL_law_1290 : decode cL_law 1290 = .ok (.aload_n 0, 1) := by decide +kernel
theorem dL_law_1291 : decode cL_law 1291 = .ok (.iload_n 3, 1) := by decide +kernel
theorem dL_law_1292 : decode cL_law 1292 = .ok (.iconst 4, 1) := by decide +kernel
theorem dL_law_1293 : decode cL_law 1293 = .ok (.iadd, 1) := by decide +kernel
theorem dL_law_1294 : decode cL_law 1294 = .ok (.iaload, 1) := by decide +kernel
theorem dL_law_1295 : decode cL_law 1295 = .ok (.invokevirtual 147, 3) := by decide +kernel
theorem dL_law_1298 : decode cL_law 1298 = .ok (.if_icmp .eq 241, 3) := by decide +kernel
theorem dL_law_1301 : decode cL_law 1301 = .ok (.iconst 0, 1) := by decide +kernel
theorem dL_law_1302 : decode cL_law 1302 = .ok (.ireturn, 1) := by decide +kernel
theorem dL_law_1303 : decode cL_law 1303 = .ok (.aload_n 1, 1) := by decide +kernel
theorem dL_law_1304 : decode cL_law 1304 = .ok (.aload_n 0, 1) := by decide +kernel
theorem dL_law_1305 : decode cL_law 1305 = .ok (.iload_n 3, 1) := by decide +kernel
theorem dL_law_1306 : decode cL_law 1306 = .ok (.iconst 1, 1) := by decide +kernel
theorem dL_law_1307 : decode cL_law 1307 = .ok (.iadd, 1) := by decide +kernel
theorem dL_law_1308 : decode cL_law 1308 = .ok (.iaload, 1) := by decide +kernel
theorem dL_law_1309 : decode cL_law 1309 = .ok (.invokevirtual 148, 3) := by decide +kernel
theorem dL_law_1312 : decode cL_law 1312 = .ok (.aload_n 2, 1) := by decide +kernel
theorem dL_law_1313 : decode cL_law 1313 = .ok (.aload_n 0, 1) := by decide +kernel
theorem dL_law_1314 : decode cL_law 1314 = .ok (.iload_n 3, 1) := by decide +kernel
theorem dL_law_1315 : decode cL_law 1315 = .ok (.iconst 1, 1) := by decide +kernel
theorem dL_law_1316 : decode cL_law 1316 = .ok (.iadd, 1) := by decide +kernel
theorem dL_law_1317 : decode cL_law 1317 = .ok (.iaload, 1) := by decide +kernel
theorem dL_law_1318 : decode cL_law 1318 = .ok (.invokevirtual 151, 3) := by decide +kernel
theorem dL_law_1321 : decode cL_law 1321 = .ok (.if_icmp .eq 218, 3) := by decide +kernel
theorem dL_law_1324 : decode cL_law 1324 = .ok (.iconst 0, 1) := by decide +kernel
theorem dL_law_1325 : decode cL_law 1325 = .ok (.ireturn, 1) := by decide +kernel
theorem dL_law_1326 : decode cL_law 1326 = .ok (.aload_n 1, 1) := by decide +kernel
theorem dL_law_1327 : decode cL_law 1327 = .ok (.aload_n 0, 1) := by decide +kernel
theorem dL_law_1328 : decode cL_law 1328 = .ok (.iload_n 3, 1) := by decide +kernel
theorem dL_law_1329 : decode cL_law 1329 = .ok (.iconst 1, 1) := by decide +kernel
theorem dL_law_1330 : decode cL_law 1330 = .ok (.iadd, 1) := by decide +kernel
theorem dL_law_1331 : decode cL_law 1331 = .ok (.iaload, 1) := by decide +kernel
theorem dL_law_1332 : decode cL_law 1332 = .ok (.aload_n 0, 1) := by decide +kernel
theorem dL_law_1333 : decode cL_law 1333 = .ok (.iload_n 3, 1) := by decide +kernel
theorem dL_law_1334 : decode cL_law 1334 = .ok (.iconst 2, 1) := by decide +kernel
theorem dL_law_1335 : decode cL_law 1335 = .ok (.iadd, 1) := by decide +kernel
theorem dL_law_1336 : decode cL_law 1336 = .ok (.iaload, 1) := by decide +kernel
theorem dL_law_1337 : decode cL_law 1337 = .ok (.aload_n 0, 1) := by decide +kernel
theorem dL_law_1338 : decode cL_law 1338 = .ok (.iload_n 3, 1) := by decide +kernel
theorem dL_law_1339 : decode cL_law 1339 = .ok (.iconst 3, 1) := by decide +kernel
theorem dL_law_1340 : decode cL_law 1340 = .ok (.iadd, 1) := by decide +kernel
theorem dL_law_1341 : decode cL_law 1341 = .ok (.iaload, 1) := by decide +kernel
theorem dL_law_1342 : decode cL_law 1342 = .ok (.invokevirtual 152, 3) := by decide +kernel
theorem dL_law_1345 : decode cL_law 1345 = .ok (.aload_n 2, 1) := by decide +kernel
theorem dL_law_1346 : decode cL_law 1346 = .ok (.aload_n 0, 1) := by decide +kernel
theorem dL_law_1347 : decode cL_law 1347 = .ok (.iload_n 3, 1) := by decide +kernel
theorem dL_law_1348 : decode cL_law 1348 = .ok (.iconst 1, 1) := by decide +kernel
theorem dL_law_1349 : decode cL_law 1349 = .ok (.iadd, 1) := by decide +kernel
theorem dL_law_1350 : decode cL_law 1350 = .ok (.iaload, 1) := by decide +kernel
theorem dL_law_1351 : decode cL_law 1351 = .ok (.aload_n 0, 1) := by decide +kernel
theorem dL_law_1352 : decode cL_law 1352 = .ok (.iload_n 3, 1) := by decide +kernel
theorem dL_law_1353 : decode cL_law 1353 = .ok (.iconst 2, 1) := by decide +kernel
theorem dL_law_1354 : decode cL_law 1354 = .ok (.iadd, 1) := by decide +kernel
theorem dL_law_1355 : decode cL_law 1355 = .ok (.iaload, 1) := by decide +kernel
theorem dL_law_1356 : decode cL_law 1356 = .ok (.aload_n 0, 1) := by decide +kernel
theorem dL_law_1357 : decode cL_law 1357 = .ok (.iload_n 3, 1) := by decide +kernel
theorem dL_law_1358 : decode cL_law 1358 = .ok (.iconst 3, 1) := by decide +kernel
theorem dL_law_1359 : decode cL_law 1359 = .ok (.iadd, 1) := by decide +kernel
theorem dL_law_1360 : decode cL_law 1360 = .ok (.iaload, 1) := by decide +kernel
theorem dL_law_1361 : decode cL_law 1361 = .ok (.invokevirtual 155, 3) := by decide +kernel
theorem dL_law_1364 : decode cL_law 1364 = .ok (.if_icmp .eq 175, 3) := by decide +kernel
theorem dL_law_1367 : decode cL_law 1367 = .ok (.iconst 0, 1) := by decide +kernel
theorem dL_law_1368 : decode cL_law 1368 = .ok (.ireturn, 1) := by decide +kernel
theorem dL_law_1369 : decode cL_law 1369 = .ok (.aload_n 1, 1) := by decide +kernel
theorem dL_law_1370 : decode cL_law 1370 = .ok (.aload_n 0, 1) := by decide +kernel
theorem dL_law_1371 : decode cL_law 1371 = .ok (.iload_n 3, 1) := by decide +kernel
theorem dL_law_1372 : decode cL_law 1372 = .ok (.iconst 1, 1) := by decide +kernel
theorem dL_law_1373 : decode cL_law 1373 = .ok (.iadd, 1) := by decide +kernel
theorem dL_law_1374 : decode cL_law 1374 = .ok (.iaload, 1) := by decide +kernel
theorem dL_law_1375 : decode cL_law 1375 = .ok (.aload_n 0, 1) := by decide +kernel
theorem dL_law_1376 : decode cL_law 1376 = .ok (.iload_n 3, 1) := by decide +kernel
theorem dL_law_1377 : decode cL_law 1377 = .ok (.iconst 2, 1) := by decide +kernel
theorem dL_law_1378 : decode cL_law 1378 = .ok (.iadd, 1) := by decide +kernel
theorem dL_law_1379 : decode cL_law 1379 = .ok (.iaload, 1) := by decide +kernel
theorem dL_law_1380 : decode cL_law 1380 = .ok (.aload_n 0, 1) := by decide +kernel
theorem dL_law_1381 : decode cL_law 1381 = .ok (.iload_n 3, 1) := by decide +kernel
theorem dL_law_1382 : decode cL_law 1382 = .ok (.iconst 3, 1) := by decide +kernel
theorem dL_law_1383 : decode cL_law 1383 = .ok (.iadd, 1) := by decide +kernel
theorem dL_law_1384 : decode cL_law 1384 = .ok (.iaload, 1) := by decide +kernel
theorem dL_law_1385 : decode cL_law 1385 = .ok (.i2l, 1) := by decide +kernel
theorem dL_law_1386 : decode cL_law 1386 = .ok (.bipush 32, 2) := by decide +kernel
theorem dL_law_1388 : decode cL_law 1388 = .ok (.lshl, 1) := by decide +kernel
theorem dL_law_1389 : decode cL_law 1389 = .ok (.aload_n 0, 1) := by decide +kernel
theorem dL_law_1390 : decode cL_law 1390 = .ok (.iload_n 3, 1) := by decide +kernel
theorem dL_law_1391 : decode cL_law 1391 = .ok (.iconst 4, 1) := by decide +kernel
theorem dL_law_1392 : decode cL_law 1392 = .ok (.iadd, 1) := by decide +kernel
theorem dL_law_1393 : decode cL_law 1393 = .ok (.iaload, 1) := by decide +kernel
theorem dL_law_1394 : decode cL_law 1394 = .ok (.i2l, 1) := by decide +kernel
theorem dL_law_1395 : decode cL_law 1395 = .ok (.ldc2_w 156, 3) := by decide +kernel
theorem dL_law_1398 : decode cL_law 1398 = .ok (.land, 1) := by decide +kernel
theorem dL_law_1399 : decode cL_law 1399 = .ok (.lor, 1) := by decide +kernel
theorem dL_law_1400 : decode cL_law 1400 = .ok (.invokevirtual 158, 3) := by decide +kernel
theorem dL_law_1403 : decode cL_law 1403 = .ok (.aload_n 2, 1) := by decide +kernel
theorem dL_law_1404 : decode cL_law 1404 = .ok (.aload_n 0, 1) := by decide +kernel
theorem dL_law_1405 : decode cL_law 1405 = .ok (.iload_n 3, 1) := by decide +kernel
theorem dL_law_1406 : decode cL_law 1406 = .ok (.iconst 1, 1) := by decide +kernel
theorem dL_law_1407 : decode cL_law 1407 = .ok (.iadd, 1) := by decide +kernel
theorem dL_law_1408 : decode cL_law 1408 = .ok (.iaload, 1) := by decide +kernel
theorem dL_law_1409 : decode cL_law 1409 = .ok (.aload_n 0, 1) := by decide +kernel
theorem dL_law_1410 : decode cL_law 1410 = .ok (.iload_n 3, 1) := by decide +kernel
theorem dL_law_1411 : decode cL_law 1411 = .ok (.iconst 2, 1) := by decide +kernel
theorem dL_law_1412 : decode cL_law 1412 = .ok (.iadd, 1) := by decide +kernel
theorem dL_law_1413 : decode cL_law 1413 = .ok (.iaload, 1) := by decide +kernel
theorem dL_law_1414 : decode cL_law 1414 = .ok (.aload_n 0, 1) := by decide +kernel
theorem dL_law_1415 : decode cL_law 1415 = .ok (.iload_n 3, 1) := by decide +kernel
theorem dL_law_1416 : decode cL_law 1416 = .ok (.iconst 3, 1) := by decide +kernel
theorem dL_law_1417 : decode cL_law 1417 = .ok (.iadd, 1) := by decide +kernel
theorem dL_law_1418 : decode cL_law 1418 = .ok (.iaload, 1) := by decide +kernel
theorem dL_law_1419 : decode cL_law 1419 = .ok (.i2l, 1) := by decide +kernel
theorem dL_law_1420 : decode cL_law 1420 = .ok (.bipush 32, 2) := by decide +kernel
theorem dL_law_1422 : decode cL_law 1422 = .ok (.lshl, 1) := by decide +kernel
theorem dL_law_1423 : decode cL_law 1423 = .ok (.aload_n 0, 1) := by decide +kernel
theorem dL_law_1424 : decode cL_law 1424 = .ok (.iload_n 3, 1) := by decide +kernel
theorem dL_law_1425 : decode cL_law 1425 = .ok (.iconst 4, 1) := by decide +kernel
theorem dL_law_1426 : decode cL_law 1426 = .ok (.iadd, 1) := by decide +kernel
theorem dL_law_1427 : decode cL_law 1427 = .ok (.iaload, 1) := by decide +kernel
theorem dL_law_1428 : decode cL_law 1428 = .ok (.i2l, 1) := by decide +kernel
theorem dL_law_1429 : decode cL_law 1429 = .ok (.ldc2_w 156, 3) := by decide +kernel
theorem dL_law_1432 : decode cL_law 1432 = .ok (.land, 1) := by decide +kernel
theorem dL_law_1433 : decode cL_law 1433 = .ok (.lor, 1) := by decide +kernel
theorem dL_law_1434 : decode cL_law 1434 = .ok (.invokevirtual 162, 3) := by decide +kernel
theorem dL_law_1437 : decode cL_law 1437 = .ok (.if_icmp .eq 102, 3) := by decide +kernel
theorem dL_law_1440 : decode cL_law 1440 = .ok (.iconst 0, 1) := by decide +kernel
theorem dL_law_1441 : decode cL_law 1441 = .ok (.ireturn, 1) := by decide +kernel
theorem dL_law_1442 : decode cL_law 1442 = .ok (.aload_n 1, 1) := by decide +kernel
theorem dL_law_1443 : decode cL_law 1443 = .ok (.aload_n 0, 1) := by decide +kernel
theorem dL_law_1444 : decode cL_law 1444 = .ok (.iload_n 3, 1) := by decide +kernel
theorem dL_law_1445 : decode cL_law 1445 = .ok (.iconst 1, 1) := by decide +kernel
theorem dL_law_1446 : decode cL_law 1446 = .ok (.iadd, 1) := by decide +kernel
theorem dL_law_1447 : decode cL_law 1447 = .ok (.iaload, 1) := by decide +kernel
theorem dL_law_1448 : decode cL_law 1448 = .ok (.aload_n 0, 1) := by decide +kernel
theorem dL_law_1449 : decode cL_law 1449 = .ok (.iload_n 3, 1) := by decide +kernel
theorem dL_law_1450 : decode cL_law 1450 = .ok (.iconst 2, 1) := by decide +kernel
theorem dL_law_1451 : decode cL_law 1451 = .ok (.iadd, 1) := by decide +kernel
theorem dL_law_1452 : decode cL_law 1452 = .ok (.iaload, 1) := by decide +kernel
theorem dL_law_1453 : decode cL_law 1453 = .ok (.invokevirtual 163, 3) := by decide +kernel
theorem dL_law_1456 : decode cL_law 1456 = .ok (.aload_n 2, 1) := by decide +kernel
theorem dL_law_1457 : decode cL_law 1457 = .ok (.aload_n 0, 1) := by decide +kernel
theorem dL_law_1458 : decode cL_law 1458 = .ok (.iload_n 3, 1) := by decide +kernel
theorem dL_law_1459 : decode cL_law 1459 = .ok (.iconst 1, 1) := by decide +kernel
theorem dL_law_1460 : decode cL_law 1460 = .ok (.iadd, 1) := by decide +kernel
theorem dL_law_1461 : decode cL_law 1461 = .ok (.iaload, 1) := by decide +kernel
theorem dL_law_1462 : decode cL_law 1462 = .ok (.aload_n 0, 1) := by decide +kernel
theorem dL_law_1463 : decode cL_law 1463 = .ok (.iload_n 3, 1) := by decide +kernel
theorem dL_law_1464 : decode cL_law 1464 = .ok (.iconst 2, 1) := by decide +kernel
theorem dL_law_1465 : decode cL_law 1465 = .ok (.iadd, 1) := by decide +kernel
theorem dL_law_1466 : decode cL_law 1466 = .ok (.iaload, 1) := by decide +kernel
theorem dL_law_1467 : decode cL_law 1467 = .ok (.invokevirtual 166, 3) := by decide +kernel
theorem dL_law_1470 : decode cL_law 1470 = .ok (.lcmp, 1) := by decide +kernel
theorem dL_law_1471 : decode cL_law 1471 = .ok (.ifCond .eq 68, 3) := by decide +kernel
theorem dL_law_1474 : decode cL_law 1474 = .ok (.iconst 0, 1) := by decide +kernel
theorem dL_law_1475 : decode cL_law 1475 = .ok (.ireturn, 1) := by decide +kernel
theorem dL_law_1476 : decode cL_law 1476 = .ok (.aload_n 1, 1) := by decide +kernel
theorem dL_law_1477 : decode cL_law 1477 = .ok (.aload_n 0, 1) := by decide +kernel
theorem dL_law_1478 : decode cL_law 1478 = .ok (.iload_n 3, 1) := by decide +kernel
theorem dL_law_1479 : decode cL_law 1479 = .ok (.iconst 1, 1) := by decide +kernel
theorem dL_law_1480 : decode cL_law 1480 = .ok (.iadd, 1) := by decide +kernel
theorem dL_law_1481 : decode cL_law 1481 = .ok (.iaload, 1) := by decide +kernel
theorem dL_law_1482 : decode cL_law 1482 = .ok (.aload_n 0, 1) := by decide +kernel
theorem dL_law_1483 : decode cL_law 1483 = .ok (.iload_n 3, 1) := by decide +kernel
theorem dL_law_1484 : decode cL_law 1484 = .ok (.iconst 2, 1) := by decide +kernel
theorem dL_law_1485 : decode cL_law 1485 = .ok (.iadd, 1) := by decide +kernel
theorem dL_law_1486 : decode cL_law 1486 = .ok (.iaload, 1) := by decide +kernel
theorem dL_law_1487 : decode cL_law 1487 = .ok (.aload_n 0, 1) := by decide +kernel
theorem dL_law_1488 : decode cL_law 1488 = .ok (.iload_n 3, 1) := by decide +kernel
theorem dL_law_1489 : decode cL_law 1489 = .ok (.iconst 3, 1) := by decide +kernel
theorem dL_law_1490 : decode cL_law 1490 = .ok (.iadd, 1) := by decide +kernel
theorem dL_law_1491 : decode cL_law 1491 = .ok (.iaload, 1) := by decide +kernel
theorem dL_law_1492 : decode cL_law 1492 = .ok (.aload_n 0, 1) := by decide +kernel
theorem dL_law_1493 : decode cL_law 1493 = .ok (.iload_n 3, 1) := by decide +kernel
theorem dL_law_1494 : decode cL_law 1494 = .ok (.iconst 4, 1) := by decide +kernel
theorem dL_law_1495 : decode cL_law 1495 = .ok (.iadd, 1) := by decide +kernel
theorem dL_law_1496 : decode cL_law 1496 = .ok (.iaload, 1) := by decide +kernel
theorem dL_law_1497 : decode cL_law 1497 = .ok (.aload_n 0, 1) := by decide +kernel
theorem dL_law_1498 : decode cL_law 1498 = .ok (.iload_n 3, 1) := by decide +kernel
theorem dL_law_1499 : decode cL_law 1499 = .ok (.iconst 5, 1) := by decide +kernel
theorem dL_law_1500 : decode cL_law 1500 = .ok (.iadd, 1) := by decide +kernel
theorem dL_law_1501 : decode cL_law 1501 = .ok (.iaload, 1) := by decide +kernel
theorem dL_law_1502 : decode cL_law 1502 = .ok (.invokevirtual 167, 3) := by decide +kernel
theorem dL_law_1505 : decode cL_law 1505 = .ok (.aload_n 2, 1) := by decide +kernel
theorem dL_law_1506 : decode cL_law 1506 = .ok (.aload_n 0, 1) := by decide +kernel
theorem dL_law_1507 : decode cL_law 1507 = .ok (.iload_n 3, 1) := by decide +kernel
theorem dL_law_1508 : decode cL_law 1508 = .ok (.iconst 1, 1) := by decide +kernel
theorem dL_law_1509 : decode cL_law 1509 = .ok (.iadd, 1) := by decide +kernel
theorem dL_law_1510 : decode cL_law 1510 = .ok (.iaload, 1) := by decide +kernel
theorem dL_law_1511 : decode cL_law 1511 = .ok (.aload_n 0, 1) := by decide +kernel
theorem dL_law_1512 : decode cL_law 1512 = .ok (.iload_n 3, 1) := by decide +kernel
theorem dL_law_1513 : decode cL_law 1513 = .ok (.iconst 2, 1) := by decide +kernel
theorem dL_law_1514 : decode cL_law 1514 = .ok (.iadd, 1) := by decide +kernel
theorem dL_law_1515 : decode cL_law 1515 = .ok (.iaload, 1) := by decide +kernel
theorem dL_law_1516 : decode cL_law 1516 = .ok (.aload_n 0, 1) := by decide +kernel
theorem dL_law_1517 : decode cL_law 1517 = .ok (.iload_n 3, 1) := by decide +kernel
theorem dL_law_1518 : decode cL_law 1518 = .ok (.iconst 3, 1) := by decide +kernel
theorem dL_law_1519 : decode cL_law 1519 = .ok (.iadd, 1) := by decide +kernel
theorem dL_law_1520 : decode cL_law 1520 = .ok (.iaload, 1) := by decide +kernel
theorem dL_law_1521 : decode cL_law 1521 = .ok (.aload_n 0, 1) := by decide +kernel
theorem dL_law_1522 : decode cL_law 1522 = .ok (.iload_n 3, 1) := by decide +kernel
theorem dL_law_1523 : decode cL_law 1523 = .ok (.iconst 4, 1) := by decide +kernel
theorem dL_law_1524 : decode cL_law 1524 = .ok (.iadd, 1) := by decide +kernel
theorem dL_law_1525 : decode cL_law 1525 = .ok (.iaload, 1) := by decide +kernel
theorem dL_law_1526 : decode cL_law 1526 = .ok (.aload_n 0, 1) := by decide +kernel
theorem dL_law_1527 : decode cL_law 1527 = .ok (.iload_n 3, 1) := by decide +kernel
theorem dL_law_1528 : decode cL_law 1528 = .ok (.iconst 5, 1) := by decide +kernel
theorem dL_law_1529 : decode cL_law 1529 = .ok (.iadd, 1) := by decide +kernel
theorem dL_law_1530 : decode cL_law 1530 = .ok (.iaload, 1) := by decide +kernel
theorem dL_law_1531 : decode cL_law 1531 = .ok (.invokevirtual 170, 3) := by decide +kernel
theorem dL_law_1534 : decode cL_law 1534 = .ok (.if_icmp .eq 5, 3) := by decide +kernel
theorem dL_law_1537 : decode cL_law 1537 = .ok (.iconst 0, 1) := by decide +kernel
theorem dL_law_1538 : decode cL_law 1538 = .ok (.ireturn, 1) := by decide +kernel
theorem dL_law_1539 : decode cL_law 1539 = .ok (.iinc 3 7, 3) := by decide +kernel
theorem dL_law_1542 : decode cL_law 1542 = .ok (.goto (-1524), 3) := by decide +kernel
theorem dL_law_1545 : decode cL_law 1545 = .ok (.iconst 1, 1) := by decide +kernel
theorem dL_law_1546 : decode cL_law 1546 = .ok (.ireturn, 1) := by decide +kernel
abbrev vwCl : List vw_C := [(RX0, TX0, 2), (RX1, TX1, 3), (RX2, TX2, 8), (RX3, TX3, 6), (RX4, TX4, 4), (RX5, TX5, 8), (RX6, TX6, 18)]
end
section
def BG : List Cond := lw_tbl.filter goodWord
theorem bg_of {w : Cond} {i : Nat} (h : lw_tbl[i]? = some w) (hg : goodWord w = true) : w ∈ BG := List.mem_filter.mpr ⟨List.mem_of_getElem? h, hg⟩
theorem kcX0_init : Cond.code yX0_init cX0_init 1 none ∈ BG := bg_of (i := 159) (by decide +kernel) rfl
theorem kiX0_init : Cond.instanceMethod yX0_init ∈ BG := bg_of (i := 158) (by decide +kernel) rfl
theorem kcX0_start : Cond.code yX0_start cX0_start 3 none ∈ BG := bg_of (i := 389) (by decide +kernel) rfl
theorem kiX0_start : Cond.instanceMethod yX0_start ∈ BG := bg_of (i := 387) (by decide +kernel) rfl
theorem kvX0_start : Cond.selects RX0 yX0_start yX0_start ∈ BG := bg_of (i := 388) (by decide +kernel) rfl
theorem kcX0_step : Cond.code yX0_step cX0_step 5 (some .int) ∈ BG := bg_of (i := 393) (by decide +kernel) rfl
theorem kiX0_step : Cond.instanceMethod yX0_step ∈ BG := bg_of (i := 391) (by decide +kernel) rfl
theorem kvX0_step : Cond.selects RX0 yX0_step yX0_step ∈ BG := bg_of (i := 392) (by decide +kernel) rfl
theorem kcX1_init : Cond.code yX1_init cX1_init 1 none ∈ BG := bg_of (i := 173) (by decide +kernel) rfl
theorem kiX1_init : Cond.instanceMethod yX1_init ∈ BG := bg_of (i := 172) (by decide +kernel) rfl
theorem kcX1_isMissing : Cond.code yX1_isMissing cX1_isMissing 1 (some .boolean) ∈ BG := bg_of (i := 412) (by decide +kernel) rfl
theorem kiX1_isMissing : Cond.instanceMethod yX1_isMissing ∈ BG := bg_of (i := 410) (by decide +kernel) rfl
theorem kvX1_isMissing : Cond.selects RX1 yX1_isMissing yX1_isMissing ∈ BG := bg_of (i := 411) (by decide +kernel) rfl
theorem kcX1_canTell : Cond.code yX1_canTell cX1_canTell 1 (some .boolean) ∈ BG := bg_of (i := 408) (by decide +kernel) rfl
theorem kiX1_canTell : Cond.instanceMethod yX1_canTell ∈ BG := bg_of (i := 406) (by decide +kernel) rfl
theorem kvX1_canTell : Cond.selects RX1 yX1_canTell yX1_canTell ∈ BG := bg_of (i := 407) (by decide +kernel) rfl
theorem kcX1_begin : Cond.code yX1_begin cX1_begin 4 none ∈ BG := bg_of (i := 452) (by decide +kernel) rfl
theorem kiX1_begin : Cond.instanceMethod yX1_begin ∈ BG := bg_of (i := 450) (by decide +kernel) rfl
theorem kvX1_begin : Cond.selects RX1 yX1_begin yX1_begin ∈ BG := bg_of (i := 451) (by decide +kernel) rfl
theorem kcX1_holds : Cond.code yX1_holds cX1_holds 4 (some .boolean) ∈ BG := bg_of (i := 460) (by decide +kernel) rfl
theorem kiX1_holds : Cond.instanceMethod yX1_holds ∈ BG := bg_of (i := 458) (by decide +kernel) rfl
theorem kvX1_holds : Cond.selects RX1 yX1_holds yX1_holds ∈ BG := bg_of (i := 459) (by decide +kernel) rfl
theorem kcX1_write : Cond.code yX1_write cX1_write 4 none ∈ BG := bg_of (i := 456) (by decide +kernel) rfl
theorem kiX1_write : Cond.instanceMethod yX1_write ∈ BG := bg_of (i := 454) (by decide +kernel) rfl
theorem kvX1_write : Cond.selects RX1 yX1_write yX1_write ∈ BG := bg_of (i := 455) (by decide +kernel) rfl
theorem kcX2_init : Cond.code yX2_init cX2_init 1 none ∈ BG := bg_of (i := 124) (by decide +kernel) rfl
theorem kiX2_init : Cond.instanceMethod yX2_init ∈ BG := bg_of (i := 123) (by decide +kernel) rfl
theorem kcX2_addByte : Cond.code yX2_addByte cX2_addByte 2 none ∈ BG := bg_of (i := 510) (by decide +kernel) rfl
theorem kiX2_addByte : Cond.instanceMethod yX2_addByte ∈ BG := bg_of (i := 508) (by decide +kernel) rfl
theorem kvX2_addByte : Cond.selects RX2 yX2_addByte yX2_addByte ∈ BG := bg_of (i := 509) (by decide +kernel) rfl
theorem kcX2_byteAt : Cond.code yX2_byteAt cX2_byteAt 2 (some .int) ∈ BG := bg_of (i := 538) (by decide +kernel) rfl
theorem kiX2_byteAt : Cond.instanceMethod yX2_byteAt ∈ BG := bg_of (i := 536) (by decide +kernel) rfl
theorem kvX2_byteAt : Cond.selects RX2 yX2_byteAt yX2_byteAt ∈ BG := bg_of (i := 537) (by decide +kernel) rfl
theorem kcX5_within : Cond.code yX5_within cX5_within 3 (some .boolean) ∈ BG := bg_of (i := 222) (by decide +kernel) rfl
theorem ksX5_within : Cond.static yX5_within ∈ BG := bg_of (i := 221) (by decide +kernel) rfl
theorem kcX2_sortAt : Cond.code yX2_sortAt cX2_sortAt 3 (some .int) ∈ BG := bg_of (i := 534) (by decide +kernel) rfl
theorem kiX2_sortAt : Cond.instanceMethod yX2_sortAt ∈ BG := bg_of (i := 532) (by decide +kernel) rfl
theorem kvX2_sortAt : Cond.selects RX2 yX2_sortAt yX2_sortAt ∈ BG := bg_of (i := 533) (by decide +kernel) rfl
theorem kcX2_behind : Cond.code yX2_behind cX2_behind 4 (some .int) ∈ BG := bg_of (i := 530) (by decide +kernel) rfl
theorem kiX2_behind : Cond.instanceMethod yX2_behind ∈ BG := bg_of (i := 528) (by decide +kernel) rfl
theorem kvX2_behind : Cond.selects RX2 yX2_behind yX2_behind ∈ BG := bg_of (i := 529) (by decide +kernel) rfl
theorem kcX2_next : Cond.code yX2_next cX2_next 1 (some .int) ∈ BG := bg_of (i := 526) (by decide +kernel) rfl
theorem kiX2_next : Cond.instanceMethod yX2_next ∈ BG := bg_of (i := 524) (by decide +kernel) rfl
theorem kvX2_next : Cond.selects RX2 yX2_next yX2_next ∈ BG := bg_of (i := 525) (by decide +kernel) rfl
theorem kcX5_spellingOf : Cond.code yX5_spellingOf cX5_spellingOf 1 (some (.object "java/lang/String")) ∈ BG := bg_of (i := 546) (by decide +kernel) rfl
theorem ksX5_spellingOf : Cond.static yX5_spellingOf ∈ BG := bg_of (i := 545) (by decide +kernel) rfl
theorem kcJ0_coder_7d493 : Cond.code yJ0_coder_7d493 cJ0_coder_7d493 1 (some .byte) ∈ BG := bg_of (i := 564) (by decide +kernel) rfl
theorem kiJ0_coder_7d493 : Cond.instanceMethod yJ0_coder_7d493 ∈ BG := bg_of (i := 562) (by decide +kernel) rfl
theorem kvJ0_coder_7d493 : Cond.selects RJ0 yJ0_coder_7d493 yJ0_coder_7d493 ∈ BG := bg_of (i := 563) (by decide +kernel) rfl
theorem kcJ0_length_8abf5 : Cond.code yJ0_length_8abf5 cJ0_length_8abf5 1 (some .int) ∈ BG := bg_of (i := 560) (by decide +kernel) rfl
theorem kiJ0_length_8abf5 : Cond.instanceMethod yJ0_length_8abf5 ∈ BG := bg_of (i := 558) (by decide +kernel) rfl
theorem kvJ0_length_8abf5 : Cond.selects RJ0 yJ0_length_8abf5 yJ0_length_8abf5 ∈ BG := bg_of (i := 559) (by decide +kernel) rfl
theorem kcJ0_isLatin1_aae02 : Cond.code yJ0_isLatin1_aae02 cJ0_isLatin1_aae02 1 (some .boolean) ∈ BG := bg_of (i := 574) (by decide +kernel) rfl
theorem kiJ0_isLatin1_aae02 : Cond.instanceMethod yJ0_isLatin1_aae02 ∈ BG := bg_of (i := 572) (by decide +kernel) rfl
theorem kvJ0_isLatin1_aae02 : Cond.selects RJ0 yJ0_isLatin1_aae02 yJ0_isLatin1_aae02 ∈ BG := bg_of (i := 573) (by decide +kernel) rfl
theorem kcJ3_checkIndex_8e157 : Cond.code yJ3_checkIndex_8e157 cJ3_checkIndex_8e157 3 (some .int) ∈ BG := bg_of (i := 585) (by decide +kernel) rfl
theorem ksJ3_checkIndex_8e157 : Cond.static yJ3_checkIndex_8e157 ∈ BG := bg_of (i := 584) (by decide +kernel) rfl
theorem kcJ0_checkIndex_df160 : Cond.code yJ0_checkIndex_df160 cJ0_checkIndex_df160 2 none ∈ BG := bg_of (i := 580) (by decide +kernel) rfl
theorem ksJ0_checkIndex_df160 : Cond.static yJ0_checkIndex_df160 ∈ BG := bg_of (i := 579) (by decide +kernel) rfl
theorem kcJ1_charAt_3b067 : Cond.code yJ1_charAt_3b067 cJ1_charAt_3b067 2 (some .char) ∈ BG := bg_of (i := 577) (by decide +kernel) rfl
theorem ksJ1_charAt_3b067 : Cond.static yJ1_charAt_3b067 ∈ BG := bg_of (i := 576) (by decide +kernel) rfl
theorem kcJ2_length_9d52b : Cond.code yJ2_length_9d52b cJ2_length_9d52b 1 (some .int) ∈ BG := bg_of (i := 594) (by decide +kernel) rfl
theorem ksJ2_length_9d52b : Cond.static yJ2_length_9d52b ∈ BG := bg_of (i := 593) (by decide +kernel) rfl
theorem kcJ2_checkIndex_2214a : Cond.code yJ2_checkIndex_2214a cJ2_checkIndex_2214a 2 none ∈ BG := bg_of (i := 591) (by decide +kernel) rfl
theorem ksJ2_checkIndex_2214a : Cond.static yJ2_checkIndex_2214a ∈ BG := bg_of (i := 590) (by decide +kernel) rfl
theorem kcJ2_getChar_3b067 : Cond.code yJ2_getChar_3b067 cJ2_getChar_3b067 2 (some .char) ∈ BG := bg_of (i := 598) (by decide +kernel) rfl
theorem ksJ2_getChar_3b067 : Cond.static yJ2_getChar_3b067 ∈ BG := bg_of (i := 597) (by decide +kernel) rfl
theorem kcJ2_charAt_3b067 : Cond.code yJ2_charAt_3b067 cJ2_charAt_3b067 2 (some .char) ∈ BG := bg_of (i := 588) (by decide +kernel) rfl
theorem ksJ2_charAt_3b067 : Cond.static yJ2_charAt_3b067 ∈ BG := bg_of (i := 587) (by decide +kernel) rfl
theorem kcJ0_charAt_5068e : Cond.code yJ0_charAt_5068e cJ0_charAt_5068e 2 (some .char) ∈ BG := bg_of (i := 570) (by decide +kernel) rfl
theorem kiJ0_charAt_5068e : Cond.instanceMethod yJ0_charAt_5068e ∈ BG := bg_of (i := 568) (by decide +kernel) rfl
theorem kvJ0_charAt_5068e : Cond.selects RJ0 yJ0_charAt_5068e yJ0_charAt_5068e ∈ BG := bg_of (i := 569) (by decide +kernel) rfl
theorem kcX2_isSpelt : Cond.code yX2_isSpelt cX2_isSpelt 3 (some .boolean) ∈ BG := bg_of (i := 556) (by decide +kernel) rfl
theorem kiX2_isSpelt : Cond.instanceMethod yX2_isSpelt ∈ BG := bg_of (i := 554) (by decide +kernel) rfl
theorem kvX2_isSpelt : Cond.selects RX2 yX2_isSpelt yX2_isSpelt ∈ BG := bg_of (i := 555) (by decide +kernel) rfl
theorem kcX2_wordRead : Cond.code yX2_wordRead cX2_wordRead 2 (some .int) ∈ BG := bg_of (i := 543) (by decide +kernel) rfl
theorem kiX2_wordRead : Cond.instanceMethod yX2_wordRead ∈ BG := bg_of (i := 541) (by decide +kernel) rfl
theorem kvX2_wordRead : Cond.selects RX2 yX2_wordRead yX2_wordRead ∈ BG := bg_of (i := 542) (by decide +kernel) rfl
theorem kcX2_say : Cond.code yX2_say cX2_say 2 none ∈ BG := bg_of (i := 608) (by decide +kernel) rfl
theorem kiX2_say : Cond.instanceMethod yX2_say ∈ BG := bg_of (i := 606) (by decide +kernel) rfl
theorem kvX2_say : Cond.selects RX2 yX2_say yX2_say ∈ BG := bg_of (i := 607) (by decide +kernel) rfl
theorem kcX5_numbersOf : Cond.code yX5_numbersOf cX5_numbersOf 1 (some .int) ∈ BG := bg_of (i := 611) (by decide +kernel) rfl
theorem ksX5_numbersOf : Cond.static yX5_numbersOf ∈ BG := bg_of (i := 610) (by decide +kernel) rfl
theorem kcX2_numberRead : Cond.code yX2_numberRead cX2_numberRead 3 (some .int) ∈ BG := bg_of (i := 617) (by decide +kernel) rfl
theorem kiX2_numberRead : Cond.instanceMethod yX2_numberRead ∈ BG := bg_of (i := 615) (by decide +kernel) rfl
theorem kvX2_numberRead : Cond.selects RX2 yX2_numberRead yX2_numberRead ∈ BG := bg_of (i := 616) (by decide +kernel) rfl
theorem kcX2_readClause : Cond.code yX2_readClause cX2_readClause 3 (some .boolean) ∈ BG := bg_of (i := 522) (by decide +kernel) rfl
theorem kiX2_readClause : Cond.instanceMethod yX2_readClause ∈ BG := bg_of (i := 520) (by decide +kernel) rfl
theorem kvX2_readClause : Cond.selects RX2 yX2_readClause yX2_readClause ∈ BG := bg_of (i := 521) (by decide +kernel) rfl
theorem kcX2_findFault : Cond.code yX2_findFault cX2_findFault 3 (some .int) ∈ BG := bg_of (i := 518) (by decide +kernel) rfl
theorem kiX2_findFault : Cond.instanceMethod yX2_findFault ∈ BG := bg_of (i := 516) (by decide +kernel) rfl
theorem kvX2_findFault : Cond.selects RX2 yX2_findFault yX2_findFault ∈ BG := bg_of (i := 517) (by decide +kernel) rfl
theorem kcX2_saidAt : Cond.code yX2_saidAt cX2_saidAt 2 (some .int) ∈ BG := bg_of (i := 621) (by decide +kernel) rfl
theorem kiX2_saidAt : Cond.instanceMethod yX2_saidAt ∈ BG := bg_of (i := 619) (by decide +kernel) rfl
theorem kvX2_saidAt : Cond.selects RX2 yX2_saidAt yX2_saidAt ∈ BG := bg_of (i := 620) (by decide +kernel) rfl
theorem kcX3_init : Cond.code yX3_init cX3_init 1 none ∈ BG := bg_of (i := 71) (by decide +kernel) rfl
theorem kiX3_init : Cond.instanceMethod yX3_init ∈ BG := bg_of (i := 70) (by decide +kernel) rfl
theorem kcX3_become : Cond.code yX3_become cX3_become 2 none ∈ BG := bg_of (i := 429) (by decide +kernel) rfl
theorem kiX3_become : Cond.instanceMethod yX3_become ∈ BG := bg_of (i := 427) (by decide +kernel) rfl
theorem kvX3_become : Cond.selects RX3 yX3_become yX3_become ∈ BG := bg_of (i := 428) (by decide +kernel) rfl
theorem kcX3_addPair : Cond.code yX3_addPair cX3_addPair 3 (some .int) ∈ BG := bg_of (i := 270) (by decide +kernel) rfl
theorem kiX3_addPair : Cond.instanceMethod yX3_addPair ∈ BG := bg_of (i := 268) (by decide +kernel) rfl
theorem kvX3_addPair : Cond.selects RX3 yX3_addPair yX3_addPair ∈ BG := bg_of (i := 269) (by decide +kernel) rfl
theorem kcX3_toothOf : Cond.code yX3_toothOf cX3_toothOf 3 (some .int) ∈ BG := bg_of (i := 303) (by decide +kernel) rfl
theorem kiX3_toothOf : Cond.instanceMethod yX3_toothOf ∈ BG := bg_of (i := 301) (by decide +kernel) rfl
theorem kvX3_toothOf : Cond.selects RX3 yX3_toothOf yX3_toothOf ∈ BG := bg_of (i := 302) (by decide +kernel) rfl
theorem kcX3_isA : Cond.code yX3_isA cX3_isA 3 (some .boolean) ∈ BG := bg_of (i := 311) (by decide +kernel) rfl
theorem kiX3_isA : Cond.instanceMethod yX3_isA ∈ BG := bg_of (i := 309) (by decide +kernel) rfl
theorem kvX3_isA : Cond.selects RX3 yX3_isA yX3_isA ∈ BG := bg_of (i := 310) (by decide +kernel) rfl
theorem kcX5_misfit : Cond.code yX5_misfit cX5_misfit 2 (some .int) ∈ BG := bg_of (i := 239) (by decide +kernel) rfl
theorem ksX5_misfit : Cond.static yX5_misfit ∈ BG := bg_of (i := 238) (by decide +kernel) rfl
theorem kcX3_jammed : Cond.code yX3_jammed cX3_jammed 2 (some .int) ∈ BG := bg_of (i := 236) (by decide +kernel) rfl
theorem kiX3_jammed : Cond.instanceMethod yX3_jammed ∈ BG := bg_of (i := 234) (by decide +kernel) rfl
theorem kvX3_jammed : Cond.selects RX3 yX3_jammed yX3_jammed ∈ BG := bg_of (i := 235) (by decide +kernel) rfl
theorem kcX5_greatestDivisor : Cond.code yX5_greatestDivisor cX5_greatestDivisor 11 (some .long) ∈ BG := bg_of (i := 248) (by decide +kernel) rfl
theorem ksX5_greatestDivisor : Cond.static yX5_greatestDivisor ∈ BG := bg_of (i := 247) (by decide +kernel) rfl
theorem kcX5_cut : Cond.code yX5_cut cX5_cut 4 (some .long) ∈ BG := bg_of (i := 251) (by decide +kernel) rfl
theorem ksX5_cut : Cond.static yX5_cut ∈ BG := bg_of (i := 250) (by decide +kernel) rfl
theorem kcX5_lowest : Cond.code yX5_lowest cX5_lowest 5 (some .long) ∈ BG := bg_of (i := 242) (by decide +kernel) rfl
theorem ksX5_lowest : Cond.static yX5_lowest ∈ BG := bg_of (i := 241) (by decide +kernel) rfl
theorem kcX3_tune : Cond.code yX3_tune cX3_tune 7 none ∈ BG := bg_of (i := 232) (by decide +kernel) rfl
theorem kiX3_tune : Cond.instanceMethod yX3_tune ∈ BG := bg_of (i := 230) (by decide +kernel) rfl
theorem kvX3_tune : Cond.selects RX3 yX3_tune yX3_tune ∈ BG := bg_of (i := 231) (by decide +kernel) rfl
theorem kcX3_isAsFastAs : Cond.code yX3_isAsFastAs cX3_isAsFastAs 2 (some .boolean) ∈ BG := bg_of (i := 485) (by decide +kernel) rfl
theorem kiX3_isAsFastAs : Cond.instanceMethod yX3_isAsFastAs ∈ BG := bg_of (i := 483) (by decide +kernel) rfl
theorem kvX3_isAsFastAs : Cond.selects RX3 yX3_isAsFastAs yX3_isAsFastAs ∈ BG := bg_of (i := 484) (by decide +kernel) rfl
theorem kcX3_wayAt : Cond.code yX3_wayAt cX3_wayAt 6 (some .long) ∈ BG := bg_of (i := 352) (by decide +kernel) rfl
theorem kiX3_wayAt : Cond.instanceMethod yX3_wayAt ∈ BG := bg_of (i := 350) (by decide +kernel) rfl
theorem kvX3_wayAt : Cond.selects RX3 yX3_wayAt yX3_wayAt ∈ BG := bg_of (i := 351) (by decide +kernel) rfl
theorem kcX3_spot : Cond.code yX3_spot cX3_spot 2 (some .int) ∈ BG := bg_of (i := 348) (by decide +kernel) rfl
theorem kiX3_spot : Cond.instanceMethod yX3_spot ∈ BG := bg_of (i := 346) (by decide +kernel) rfl
theorem kvX3_spot : Cond.selects RX3 yX3_spot yX3_spot ∈ BG := bg_of (i := 347) (by decide +kernel) rfl
theorem kcX3_shapeAt : Cond.code yX3_shapeAt cX3_shapeAt 6 (some .int) ∈ BG := bg_of (i := 360) (by decide +kernel) rfl
theorem kiX3_shapeAt : Cond.instanceMethod yX3_shapeAt ∈ BG := bg_of (i := 358) (by decide +kernel) rfl
theorem kvX3_shapeAt : Cond.selects RX3 yX3_shapeAt yX3_shapeAt ∈ BG := bg_of (i := 359) (by decide +kernel) rfl
theorem kcX3_swing : Cond.code yX3_swing cX3_swing 2 (some .long) ∈ BG := bg_of (i := 344) (by decide +kernel) rfl
theorem kiX3_swing : Cond.instanceMethod yX3_swing ∈ BG := bg_of (i := 342) (by decide +kernel) rfl
theorem kvX3_swing : Cond.selects RX3 yX3_swing yX3_swing ∈ BG := bg_of (i := 343) (by decide +kernel) rfl
theorem kcX4_init : Cond.code yX4_init cX4_init 2 none ∈ BG := bg_of (i := 64) (by decide +kernel) rfl
theorem kiX4_init : Cond.instanceMethod yX4_init ∈ BG := bg_of (i := 63) (by decide +kernel) rfl
theorem kcX4_become : Cond.code yX4_become cX4_become 3 none ∈ BG := bg_of (i := 638) (by decide +kernel) rfl
theorem kiX4_become : Cond.instanceMethod yX4_become ∈ BG := bg_of (i := 636) (by decide +kernel) rfl
theorem kvX4_become : Cond.selects RX4 yX4_become yX4_become ∈ BG := bg_of (i := 637) (by decide +kernel) rfl
theorem kcX4_wheelOf : Cond.code yX4_wheelOf cX4_wheelOf 2 (some (.object "TideWheels$Wheel")) ∈ BG := bg_of (i := 263) (by decide +kernel) rfl
theorem kiX4_wheelOf : Cond.instanceMethod yX4_wheelOf ∈ BG := bg_of (i := 261) (by decide +kernel) rfl
theorem kvX4_wheelOf : Cond.selects RX4 yX4_wheelOf yX4_wheelOf ∈ BG := bg_of (i := 262) (by decide +kernel) rfl
theorem kcX4_addWheel : Cond.code yX4_addWheel cX4_addWheel 6 (some .int) ∈ BG := bg_of (i := 228) (by decide +kernel) rfl
theorem kiX4_addWheel : Cond.instanceMethod yX4_addWheel ∈ BG := bg_of (i := 226) (by decide +kernel) rfl
theorem kvX4_addWheel : Cond.selects RX4 yX4_addWheel yX4_addWheel ∈ BG := bg_of (i := 227) (by decide +kernel) rfl
theorem kcX4_goAt : Cond.code yX4_goAt cX4_goAt 3 none ∈ BG := bg_of (i := 283) (by decide +kernel) rfl
theorem kiX4_goAt : Cond.instanceMethod yX4_goAt ∈ BG := bg_of (i := 281) (by decide +kernel) rfl
theorem kvX4_goAt : Cond.selects RX4 yX4_goAt yX4_goAt ∈ BG := bg_of (i := 282) (by decide +kernel) rfl
theorem kcX4_level : Cond.code yX4_level cX4_level 5 (some .long) ∈ BG := bg_of (i := 340) (by decide +kernel) rfl
theorem kiX4_level : Cond.instanceMethod yX4_level ∈ BG := bg_of (i := 338) (by decide +kernel) rfl
theorem kvX4_level : Cond.selects RX4 yX4_level yX4_level ∈ BG := bg_of (i := 339) (by decide +kernel) rfl
theorem kcX4_likeOnes : Cond.code yX4_likeOnes cX4_likeOnes 4 (some .int) ∈ BG := bg_of (i := 481) (by decide +kernel) rfl
theorem kiX4_likeOnes : Cond.instanceMethod yX4_likeOnes ∈ BG := bg_of (i := 479) (by decide +kernel) rfl
theorem kvX4_likeOnes : Cond.selects RX4 yX4_likeOnes yX4_likeOnes ∈ BG := bg_of (i := 480) (by decide +kernel) rfl
theorem kcX4_groups : Cond.code yX4_groups cX4_groups 3 (some .int) ∈ BG := bg_of (i := 477) (by decide +kernel) rfl
theorem kiX4_groups : Cond.instanceMethod yX4_groups ∈ BG := bg_of (i := 475) (by decide +kernel) rfl
theorem kvX4_groups : Cond.selects RX4 yX4_groups yX4_groups ∈ BG := bg_of (i := 476) (by decide +kernel) rfl
theorem kcX4_pairsOfAll : Cond.code yX4_pairsOfAll cX4_pairsOfAll 3 (some .int) ∈ BG := bg_of (i := 660) (by decide +kernel) rfl
theorem kiX4_pairsOfAll : Cond.instanceMethod yX4_pairsOfAll ∈ BG := bg_of (i := 658) (by decide +kernel) rfl
theorem kvX4_pairsOfAll : Cond.selects RX4 yX4_pairsOfAll yX4_pairsOfAll ∈ BG := bg_of (i := 659) (by decide +kernel) rfl
theorem kcX4_jams : Cond.code yX4_jams cX4_jams 3 (some .int) ∈ BG := bg_of (i := 664) (by decide +kernel) rfl
theorem kiX4_jams : Cond.instanceMethod yX4_jams ∈ BG := bg_of (i := 662) (by decide +kernel) rfl
theorem kvX4_jams : Cond.selects RX4 yX4_jams yX4_jams ∈ BG := bg_of (i := 663) (by decide +kernel) rfl
theorem kcX5_init : Cond.code yX5_init cX5_init 2 none ∈ BG := bg_of (i := 56) (by decide +kernel) rfl
theorem kiX5_init : Cond.instanceMethod yX5_init ∈ BG := bg_of (i := 55) (by decide +kernel) rfl
theorem kcX5_allows : Cond.code yX5_allows cX5_allows 2 (some .boolean) ∈ BG := bg_of (i := 219) (by decide +kernel) rfl
theorem ksX5_allows : Cond.static yX5_allows ∈ BG := bg_of (i := 218) (by decide +kernel) rfl
theorem kcX5_part : Cond.code yX5_part cX5_part 5 (some .int) ∈ BG := bg_of (i := 216) (by decide +kernel) rfl
theorem kiX5_part : Cond.instanceMethod yX5_part ∈ BG := bg_of (i := 214) (by decide +kernel) rfl
theorem kvX5_part : Cond.selects RX5 yX5_part yX5_part ∈ BG := bg_of (i := 215) (by decide +kernel) rfl
theorem kcX5_drop : Cond.code yX5_drop cX5_drop 1 (some .int) ∈ BG := bg_of (i := 255) (by decide +kernel) rfl
theorem kiX5_drop : Cond.instanceMethod yX5_drop ∈ BG := bg_of (i := 253) (by decide +kernel) rfl
theorem kvX5_drop : Cond.selects RX5 yX5_drop yX5_drop ∈ BG := bg_of (i := 254) (by decide +kernel) rfl
theorem kcX5_isTeeth : Cond.code yX5_isTeeth cX5_isTeeth 1 (some .boolean) ∈ BG := bg_of (i := 266) (by decide +kernel) rfl
theorem ksX5_isTeeth : Cond.static yX5_isTeeth ∈ BG := bg_of (i := 265) (by decide +kernel) rfl
theorem kcX5_gear : Cond.code yX5_gear cX5_gear 6 (some .int) ∈ BG := bg_of (i := 259) (by decide +kernel) rfl
theorem kiX5_gear : Cond.instanceMethod yX5_gear ∈ BG := bg_of (i := 257) (by decide +kernel) rfl
theorem kvX5_gear : Cond.selects RX5 yX5_gear yX5_gear ∈ BG := bg_of (i := 258) (by decide +kernel) rfl
theorem kcX5_ungear : Cond.code yX5_ungear cX5_ungear 3 (some .int) ∈ BG := bg_of (i := 275) (by decide +kernel) rfl
theorem kiX5_ungear : Cond.instanceMethod yX5_ungear ∈ BG := bg_of (i := 273) (by decide +kernel) rfl
theorem kvX5_ungear : Cond.selects RX5 yX5_ungear yX5_ungear ∈ BG := bg_of (i := 274) (by decide +kernel) rfl
theorem kcX5_shaft : Cond.code yX5_shaft cX5_shaft 3 (some .int) ∈ BG := bg_of (i := 279) (by decide +kernel) rfl
theorem kiX5_shaft : Cond.instanceMethod yX5_shaft ∈ BG := bg_of (i := 277) (by decide +kernel) rfl
theorem kvX5_shaft : Cond.selects RX5 yX5_shaft yX5_shaft ∈ BG := bg_of (i := 278) (by decide +kernel) rfl
theorem kcX5_change : Cond.code yX5_change cX5_change 6 (some .int) ∈ BG := bg_of (i := 291) (by decide +kernel) rfl
theorem kiX5_change : Cond.instanceMethod yX5_change ∈ BG := bg_of (i := 290) (by decide +kernel) rfl
theorem kvX5_change : Cond.selects RX5 yX5_change yX5_change ∈ BG := bg_of (i := 0) (by decide +kernel) rfl
theorem kcX5_set : Cond.code yX5_set cX5_set 4 (some .int) ∈ BG := bg_of (i := 287) (by decide +kernel) rfl
theorem kiX5_set : Cond.instanceMethod yX5_set ∈ BG := bg_of (i := 285) (by decide +kernel) rfl
theorem kvX5_set : Cond.selects RX5 yX5_set yX5_set ∈ BG := bg_of (i := 286) (by decide +kernel) rfl
theorem kcX5_kind : Cond.code yX5_kind cX5_kind 3 (some .int) ∈ BG := bg_of (i := 295) (by decide +kernel) rfl
theorem kiX5_kind : Cond.instanceMethod yX5_kind ∈ BG := bg_of (i := 293) (by decide +kernel) rfl
theorem kvX5_kind : Cond.selects RX5 yX5_kind yX5_kind ∈ BG := bg_of (i := 294) (by decide +kernel) rfl
theorem kcX5_of : Cond.code yX5_of cX5_of 4 (some .int) ∈ BG := bg_of (i := 299) (by decide +kernel) rfl
theorem kiX5_of : Cond.instanceMethod yX5_of ∈ BG := bg_of (i := 297) (by decide +kernel) rfl
theorem kvX5_of : Cond.selects RX5 yX5_of yX5_of ∈ BG := bg_of (i := 298) (by decide +kernel) rfl
theorem kcX5_taken : Cond.code yX5_taken cX5_taken 4 (some .int) ∈ BG := bg_of (i := 307) (by decide +kernel) rfl
theorem kiX5_taken : Cond.instanceMethod yX5_taken ∈ BG := bg_of (i := 305) (by decide +kernel) rfl
theorem kvX5_taken : Cond.selects RX5 yX5_taken yX5_taken ∈ BG := bg_of (i := 306) (by decide +kernel) rfl
theorem kcX5_jam : Cond.code yX5_jam cX5_jam 7 (some .int) ∈ BG := bg_of (i := 317) (by decide +kernel) rfl
theorem kiX5_jam : Cond.instanceMethod yX5_jam ∈ BG := bg_of (i := 315) (by decide +kernel) rfl
theorem kvX5_jam : Cond.selects RX5 yX5_jam yX5_jam ∈ BG := bg_of (i := 316) (by decide +kernel) rfl
theorem kcX5_speed : Cond.code yX5_speed cX5_speed 4 (some .long) ∈ BG := bg_of (i := 326) (by decide +kernel) rfl
theorem kiX5_speed : Cond.instanceMethod yX5_speed ∈ BG := bg_of (i := 324) (by decide +kernel) rfl
theorem kvX5_speed : Cond.selects RX5 yX5_speed yX5_speed ∈ BG := bg_of (i := 325) (by decide +kernel) rfl
theorem kcX5_turn : Cond.code yX5_turn cX5_turn 2 (some .int) ∈ BG := bg_of (i := 331) (by decide +kernel) rfl
theorem kiX5_turn : Cond.instanceMethod yX5_turn ∈ BG := bg_of (i := 329) (by decide +kernel) rfl
theorem kvX5_turn : Cond.selects RX5 yX5_turn yX5_turn ∈ BG := bg_of (i := 330) (by decide +kernel) rfl
theorem kcX5_height : Cond.code yX5_height cX5_height 1 (some .long) ∈ BG := bg_of (i := 336) (by decide +kernel) rfl
theorem kiX5_height : Cond.instanceMethod yX5_height ∈ BG := bg_of (i := 334) (by decide +kernel) rfl
theorem kvX5_height : Cond.selects RX5 yX5_height yX5_height ∈ BG := bg_of (i := 335) (by decide +kernel) rfl
theorem kcX5_isTick : Cond.code yX5_isTick cX5_isTick 1 (some .boolean) ∈ BG := bg_of (i := 371) (by decide +kernel) rfl
theorem ksX5_isTick : Cond.static yX5_isTick ∈ BG := bg_of (i := 370) (by decide +kernel) rfl
theorem kcX5_heightAt : Cond.code yX5_heightAt cX5_heightAt 2 (some .long) ∈ BG := bg_of (i := 368) (by decide +kernel) rfl
theorem kiX5_heightAt : Cond.instanceMethod yX5_heightAt ∈ BG := bg_of (i := 366) (by decide +kernel) rfl
theorem kvX5_heightAt : Cond.selects RX5 yX5_heightAt yX5_heightAt ∈ BG := bg_of (i := 367) (by decide +kernel) rfl
theorem kcX5_heightOf : Cond.code yX5_heightOf cX5_heightOf 4 (some .long) ∈ BG := bg_of (i := 375) (by decide +kernel) rfl
theorem kiX5_heightOf : Cond.instanceMethod yX5_heightOf ∈ BG := bg_of (i := 373) (by decide +kernel) rfl
theorem kvX5_heightOf : Cond.selects RX5 yX5_heightOf yX5_heightOf ∈ BG := bg_of (i := 374) (by decide +kernel) rfl
theorem kcX5_place : Cond.code yX5_place cX5_place 4 (some .int) ∈ BG := bg_of (i := 380) (by decide +kernel) rfl
theorem kiX5_place : Cond.instanceMethod yX5_place ∈ BG := bg_of (i := 378) (by decide +kernel) rfl
theorem kvX5_place : Cond.selects RX5 yX5_place yX5_place ∈ BG := bg_of (i := 379) (by decide +kernel) rfl
theorem kcX5_waters : Cond.code yX5_waters cX5_waters 12 (some .int) ∈ BG := bg_of (i := 385) (by decide +kernel) rfl
theorem kiX5_waters : Cond.instanceMethod yX5_waters ∈ BG := bg_of (i := 383) (by decide +kernel) rfl
theorem kvX5_waters : Cond.selects RX5 yX5_waters yX5_waters ∈ BG := bg_of (i := 384) (by decide +kernel) rfl
theorem kcX5_water : Cond.code yX5_water cX5_water 8 (some .int) ∈ BG := bg_of (i := 397) (by decide +kernel) rfl
theorem kiX5_water : Cond.instanceMethod yX5_water ∈ BG := bg_of (i := 395) (by decide +kernel) rfl
theorem kvX5_water : Cond.selects RX5 yX5_water yX5_water ∈ BG := bg_of (i := 396) (by decide +kernel) rfl
theorem kcX5_isSheet : Cond.code yX5_isSheet cX5_isSheet 1 (some .boolean) ∈ BG := bg_of (i := 404) (by decide +kernel) rfl
theorem ksX5_isSheet : Cond.static yX5_isSheet ∈ BG := bg_of (i := 403) (by decide +kernel) rfl
theorem kcX5_firstOtherwise : Cond.code yX5_firstOtherwise cX5_firstOtherwise 4 (some .int) ∈ BG := bg_of (i := 417) (by decide +kernel) rfl
theorem kiX5_firstOtherwise : Cond.instanceMethod yX5_firstOtherwise ∈ BG := bg_of (i := 416) (by decide +kernel) rfl
theorem kvX5_firstOtherwise : Cond.selects RX5 yX5_firstOtherwise yX5_firstOtherwise ∈ BG := bg_of (i := 1) (by decide +kernel) rfl
theorem kcX5_think : Cond.code yX5_think cX5_think 5 none ∈ BG := bg_of (i := 425) (by decide +kernel) rfl
theorem kiX5_think : Cond.instanceMethod yX5_think ∈ BG := bg_of (i := 424) (by decide +kernel) rfl
theorem kvX5_think : Cond.selects RX5 yX5_think yX5_think ∈ BG := bg_of (i := 3) (by decide +kernel) rfl
theorem kcX5_isAllSo : Cond.code yX5_isAllSo cX5_isAllSo 4 (some .boolean) ∈ BG := bg_of (i := 436) (by decide +kernel) rfl
theorem kiX5_isAllSo : Cond.instanceMethod yX5_isAllSo ∈ BG := bg_of (i := 435) (by decide +kernel) rfl
theorem kvX5_isAllSo : Cond.selects RX5 yX5_isAllSo yX5_isAllSo ∈ BG := bg_of (i := 4) (by decide +kernel) rfl
theorem kcX5_wrongBy : Cond.code yX5_wrongBy cX5_wrongBy 7 (some .int) ∈ BG := bg_of (i := 421) (by decide +kernel) rfl
theorem kiX5_wrongBy : Cond.instanceMethod yX5_wrongBy ∈ BG := bg_of (i := 420) (by decide +kernel) rfl
theorem kvX5_wrongBy : Cond.selects RX5 yX5_wrongBy yX5_wrongBy ∈ BG := bg_of (i := 2) (by decide +kernel) rfl
theorem kcX5_tells : Cond.code yX5_tells cX5_tells 5 (some .int) ∈ BG := bg_of (i := 401) (by decide +kernel) rfl
theorem kiX5_tells : Cond.instanceMethod yX5_tells ∈ BG := bg_of (i := 399) (by decide +kernel) rfl
theorem kvX5_tells : Cond.selects RX5 yX5_tells yX5_tells ∈ BG := bg_of (i := 400) (by decide +kernel) rfl
theorem kcX5_hasHighs : Cond.code yX5_hasHighs cX5_hasHighs 7 (some .boolean) ∈ BG := bg_of (i := 444) (by decide +kernel) rfl
theorem kiX5_hasHighs : Cond.instanceMethod yX5_hasHighs ∈ BG := bg_of (i := 443) (by decide +kernel) rfl
theorem kvX5_hasHighs : Cond.selects RX5 yX5_hasHighs yX5_hasHighs ∈ BG := bg_of (i := 5) (by decide +kernel) rfl
theorem kcX5_refound : Cond.code yX5_refound cX5_refound 11 (some .int) ∈ BG := bg_of (i := 440) (by decide +kernel) rfl
theorem kiX5_refound : Cond.instanceMethod yX5_refound ∈ BG := bg_of (i := 438) (by decide +kernel) rfl
theorem kvX5_refound : Cond.selects RX5 yX5_refound yX5_refound ∈ BG := bg_of (i := 439) (by decide +kernel) rfl
theorem kcX5_film : Cond.code yX5_film cX5_film 6 (some .int) ∈ BG := bg_of (i := 448) (by decide +kernel) rfl
theorem kiX5_film : Cond.instanceMethod yX5_film ∈ BG := bg_of (i := 446) (by decide +kernel) rfl
theorem kvX5_film : Cond.selects RX5 yX5_film yX5_film ∈ BG := bg_of (i := 447) (by decide +kernel) rfl
theorem kcX5_nearest : Cond.code yX5_nearest cX5_nearest 11 (some .int) ∈ BG := bg_of (i := 464) (by decide +kernel) rfl
theorem kiX5_nearest : Cond.instanceMethod yX5_nearest ∈ BG := bg_of (i := 462) (by decide +kernel) rfl
theorem kvX5_nearest : Cond.selects RX5 yX5_nearest yX5_nearest ∈ BG := bg_of (i := 463) (by decide +kernel) rfl
theorem kcX5_off : Cond.code yX5_off cX5_off 8 (some .long) ∈ BG := bg_of (i := 468) (by decide +kernel) rfl
theorem kiX5_off : Cond.instanceMethod yX5_off ∈ BG := bg_of (i := 466) (by decide +kernel) rfl
theorem kvX5_off : Cond.selects RX5 yX5_off yX5_off ∈ BG := bg_of (i := 467) (by decide +kernel) rfl
theorem kcX5_alike : Cond.code yX5_alike cX5_alike 3 (some .int) ∈ BG := bg_of (i := 473) (by decide +kernel) rfl
theorem kiX5_alike : Cond.instanceMethod yX5_alike ∈ BG := bg_of (i := 471) (by decide +kernel) rfl
theorem kvX5_alike : Cond.selects RX5 yX5_alike yX5_alike ∈ BG := bg_of (i := 472) (by decide +kernel) rfl
theorem kcX5_levelByLot : Cond.code yX5_levelByLot cX5_levelByLot 7 (some .long) ∈ BG := bg_of (i := 494) (by decide +kernel) rfl
theorem kiX5_levelByLot : Cond.instanceMethod yX5_levelByLot ∈ BG := bg_of (i := 493) (by decide +kernel) rfl
theorem kvX5_levelByLot : Cond.selects RX5 yX5_levelByLot yX5_levelByLot ∈ BG := bg_of (i := 6) (by decide +kernel) rfl
theorem kcX5_drawn : Cond.code yX5_drawn cX5_drawn 3 (some .long) ∈ BG := bg_of (i := 490) (by decide +kernel) rfl
theorem kiX5_drawn : Cond.instanceMethod yX5_drawn ∈ BG := bg_of (i := 488) (by decide +kernel) rfl
theorem kvX5_drawn : Cond.selects RX5 yX5_drawn yX5_drawn ∈ BG := bg_of (i := 489) (by decide +kernel) rfl
theorem kcX5_chance : Cond.code yX5_chance cX5_chance 8 (some .int) ∈ BG := bg_of (i := 499) (by decide +kernel) rfl
theorem kiX5_chance : Cond.instanceMethod yX5_chance ∈ BG := bg_of (i := 497) (by decide +kernel) rfl
theorem kvX5_chance : Cond.selects RX5 yX5_chance yX5_chance ∈ BG := bg_of (i := 498) (by decide +kernel) rfl
theorem kcX5_isByte : Cond.code yX5_isByte cX5_isByte 1 (some .boolean) ∈ BG := bg_of (i := 506) (by decide +kernel) rfl
theorem ksX5_isByte : Cond.static yX5_isByte ∈ BG := bg_of (i := 505) (by decide +kernel) rfl
theorem kcX5_feed : Cond.code yX5_feed cX5_feed 8 (some .int) ∈ BG := bg_of (i := 503) (by decide +kernel) rfl
theorem kiX5_feed : Cond.instanceMethod yX5_feed ∈ BG := bg_of (i := 501) (by decide +kernel) rfl
theorem kvX5_feed : Cond.selects RX5 yX5_feed yX5_feed ∈ BG := bg_of (i := 502) (by decide +kernel) rfl
theorem kcX5_doClause : Cond.code yX5_doClause cX5_doClause 6 (some .int) ∈ BG := bg_of (i := 625) (by decide +kernel) rfl
theorem kiX5_doClause : Cond.instanceMethod yX5_doClause ∈ BG := bg_of (i := 624) (by decide +kernel) rfl
theorem kvX5_doClause : Cond.selects RX5 yX5_doClause yX5_doClause ∈ BG := bg_of (i := 7) (by decide +kernel) rfl
theorem kcX5_text : Cond.code yX5_text cX5_text 6 (some .int) ∈ BG := bg_of (i := 514) (by decide +kernel) rfl
theorem kiX5_text : Cond.instanceMethod yX5_text ∈ BG := bg_of (i := 512) (by decide +kernel) rfl
theorem kvX5_text : Cond.selects RX5 yX5_text yX5_text ∈ BG := bg_of (i := 513) (by decide +kernel) rfl
theorem kcX5_image : Cond.code yX5_image cX5_image 1 (some .int) ∈ BG := bg_of (i := 634) (by decide +kernel) rfl
theorem kiX5_image : Cond.instanceMethod yX5_image ∈ BG := bg_of (i := 632) (by decide +kernel) rfl
theorem kvX5_image : Cond.selects RX5 yX5_image yX5_image ∈ BG := bg_of (i := 633) (by decide +kernel) rfl
theorem kcX5_back : Cond.code yX5_back cX5_back 1 (some .int) ∈ BG := bg_of (i := 643) (by decide +kernel) rfl
theorem kiX5_back : Cond.instanceMethod yX5_back ∈ BG := bg_of (i := 641) (by decide +kernel) rfl
theorem kvX5_back : Cond.selects RX5 yX5_back yX5_back ∈ BG := bg_of (i := 642) (by decide +kernel) rfl
theorem kcX5_partFrom : Cond.code yX5_partFrom cX5_partFrom 3 (some .int) ∈ BG := bg_of (i := 652) (by decide +kernel) rfl
theorem kiX5_partFrom : Cond.instanceMethod yX5_partFrom ∈ BG := bg_of (i := 651) (by decide +kernel) rfl
theorem kvX5_partFrom : Cond.selects RX5 yX5_partFrom yX5_partFrom ∈ BG := bg_of (i := 8) (by decide +kernel) rfl
theorem kcX5_load : Cond.code yX5_load cX5_load 8 (some .int) ∈ BG := bg_of (i := 647) (by decide +kernel) rfl
theorem kiX5_load : Cond.instanceMethod yX5_load ∈ BG := bg_of (i := 645) (by decide +kernel) rfl
theorem kvX5_load : Cond.selects RX5 yX5_load yX5_load ∈ BG := bg_of (i := 646) (by decide +kernel) rfl
theorem kcX5_count : Cond.code yX5_count cX5_count 2 (some .int) ∈ BG := bg_of (i := 656) (by decide +kernel) rfl
theorem kiX5_count : Cond.instanceMethod yX5_count ∈ BG := bg_of (i := 654) (by decide +kernel) rfl
theorem kvX5_count : Cond.selects RX5 yX5_count yX5_count ∈ BG := bg_of (i := 655) (by decide +kernel) rfl
theorem kcX5_sheet : Cond.code yX5_sheet cX5_sheet 4 (some .int) ∈ BG := bg_of (i := 669) (by decide +kernel) rfl
theorem kiX5_sheet : Cond.instanceMethod yX5_sheet ∈ BG := bg_of (i := 667) (by decide +kernel) rfl
theorem kvX5_sheet : Cond.selects RX5 yX5_sheet yX5_sheet ∈ BG := bg_of (i := 668) (by decide +kernel) rfl
theorem kcX5_put : Cond.code yX5_put cX5_put 6 (some .int) ∈ BG := bg_of (i := 673) (by decide +kernel) rfl
theorem kiX5_put : Cond.instanceMethod yX5_put ∈ BG := bg_of (i := 671) (by decide +kernel) rfl
theorem kvX5_put : Cond.selects RX5 yX5_put yX5_put ∈ BG := bg_of (i := 672) (by decide +kernel) rfl
theorem kcX5_item : Cond.code yX5_item cX5_item 3 (some .long) ∈ BG := bg_of (i := 677) (by decide +kernel) rfl
theorem kiX5_item : Cond.instanceMethod yX5_item ∈ BG := bg_of (i := 675) (by decide +kernel) rfl
theorem kvX5_item : Cond.selects RX5 yX5_item yX5_item ∈ BG := bg_of (i := 676) (by decide +kernel) rfl
theorem kcX5_copy : Cond.code yX5_copy cX5_copy 8 (some .int) ∈ BG := bg_of (i := 681) (by decide +kernel) rfl
theorem kiX5_copy : Cond.instanceMethod yX5_copy ∈ BG := bg_of (i := 679) (by decide +kernel) rfl
theorem kvX5_copy : Cond.selects RX5 yX5_copy yX5_copy ∈ BG := bg_of (i := 680) (by decide +kernel) rfl
theorem kcX6_init : Cond.code yX6_init cX6_init 1 none ∈ BG := bg_of (i := 687) (by decide +kernel) rfl
theorem kiX6_init : Cond.instanceMethod yX6_init ∈ BG := bg_of (i := 686) (by decide +kernel) rfl
theorem kcX6_isIn : Cond.code yX6_isIn cX6_isIn 6 (some .boolean) ∈ BG := bg_of (i := 758) (by decide +kernel) rfl
theorem ksX6_isIn : Cond.static yX6_isIn ∈ BG := bg_of (i := 757) (by decide +kernel) rfl
theorem kcX6_isPart : Cond.code yX6_isPart cX6_isPart 2 (some .boolean) ∈ BG := bg_of (i := 774) (by decide +kernel) rfl
theorem kiX6_isPart : Cond.instanceMethod yX6_isPart ∈ BG := bg_of (i := 773) (by decide +kernel) rfl
theorem kvX6_isPart : Cond.selects RX6 yX6_isPart yX6_isPart ∈ BG := bg_of (i := 10) (by decide +kernel) rfl
theorem kcX6_at : Cond.code yX6_at cX6_at 3 (some .int) ∈ BG := bg_of (i := 780) (by decide +kernel) rfl
theorem kiX6_at : Cond.instanceMethod yX6_at ∈ BG := bg_of (i := 779) (by decide +kernel) rfl
theorem kvX6_at : Cond.selects RX6 yX6_at yX6_at ∈ BG := bg_of (i := 11) (by decide +kernel) rfl
theorem kcX6_lays : Cond.code yX6_lays cX6_lays 4 none ∈ BG := bg_of (i := 762) (by decide +kernel) rfl
theorem kiX6_lays : Cond.instanceMethod yX6_lays ∈ BG := bg_of (i := 761) (by decide +kernel) rfl
theorem kvX6_lays : Cond.selects RX6 yX6_lays yX6_lays ∈ BG := bg_of (i := 9) (by decide +kernel) rfl
theorem kcX6_isLine : Cond.code yX6_isLine cX6_isLine 1 (some .boolean) ∈ BG := bg_of (i := 837) (by decide +kernel) rfl
theorem ksX6_isLine : Cond.static yX6_isLine ∈ BG := bg_of (i := 836) (by decide +kernel) rfl
theorem kcX6_mayBe : Cond.code yX6_mayBe cX6_mayBe 2 (some .boolean) ∈ BG := bg_of (i := 751) (by decide +kernel) rfl
theorem ksX6_mayBe : Cond.static yX6_mayBe ∈ BG := bg_of (i := 750) (by decide +kernel) rfl
theorem kcX6_part : Cond.code yX6_part cX6_part 6 (some .int) ∈ BG := bg_of (i := 748) (by decide +kernel) rfl
theorem kiX6_part : Cond.instanceMethod yX6_part ∈ BG := bg_of (i := 746) (by decide +kernel) rfl
theorem kvX6_part : Cond.selects RX6 yX6_part yX6_part ∈ BG := bg_of (i := 747) (by decide +kernel) rfl
theorem kcX6_drop : Cond.code yX6_drop cX6_drop 1 (some .int) ∈ BG := bg_of (i := 766) (by decide +kernel) rfl
theorem kiX6_drop : Cond.instanceMethod yX6_drop ∈ BG := bg_of (i := 764) (by decide +kernel) rfl
theorem kvX6_drop : Cond.selects RX6 yX6_drop yX6_drop ∈ BG := bg_of (i := 765) (by decide +kernel) rfl
theorem kcX6_gear : Cond.code yX6_gear cX6_gear 5 (some .int) ∈ BG := bg_of (i := 770) (by decide +kernel) rfl
theorem kiX6_gear : Cond.instanceMethod yX6_gear ∈ BG := bg_of (i := 768) (by decide +kernel) rfl
theorem kvX6_gear : Cond.selects RX6 yX6_gear yX6_gear ∈ BG := bg_of (i := 769) (by decide +kernel) rfl
theorem kcX6_ungear : Cond.code yX6_ungear cX6_ungear 2 (some .int) ∈ BG := bg_of (i := 784) (by decide +kernel) rfl
theorem kiX6_ungear : Cond.instanceMethod yX6_ungear ∈ BG := bg_of (i := 782) (by decide +kernel) rfl
theorem kvX6_ungear : Cond.selects RX6 yX6_ungear yX6_ungear ∈ BG := bg_of (i := 783) (by decide +kernel) rfl
theorem kcX6_shaft : Cond.code yX6_shaft cX6_shaft 3 (some .int) ∈ BG := bg_of (i := 788) (by decide +kernel) rfl
theorem kiX6_shaft : Cond.instanceMethod yX6_shaft ∈ BG := bg_of (i := 786) (by decide +kernel) rfl
theorem kvX6_shaft : Cond.selects RX6 yX6_shaft yX6_shaft ∈ BG := bg_of (i := 787) (by decide +kernel) rfl
theorem kcX6_becomes : Cond.code yX6_becomes cX6_becomes 5 (some .int) ∈ BG := bg_of (i := 797) (by decide +kernel) rfl
theorem kiX6_becomes : Cond.instanceMethod yX6_becomes ∈ BG := bg_of (i := 796) (by decide +kernel) rfl
theorem kvX6_becomes : Cond.selects RX6 yX6_becomes yX6_becomes ∈ BG := bg_of (i := 12) (by decide +kernel) rfl
theorem kcX6_set : Cond.code yX6_set cX6_set 4 (some .int) ∈ BG := bg_of (i := 792) (by decide +kernel) rfl
theorem kiX6_set : Cond.instanceMethod yX6_set ∈ BG := bg_of (i := 790) (by decide +kernel) rfl
theorem kvX6_set : Cond.selects RX6 yX6_set yX6_set ∈ BG := bg_of (i := 791) (by decide +kernel) rfl
theorem kcX6_kind : Cond.code yX6_kind cX6_kind 3 (some .int) ∈ BG := bg_of (i := 801) (by decide +kernel) rfl
theorem kiX6_kind : Cond.instanceMethod yX6_kind ∈ BG := bg_of (i := 799) (by decide +kernel) rfl
theorem kvX6_kind : Cond.selects RX6 yX6_kind yX6_kind ∈ BG := bg_of (i := 800) (by decide +kernel) rfl
theorem kcX6_of : Cond.code yX6_of cX6_of 4 (some .int) ∈ BG := bg_of (i := 805) (by decide +kernel) rfl
theorem kiX6_of : Cond.instanceMethod yX6_of ∈ BG := bg_of (i := 803) (by decide +kernel) rfl
theorem kvX6_of : Cond.selects RX6 yX6_of yX6_of ∈ BG := bg_of (i := 804) (by decide +kernel) rfl
theorem kcX6_above : Cond.code yX6_above cX6_above 1 (some .int) ∈ BG := bg_of (i := 817) (by decide +kernel) rfl
theorem ksX6_above : Cond.static yX6_above ∈ BG := bg_of (i := 816) (by decide +kernel) rfl
theorem kcX6_taken : Cond.code yX6_taken cX6_taken 4 (some .int) ∈ BG := bg_of (i := 814) (by decide +kernel) rfl
theorem kiX6_taken : Cond.instanceMethod yX6_taken ∈ BG := bg_of (i := 812) (by decide +kernel) rfl
theorem kvX6_taken : Cond.selects RX6 yX6_taken yX6_taken ∈ BG := bg_of (i := 813) (by decide +kernel) rfl
theorem kcX6_why : Cond.code yX6_why cX6_why 2 (some .int) ∈ BG := bg_of (i := 829) (by decide +kernel) rfl
theorem ksX6_why : Cond.static yX6_why ∈ BG := bg_of (i := 828) (by decide +kernel) rfl
theorem kcX6_jamOf : Cond.code yX6_jamOf cX6_jamOf 3 (some .int) ∈ BG := bg_of (i := 826) (by decide +kernel) rfl
theorem kiX6_jamOf : Cond.instanceMethod yX6_jamOf ∈ BG := bg_of (i := 825) (by decide +kernel) rfl
theorem kvX6_jamOf : Cond.selects RX6 yX6_jamOf yX6_jamOf ∈ BG := bg_of (i := 13) (by decide +kernel) rfl
theorem kcX6_jam : Cond.code yX6_jam cX6_jam 6 (some .int) ∈ BG := bg_of (i := 821) (by decide +kernel) rfl
theorem kiX6_jam : Cond.instanceMethod yX6_jam ∈ BG := bg_of (i := 819) (by decide +kernel) rfl
theorem kvX6_jam : Cond.selects RX6 yX6_jam yX6_jam ∈ BG := bg_of (i := 820) (by decide +kernel) rfl
theorem kcX6_divisor : Cond.code yX6_divisor cX6_divisor 10 (some .long) ∈ BG := bg_of (i := 851) (by decide +kernel) rfl
theorem ksX6_divisor : Cond.static yX6_divisor ∈ BG := bg_of (i := 850) (by decide +kernel) rfl
theorem kcX6_lowest : Cond.code yX6_lowest cX6_lowest 7 (some .long) ∈ BG := bg_of (i := 848) (by decide +kernel) rfl
theorem ksX6_lowest : Cond.static yX6_lowest ∈ BG := bg_of (i := 847) (by decide +kernel) rfl
theorem kcX6_speedAbove : Cond.code yX6_speedAbove cX6_speedAbove 5 (some .long) ∈ BG := bg_of (i := 841) (by decide +kernel) rfl
theorem kiX6_speedAbove : Cond.instanceMethod yX6_speedAbove ∈ BG := bg_of (i := 840) (by decide +kernel) rfl
theorem kvX6_speedAbove : Cond.selects RX6 yX6_speedAbove yX6_speedAbove ∈ BG := bg_of (i := 14) (by decide +kernel) rfl
theorem kcX6_speedBelow : Cond.code yX6_speedBelow cX6_speedBelow 5 (some .long) ∈ BG := bg_of (i := 845) (by decide +kernel) rfl
theorem kiX6_speedBelow : Cond.instanceMethod yX6_speedBelow ∈ BG := bg_of (i := 844) (by decide +kernel) rfl
theorem kvX6_speedBelow : Cond.selects RX6 yX6_speedBelow yX6_speedBelow ∈ BG := bg_of (i := 15) (by decide +kernel) rfl
theorem kcX6_speed : Cond.code yX6_speed cX6_speed 3 (some .long) ∈ BG := bg_of (i := 834) (by decide +kernel) rfl
theorem kiX6_speed : Cond.instanceMethod yX6_speed ∈ BG := bg_of (i := 832) (by decide +kernel) rfl
theorem kvX6_speed : Cond.selects RX6 yX6_speed yX6_speed ∈ BG := bg_of (i := 833) (by decide +kernel) rfl
theorem kcX6_wayOf : Cond.code yX6_wayOf cX6_wayOf 7 (some .long) ∈ BG := bg_of (i := 879) (by decide +kernel) rfl
theorem kiX6_wayOf : Cond.instanceMethod yX6_wayOf ∈ BG := bg_of (i := 878) (by decide +kernel) rfl
theorem kvX6_wayOf : Cond.selects RX6 yX6_wayOf yX6_wayOf ∈ BG := bg_of (i := 19) (by decide +kernel) rfl
theorem kcX6_placeOf : Cond.code yX6_placeOf cX6_placeOf 3 (some .int) ∈ BG := bg_of (i := 875) (by decide +kernel) rfl
theorem kiX6_placeOf : Cond.instanceMethod yX6_placeOf ∈ BG := bg_of (i := 874) (by decide +kernel) rfl
theorem kvX6_placeOf : Cond.selects RX6 yX6_placeOf yX6_placeOf ∈ BG := bg_of (i := 18) (by decide +kernel) rfl
theorem kcX6_shapeOf : Cond.code yX6_shapeOf cX6_shapeOf 5 (some .int) ∈ BG := bg_of (i := 885) (by decide +kernel) rfl
theorem kiX6_shapeOf : Cond.instanceMethod yX6_shapeOf ∈ BG := bg_of (i := 884) (by decide +kernel) rfl
theorem kvX6_shapeOf : Cond.selects RX6 yX6_shapeOf yX6_shapeOf ∈ BG := bg_of (i := 20) (by decide +kernel) rfl
theorem kcX6_heightBy : Cond.code yX6_heightBy cX6_heightBy 3 (some .long) ∈ BG := bg_of (i := 871) (by decide +kernel) rfl
theorem kiX6_heightBy : Cond.instanceMethod yX6_heightBy ∈ BG := bg_of (i := 870) (by decide +kernel) rfl
theorem kvX6_heightBy : Cond.selects RX6 yX6_heightBy yX6_heightBy ∈ BG := bg_of (i := 17) (by decide +kernel) rfl
theorem kcX6_sumAt : Cond.code yX6_sumAt cX6_sumAt 5 (some .long) ∈ BG := bg_of (i := 867) (by decide +kernel) rfl
theorem kiX6_sumAt : Cond.instanceMethod yX6_sumAt ∈ BG := bg_of (i := 866) (by decide +kernel) rfl
theorem kvX6_sumAt : Cond.selects RX6 yX6_sumAt yX6_sumAt ∈ BG := bg_of (i := 16) (by decide +kernel) rfl
theorem kcX6_isTick : Cond.code yX6_isTick cX6_isTick 1 (some .boolean) ∈ BG := bg_of (i := 892) (by decide +kernel) rfl
theorem ksX6_isTick : Cond.static yX6_isTick ∈ BG := bg_of (i := 891) (by decide +kernel) rfl
theorem kcX6_turn : Cond.code yX6_turn cX6_turn 2 (some .int) ∈ BG := bg_of (i := 857) (by decide +kernel) rfl
theorem kiX6_turn : Cond.instanceMethod yX6_turn ∈ BG := bg_of (i := 855) (by decide +kernel) rfl
theorem kvX6_turn : Cond.selects RX6 yX6_turn yX6_turn ∈ BG := bg_of (i := 856) (by decide +kernel) rfl
theorem kcX6_height : Cond.code yX6_height cX6_height 1 (some .long) ∈ BG := bg_of (i := 863) (by decide +kernel) rfl
theorem kiX6_height : Cond.instanceMethod yX6_height ∈ BG := bg_of (i := 861) (by decide +kernel) rfl
theorem kvX6_height : Cond.selects RX6 yX6_height yX6_height ∈ BG := bg_of (i := 862) (by decide +kernel) rfl
theorem kcX6_heightAt : Cond.code yX6_heightAt cX6_heightAt 2 (some .long) ∈ BG := bg_of (i := 889) (by decide +kernel) rfl
theorem kiX6_heightAt : Cond.instanceMethod yX6_heightAt ∈ BG := bg_of (i := 887) (by decide +kernel) rfl
theorem kvX6_heightAt : Cond.selects RX6 yX6_heightAt yX6_heightAt ∈ BG := bg_of (i := 888) (by decide +kernel) rfl
theorem kcX6_heightOf : Cond.code yX6_heightOf cX6_heightOf 3 (some .long) ∈ BG := bg_of (i := 896) (by decide +kernel) rfl
theorem kiX6_heightOf : Cond.instanceMethod yX6_heightOf ∈ BG := bg_of (i := 894) (by decide +kernel) rfl
theorem kvX6_heightOf : Cond.selects RX6 yX6_heightOf yX6_heightOf ∈ BG := bg_of (i := 895) (by decide +kernel) rfl
theorem kcX6_place : Cond.code yX6_place cX6_place 3 (some .int) ∈ BG := bg_of (i := 900) (by decide +kernel) rfl
theorem kiX6_place : Cond.instanceMethod yX6_place ∈ BG := bg_of (i := 898) (by decide +kernel) rfl
theorem kvX6_place : Cond.selects RX6 yX6_place yX6_place ∈ BG := bg_of (i := 899) (by decide +kernel) rfl
theorem kcJ13_compare_74951 : Cond.code yJ13_compare_74951 cJ13_compare_74951 4 (some .int) ∈ BG := bg_of (i := 914) (by decide +kernel) rfl
theorem ksJ13_compare_74951 : Cond.static yJ13_compare_74951 ∈ BG := bg_of (i := 913) (by decide +kernel) rfl
theorem kcX6_looks : Cond.code yX6_looks cX6_looks 14 none ∈ BG := bg_of (i := 911) (by decide +kernel) rfl
theorem kiX6_looks : Cond.instanceMethod yX6_looks ∈ BG := bg_of (i := 910) (by decide +kernel) rfl
theorem kvX6_looks : Cond.selects RX6 yX6_looks yX6_looks ∈ BG := bg_of (i := 21) (by decide +kernel) rfl
theorem kcX6_areWaters : Cond.code yX6_areWaters cX6_areWaters 3 (some .boolean) ∈ BG := bg_of (i := 907) (by decide +kernel) rfl
theorem ksX6_areWaters : Cond.static yX6_areWaters ∈ BG := bg_of (i := 906) (by decide +kernel) rfl
theorem kcX6_waters : Cond.code yX6_waters cX6_waters 4 (some .int) ∈ BG := bg_of (i := 904) (by decide +kernel) rfl
theorem kiX6_waters : Cond.instanceMethod yX6_waters ∈ BG := bg_of (i := 902) (by decide +kernel) rfl
theorem kvX6_waters : Cond.selects RX6 yX6_waters yX6_waters ∈ BG := bg_of (i := 903) (by decide +kernel) rfl
theorem kcX6_water : Cond.code yX6_water cX6_water 5 (some .int) ∈ BG := bg_of (i := 918) (by decide +kernel) rfl
theorem kiX6_water : Cond.instanceMethod yX6_water ∈ BG := bg_of (i := 916) (by decide +kernel) rfl
theorem kvX6_water : Cond.selects RX6 yX6_water yX6_water ∈ BG := bg_of (i := 917) (by decide +kernel) rfl
theorem kcX6_isSheet : Cond.code yX6_isSheet cX6_isSheet 1 (some .boolean) ∈ BG := bg_of (i := 925) (by decide +kernel) rfl
theorem ksX6_isSheet : Cond.static yX6_isSheet ∈ BG := bg_of (i := 924) (by decide +kernel) rfl
theorem kcX6_itemOf : Cond.code yX6_itemOf cX6_itemOf 3 (some .long) ∈ BG := bg_of (i := 933) (by decide +kernel) rfl
theorem kiX6_itemOf : Cond.instanceMethod yX6_itemOf ∈ BG := bg_of (i := 932) (by decide +kernel) rfl
theorem kvX6_itemOf : Cond.selects RX6 yX6_itemOf yX6_itemOf ∈ BG := bg_of (i := 23) (by decide +kernel) rfl
theorem kcX6_firstOther : Cond.code yX6_firstOther cX6_firstOther 4 (some .int) ∈ BG := bg_of (i := 929) (by decide +kernel) rfl
theorem kiX6_firstOther : Cond.instanceMethod yX6_firstOther ∈ BG := bg_of (i := 928) (by decide +kernel) rfl
theorem kvX6_firstOther : Cond.selects RX6 yX6_firstOther yX6_firstOther ∈ BG := bg_of (i := 22) (by decide +kernel) rfl
theorem kcX6_wrongBy : Cond.code yX6_wrongBy cX6_wrongBy 9 (some .int) ∈ BG := bg_of (i := 937) (by decide +kernel) rfl
theorem kiX6_wrongBy : Cond.instanceMethod yX6_wrongBy ∈ BG := bg_of (i := 936) (by decide +kernel) rfl
theorem kvX6_wrongBy : Cond.selects RX6 yX6_wrongBy yX6_wrongBy ∈ BG := bg_of (i := 24) (by decide +kernel) rfl
theorem kcX6_tells : Cond.code yX6_tells cX6_tells 4 (some .int) ∈ BG := bg_of (i := 922) (by decide +kernel) rfl
theorem kiX6_tells : Cond.instanceMethod yX6_tells ∈ BG := bg_of (i := 920) (by decide +kernel) rfl
theorem kvX6_tells : Cond.selects RX6 yX6_tells yX6_tells ∈ BG := bg_of (i := 921) (by decide +kernel) rfl
theorem kcX6_areHighs : Cond.code yX6_areHighs cX6_areHighs 12 (some .boolean) ∈ BG := bg_of (i := 945) (by decide +kernel) rfl
theorem kiX6_areHighs : Cond.instanceMethod yX6_areHighs ∈ BG := bg_of (i := 944) (by decide +kernel) rfl
theorem kvX6_areHighs : Cond.selects RX6 yX6_areHighs yX6_areHighs ∈ BG := bg_of (i := 25) (by decide +kernel) rfl
theorem kcX6_refound : Cond.code yX6_refound cX6_refound 10 (some .int) ∈ BG := bg_of (i := 941) (by decide +kernel) rfl
theorem kiX6_refound : Cond.instanceMethod yX6_refound ∈ BG := bg_of (i := 939) (by decide +kernel) rfl
theorem kvX6_refound : Cond.selects RX6 yX6_refound yX6_refound ∈ BG := bg_of (i := 940) (by decide +kernel) rfl
theorem kcX6_sheet : Cond.code yX6_sheet cX6_sheet 5 (some .int) ∈ BG := bg_of (i := 954) (by decide +kernel) rfl
theorem kiX6_sheet : Cond.instanceMethod yX6_sheet ∈ BG := bg_of (i := 952) (by decide +kernel) rfl
theorem kvX6_sheet : Cond.selects RX6 yX6_sheet yX6_sheet ∈ BG := bg_of (i := 953) (by decide +kernel) rfl
theorem kcX6_film : Cond.code yX6_film cX6_film 6 (some .int) ∈ BG := bg_of (i := 949) (by decide +kernel) rfl
theorem kiX6_film : Cond.instanceMethod yX6_film ∈ BG := bg_of (i := 947) (by decide +kernel) rfl
theorem kvX6_film : Cond.selects RX6 yX6_film yX6_film ∈ BG := bg_of (i := 948) (by decide +kernel) rfl
theorem kcX6_nearest : Cond.code yX6_nearest cX6_nearest 11 (some .int) ∈ BG := bg_of (i := 959) (by decide +kernel) rfl
theorem kiX6_nearest : Cond.instanceMethod yX6_nearest ∈ BG := bg_of (i := 957) (by decide +kernel) rfl
theorem kvX6_nearest : Cond.selects RX6 yX6_nearest yX6_nearest ∈ BG := bg_of (i := 958) (by decide +kernel) rfl
theorem kcX6_off : Cond.code yX6_off cX6_off 11 (some .long) ∈ BG := bg_of (i := 964) (by decide +kernel) rfl
theorem kiX6_off : Cond.instanceMethod yX6_off ∈ BG := bg_of (i := 962) (by decide +kernel) rfl
theorem kvX6_off : Cond.selects RX6 yX6_off yX6_off ∈ BG := bg_of (i := 963) (by decide +kernel) rfl
theorem kcX6_areAlike : Cond.code yX6_areAlike cX6_areAlike 3 (some .boolean) ∈ BG := bg_of (i := 972) (by decide +kernel) rfl
theorem kiX6_areAlike : Cond.instanceMethod yX6_areAlike ∈ BG := bg_of (i := 971) (by decide +kernel) rfl
theorem kvX6_areAlike : Cond.selects RX6 yX6_areAlike yX6_areAlike ∈ BG := bg_of (i := 26) (by decide +kernel) rfl
theorem kcX6_alike : Cond.code yX6_alike cX6_alike 7 (some .int) ∈ BG := bg_of (i := 968) (by decide +kernel) rfl
theorem kiX6_alike : Cond.instanceMethod yX6_alike ∈ BG := bg_of (i := 966) (by decide +kernel) rfl
theorem kvX6_alike : Cond.selects RX6 yX6_alike yX6_alike ∈ BG := bg_of (i := 967) (by decide +kernel) rfl
theorem kcX6_byLot : Cond.code yX6_byLot cX6_byLot 7 (some .long) ∈ BG := bg_of (i := 981) (by decide +kernel) rfl
theorem kiX6_byLot : Cond.instanceMethod yX6_byLot ∈ BG := bg_of (i := 980) (by decide +kernel) rfl
theorem kvX6_byLot : Cond.selects RX6 yX6_byLot yX6_byLot ∈ BG := bg_of (i := 27) (by decide +kernel) rfl
theorem kcX6_drawn : Cond.code yX6_drawn cX6_drawn 3 (some .long) ∈ BG := bg_of (i := 977) (by decide +kernel) rfl
theorem kiX6_drawn : Cond.instanceMethod yX6_drawn ∈ BG := bg_of (i := 975) (by decide +kernel) rfl
theorem kvX6_drawn : Cond.selects RX6 yX6_drawn yX6_drawn ∈ BG := bg_of (i := 976) (by decide +kernel) rfl
theorem kcX6_chance : Cond.code yX6_chance cX6_chance 8 (some .int) ∈ BG := bg_of (i := 986) (by decide +kernel) rfl
theorem kiX6_chance : Cond.instanceMethod yX6_chance ∈ BG := bg_of (i := 984) (by decide +kernel) rfl
theorem kvX6_chance : Cond.selects RX6 yX6_chance yX6_chance ∈ BG := bg_of (i := 985) (by decide +kernel) rfl
theorem kcX6_isByte : Cond.code yX6_isByte cX6_isByte 1 (some .boolean) ∈ BG := bg_of (i := 993) (by decide +kernel) rfl
theorem ksX6_isByte : Cond.static yX6_isByte ∈ BG := bg_of (i := 992) (by decide +kernel) rfl
theorem kcX6_feed : Cond.code yX6_feed cX6_feed 8 (some .int) ∈ BG := bg_of (i := 990) (by decide +kernel) rfl
theorem kiX6_feed : Cond.instanceMethod yX6_feed ∈ BG := bg_of (i := 988) (by decide +kernel) rfl
theorem kvX6_feed : Cond.selects RX6 yX6_feed yX6_feed ∈ BG := bg_of (i := 989) (by decide +kernel) rfl
theorem kcX6_byteAt : Cond.code yX6_byteAt cX6_byteAt 2 (some .int) ∈ BG := bg_of (i := 1014) (by decide +kernel) rfl
theorem kiX6_byteAt : Cond.instanceMethod yX6_byteAt ∈ BG := bg_of (i := 1013) (by decide +kernel) rfl
theorem kvX6_byteAt : Cond.selects RX6 yX6_byteAt yX6_byteAt ∈ BG := bg_of (i := 31) (by decide +kernel) rfl
theorem kcX6_isLetter : Cond.code yX6_isLetter cX6_isLetter 1 (some .boolean) ∈ BG := bg_of (i := 1017) (by decide +kernel) rfl
theorem ksX6_isLetter : Cond.static yX6_isLetter ∈ BG := bg_of (i := 1016) (by decide +kernel) rfl
theorem kcX6_isDigit : Cond.code yX6_isDigit cX6_isDigit 1 (some .boolean) ∈ BG := bg_of (i := 1020) (by decide +kernel) rfl
theorem ksX6_isDigit : Cond.static yX6_isDigit ∈ BG := bg_of (i := 1019) (by decide +kernel) rfl
theorem kcX6_skips : Cond.code yX6_skips cX6_skips 2 none ∈ BG := bg_of (i := 1010) (by decide +kernel) rfl
theorem kiX6_skips : Cond.instanceMethod yX6_skips ∈ BG := bg_of (i := 1009) (by decide +kernel) rfl
theorem kvX6_skips : Cond.selects RX6 yX6_skips yX6_skips ∈ BG := bg_of (i := 30) (by decide +kernel) rfl
theorem kcX6_wordHere : Cond.code yX6_wordHere cX6_wordHere 4 (some .int) ∈ BG := bg_of (i := 1024) (by decide +kernel) rfl
theorem kiX6_wordHere : Cond.instanceMethod yX6_wordHere ∈ BG := bg_of (i := 1023) (by decide +kernel) rfl
theorem kvX6_wordHere : Cond.selects RX6 yX6_wordHere yX6_wordHere ∈ BG := bg_of (i := 32) (by decide +kernel) rfl
theorem kcX6_manyOf : Cond.code yX6_manyOf cX6_manyOf 1 (some .int) ∈ BG := bg_of (i := 1029) (by decide +kernel) rfl
theorem ksX6_manyOf : Cond.static yX6_manyOf ∈ BG := bg_of (i := 1028) (by decide +kernel) rfl
theorem kcX6_numberHere : Cond.code yX6_numberHere cX6_numberHere 3 (some .int) ∈ BG := bg_of (i := 1033) (by decide +kernel) rfl
theorem kiX6_numberHere : Cond.instanceMethod yX6_numberHere ∈ BG := bg_of (i := 1032) (by decide +kernel) rfl
theorem kvX6_numberHere : Cond.selects RX6 yX6_numberHere yX6_numberHere ∈ BG := bg_of (i := 33) (by decide +kernel) rfl
theorem kcX6_clause : Cond.code yX6_clause cX6_clause 3 (some .int) ∈ BG := bg_of (i := 1006) (by decide +kernel) rfl
theorem kiX6_clause : Cond.instanceMethod yX6_clause ∈ BG := bg_of (i := 1005) (by decide +kernel) rfl
theorem kvX6_clause : Cond.selects RX6 yX6_clause yX6_clause ∈ BG := bg_of (i := 29) (by decide +kernel) rfl
theorem kcX6_isDone : Cond.code yX6_isDone cX6_isDone 4 (some .boolean) ∈ BG := bg_of (i := 1037) (by decide +kernel) rfl
theorem kiX6_isDone : Cond.instanceMethod yX6_isDone ∈ BG := bg_of (i := 1036) (by decide +kernel) rfl
theorem kvX6_isDone : Cond.selects RX6 yX6_isDone yX6_isDone ∈ BG := bg_of (i := 34) (by decide +kernel) rfl
theorem kcX6_goes : Cond.code yX6_goes cX6_goes 4 (some .int) ∈ BG := bg_of (i := 1002) (by decide +kernel) rfl
theorem kiX6_goes : Cond.instanceMethod yX6_goes ∈ BG := bg_of (i := 1001) (by decide +kernel) rfl
theorem kvX6_goes : Cond.selects RX6 yX6_goes yX6_goes ∈ BG := bg_of (i := 28) (by decide +kernel) rfl
theorem kcX6_text : Cond.code yX6_text cX6_text 2 (some .int) ∈ BG := bg_of (i := 998) (by decide +kernel) rfl
theorem kiX6_text : Cond.instanceMethod yX6_text ∈ BG := bg_of (i := 996) (by decide +kernel) rfl
theorem kvX6_text : Cond.selects RX6 yX6_text yX6_text ∈ BG := bg_of (i := 997) (by decide +kernel) rfl
theorem kcX6_image : Cond.code yX6_image cX6_image 1 (some .int) ∈ BG := bg_of (i := 1045) (by decide +kernel) rfl
theorem kiX6_image : Cond.instanceMethod yX6_image ∈ BG := bg_of (i := 1043) (by decide +kernel) rfl
theorem kvX6_image : Cond.selects RX6 yX6_image yX6_image ∈ BG := bg_of (i := 1044) (by decide +kernel) rfl
theorem kcX6_back : Cond.code yX6_back cX6_back 1 (some .int) ∈ BG := bg_of (i := 1050) (by decide +kernel) rfl
theorem kiX6_back : Cond.instanceMethod yX6_back ∈ BG := bg_of (i := 1048) (by decide +kernel) rfl
theorem kvX6_back : Cond.selects RX6 yX6_back yX6_back ∈ BG := bg_of (i := 1049) (by decide +kernel) rfl
theorem kcX6_load : Cond.code yX6_load cX6_load 10 (some .int) ∈ BG := bg_of (i := 1054) (by decide +kernel) rfl
theorem kiX6_load : Cond.instanceMethod yX6_load ∈ BG := bg_of (i := 1052) (by decide +kernel) rfl
theorem kvX6_load : Cond.selects RX6 yX6_load yX6_load ∈ BG := bg_of (i := 1053) (by decide +kernel) rfl
theorem kcX6_pairsOfAll : Cond.code yX6_pairsOfAll cX6_pairsOfAll 3 (some .int) ∈ BG := bg_of (i := 1063) (by decide +kernel) rfl
theorem kiX6_pairsOfAll : Cond.instanceMethod yX6_pairsOfAll ∈ BG := bg_of (i := 1062) (by decide +kernel) rfl
theorem kvX6_pairsOfAll : Cond.selects RX6 yX6_pairsOfAll yX6_pairsOfAll ∈ BG := bg_of (i := 35) (by decide +kernel) rfl
theorem kcX6_jammed : Cond.code yX6_jammed cX6_jammed 3 (some .int) ∈ BG := bg_of (i := 1067) (by decide +kernel) rfl
theorem kiX6_jammed : Cond.instanceMethod yX6_jammed ∈ BG := bg_of (i := 1066) (by decide +kernel) rfl
theorem kvX6_jammed : Cond.selects RX6 yX6_jammed yX6_jammed ∈ BG := bg_of (i := 36) (by decide +kernel) rfl
theorem kcX6_count : Cond.code yX6_count cX6_count 2 (some .int) ∈ BG := bg_of (i := 1059) (by decide +kernel) rfl
theorem kiX6_count : Cond.instanceMethod yX6_count ∈ BG := bg_of (i := 1057) (by decide +kernel) rfl
theorem kvX6_count : Cond.selects RX6 yX6_count yX6_count ∈ BG := bg_of (i := 1058) (by decide +kernel) rfl
theorem kcX6_put : Cond.code yX6_put cX6_put 5 (some .int) ∈ BG := bg_of (i := 1072) (by decide +kernel) rfl
theorem kiX6_put : Cond.instanceMethod yX6_put ∈ BG := bg_of (i := 1070) (by decide +kernel) rfl
theorem kvX6_put : Cond.selects RX6 yX6_put yX6_put ∈ BG := bg_of (i := 1071) (by decide +kernel) rfl
theorem kcX6_item : Cond.code yX6_item cX6_item 3 (some .long) ∈ BG := bg_of (i := 1076) (by decide +kernel) rfl
theorem kiX6_item : Cond.instanceMethod yX6_item ∈ BG := bg_of (i := 1074) (by decide +kernel) rfl
theorem kvX6_item : Cond.selects RX6 yX6_item yX6_item ∈ BG := bg_of (i := 1075) (by decide +kernel) rfl
theorem kcX6_copy : Cond.code yX6_copy cX6_copy 6 (some .int) ∈ BG := bg_of (i := 1080) (by decide +kernel) rfl
theorem kiX6_copy : Cond.instanceMethod yX6_copy ∈ BG := bg_of (i := 1078) (by decide +kernel) rfl
theorem kvX6_copy : Cond.selects RX6 yX6_copy yX6_copy ∈ BG := bg_of (i := 1079) (by decide +kernel) rfl
theorem kcJ9_abs_067f4 : Cond.code yJ9_abs_067f4 cJ9_abs_067f4 2 (some .long) ∈ BG := bg_of (i := 245) (by decide +kernel) rfl
theorem ksJ9_abs_067f4 : Cond.static yJ9_abs_067f4 ∈ BG := bg_of (i := 244) (by decide +kernel) rfl
theorem kcJ9_max_7cf53 : Cond.code yJ9_max_7cf53 cJ9_max_7cf53 2 (some .int) ∈ BG := bg_of (i := 322) (by decide +kernel) rfl
theorem ksJ9_max_7cf53 : Cond.static yJ9_max_7cf53 ∈ BG := bg_of (i := 321) (by decide +kernel) rfl
theorem kcJ9_min_7cf53 : Cond.code yJ9_min_7cf53 cJ9_min_7cf53 2 (some .int) ∈ BG := bg_of (i := 363) (by decide +kernel) rfl
theorem ksJ9_min_7cf53 : Cond.static yJ9_min_7cf53 ∈ BG := bg_of (i := 362) (by decide +kernel) rfl
theorem knL : Cond.initialized RL ∈ BG := bg_of (i := 37) (by decide +kernel) rfl
theorem knX5 : Cond.initialized RX5 ∈ BG := bg_of (i := 38) (by decide +kernel) rfl
theorem knX4 : Cond.initialized RX4 ∈ BG := bg_of (i := 39) (by decide +kernel) rfl
theorem knX3 : Cond.initialized RX3 ∈ BG := bg_of (i := 40) (by decide +kernel) rfl
theorem knX2 : Cond.initialized RX2 ∈ BG := bg_of (i := 41) (by decide +kernel) rfl
theorem knX0 : Cond.initialized RX0 ∈ BG := bg_of (i := 42) (by decide +kernel) rfl
theorem knX1 : Cond.initialized RX1 ∈ BG := bg_of (i := 43) (by decide +kernel) rfl
theorem knX6 : Cond.initialized RX6 ∈ BG := bg_of (i := 44) (by decide +kernel) rfl
theorem knJ9 : Cond.initialized RJ9 ∈ BG := bg_of (i := 45) (by decide +kernel) rfl
theorem knJ13 : Cond.initialized RJ13 ∈ BG := bg_of (i := 46) (by decide +kernel) rfl
theorem knJ10 : Cond.initialized RJ10 ∈ BG := bg_of (i := 47) (by decide +kernel) rfl
theorem knJ0 : Cond.initialized RJ0 ∈ BG := bg_of (i := 48) (by decide +kernel) rfl
theorem knJ1 : Cond.initialized RJ1 ∈ BG := bg_of (i := 49) (by decide +kernel) rfl
theorem knJ3 : Cond.initialized RJ3 ∈ BG := bg_of (i := 50) (by decide +kernel) rfl
theorem knJ2 : Cond.initialized RJ2 ∈ BG := bg_of (i := 51) (by decide +kernel) rfl
theorem oL_7 : Cond.classLink RL 7 RX5 ∈ BG := bg_of (i := 52) (by decide +kernel) rfl
theorem kiX5 : Cond.instantiable RX5 8 ∈ BG := bg_of (i := 53) (by decide +kernel) rfl
theorem lL_9 : Cond.methodLink RL 9 yX5_init ∈ BG := bg_of (i := 54) (by decide +kernel) rfl
theorem lX5_3 : Cond.methodLink RX5 3 objectInit ∈ BG := bg_of (i := 57) (by decide +kernel) rfl
theorem oX5_9 : Cond.classLink RX5 9 RX4 ∈ BG := bg_of (i := 60) (by decide +kernel) rfl
theorem kiX4 : Cond.instantiable RX4 4 ∈ BG := bg_of (i := 61) (by decide +kernel) rfl
theorem lX5_11 : Cond.methodLink RX5 11 yX4_init ∈ BG := bg_of (i := 62) (by decide +kernel) rfl
theorem lX4_3 : Cond.methodLink RX4 3 objectInit ∈ BG := bg_of (i := 65) (by decide +kernel) rfl
theorem oX4_9 : Cond.classLink RX4 9 RX3 ∈ BG := bg_of (i := 66) (by decide +kernel) rfl
theorem kiX3 : Cond.instantiable RX3 6 ∈ BG := bg_of (i := 68) (by decide +kernel) rfl
theorem lX3_3 : Cond.methodLink RX3 3 objectInit ∈ BG := bg_of (i := 72) (by decide +kernel) rfl
theorem fX3_9 : Cond.fieldLink RX3 9 RX3 "traits" "[I" ∈ BG := bg_of (i := 73) (by decide +kernel) rfl
theorem fX4_32 : Cond.fieldLink RX4 32 RX3 "traits" "[I" ∈ BG := bg_of (i := 74) (by decide +kernel) rfl
theorem fX5_102 : Cond.fieldLink RX5 102 RX3 "traits" "[I" ∈ BG := bg_of (i := 75) (by decide +kernel) rfl
theorem fX3_15 : Cond.fieldLink RX3 15 RX3 "a" "[I" ∈ BG := bg_of (i := 76) (by decide +kernel) rfl
theorem fX5_106 : Cond.fieldLink RX5 106 RX3 "a" "[I" ∈ BG := bg_of (i := 77) (by decide +kernel) rfl
theorem fX3_18 : Cond.fieldLink RX3 18 RX3 "b" "[I" ∈ BG := bg_of (i := 78) (by decide +kernel) rfl
theorem fX5_113 : Cond.fieldLink RX5 113 RX3 "b" "[I" ∈ BG := bg_of (i := 79) (by decide +kernel) rfl
theorem fX3_21 : Cond.fieldLink RX3 21 RX3 "pairs" "I" ∈ BG := bg_of (i := 80) (by decide +kernel) rfl
theorem fX4_36 : Cond.fieldLink RX4 36 RX3 "pairs" "I" ∈ BG := bg_of (i := 81) (by decide +kernel) rfl
theorem fX5_88 : Cond.fieldLink RX5 88 RX3 "pairs" "I" ∈ BG := bg_of (i := 82) (by decide +kernel) rfl
theorem fX3_25 : Cond.fieldLink RX3 25 RX3 "above" "J" ∈ BG := bg_of (i := 83) (by decide +kernel) rfl
theorem fX5_133 : Cond.fieldLink RX5 133 RX3 "above" "J" ∈ BG := bg_of (i := 84) (by decide +kernel) rfl
theorem fX3_29 : Cond.fieldLink RX3 29 RX3 "below" "J" ∈ BG := bg_of (i := 85) (by decide +kernel) rfl
theorem fX5_137 : Cond.fieldLink RX5 137 RX3 "below" "J" ∈ BG := bg_of (i := 86) (by decide +kernel) rfl
theorem ka_int : Cond.arrayClass .int ∈ BG := bg_of (i := 100) (by decide +kernel) rfl
theorem fX4_11 : Cond.fieldLink RX4 11 RX4 "wheels" "[LTideWheels$Wheel;" ∈ BG := bg_of (i := 101) (by decide +kernel) rfl
theorem fX5_288 : Cond.fieldLink RX5 288 RX4 "wheels" "[LTideWheels$Wheel;" ∈ BG := bg_of (i := 102) (by decide +kernel) rfl
theorem fX4_17 : Cond.fieldLink RX4 17 RX4 "parts" "I" ∈ BG := bg_of (i := 103) (by decide +kernel) rfl
theorem fX5_65 : Cond.fieldLink RX5 65 RX4 "parts" "I" ∈ BG := bg_of (i := 104) (by decide +kernel) rfl
theorem fX4_21 : Cond.fieldLink RX4 21 RX4 "shaft" "I" ∈ BG := bg_of (i := 105) (by decide +kernel) rfl
theorem fX5_81 : Cond.fieldLink RX5 81 RX4 "shaft" "I" ∈ BG := bg_of (i := 106) (by decide +kernel) rfl
theorem fX4_24 : Cond.fieldLink RX4 24 RX4 "tick" "I" ∈ BG := bg_of (i := 107) (by decide +kernel) rfl
theorem fX5_141 : Cond.fieldLink RX5 141 RX4 "tick" "I" ∈ BG := bg_of (i := 108) (by decide +kernel) rfl
theorem oX5_25 : Cond.classLink RX5 25 RX1 ∈ BG := bg_of (i := 118) (by decide +kernel) rfl
theorem oX5_31 : Cond.classLink RX5 31 RX2 ∈ BG := bg_of (i := 120) (by decide +kernel) rfl
theorem kiX2 : Cond.instantiable RX2 8 ∈ BG := bg_of (i := 121) (by decide +kernel) rfl
theorem lX2_3 : Cond.methodLink RX2 3 objectInit ∈ BG := bg_of (i := 125) (by decide +kernel) rfl
theorem fX2_9 : Cond.fieldLink RX2 9 RX2 "bytes" "[I" ∈ BG := bg_of (i := 126) (by decide +kernel) rfl
theorem fX2_15 : Cond.fieldLink RX2 15 RX2 "size" "I" ∈ BG := bg_of (i := 127) (by decide +kernel) rfl
theorem fX5_227 : Cond.fieldLink RX5 227 RX2 "size" "I" ∈ BG := bg_of (i := 128) (by decide +kernel) rfl
theorem fX2_19 : Cond.fieldLink RX2 19 RX2 "sort" "I" ∈ BG := bg_of (i := 129) (by decide +kernel) rfl
theorem fX2_22 : Cond.fieldLink RX2 22 RX2 "from" "I" ∈ BG := bg_of (i := 130) (by decide +kernel) rfl
theorem fX2_25 : Cond.fieldLink RX2 25 RX2 "to" "I" ∈ BG := bg_of (i := 131) (by decide +kernel) rfl
theorem fX2_28 : Cond.fieldLink RX2 28 RX2 "said" "[I" ∈ BG := bg_of (i := 132) (by decide +kernel) rfl
theorem fX2_31 : Cond.fieldLink RX2 31 RX2 "saidSize" "I" ∈ BG := bg_of (i := 133) (by decide +kernel) rfl
theorem fX2_34 : Cond.fieldLink RX2 34 RX2 "clauses" "I" ∈ BG := bg_of (i := 134) (by decide +kernel) rfl
theorem fX5_236 : Cond.fieldLink RX5 236 RX2 "clauses" "I" ∈ BG := bg_of (i := 135) (by decide +kernel) rfl
theorem oX5_38 : Cond.classLink RX5 38 RX3 ∈ BG := bg_of (i := 153) (by decide +kernel) rfl
theorem oX5_49 : Cond.classLink RX5 49 RX0 ∈ BG := bg_of (i := 155) (by decide +kernel) rfl
theorem kiX0 : Cond.instantiable RX0 2 ∈ BG := bg_of (i := 156) (by decide +kernel) rfl
theorem lX0_1 : Cond.methodLink RX0 1 objectInit ∈ BG := bg_of (i := 160) (by decide +kernel) rfl
theorem fX0_7 : Cond.fieldLink RX0 7 RX0 "level" "J" ∈ BG := bg_of (i := 161) (by decide +kernel) rfl
theorem fX5_162 : Cond.fieldLink RX5 162 RX0 "level" "J" ∈ BG := bg_of (i := 162) (by decide +kernel) rfl
theorem fX0_13 : Cond.fieldLink RX0 13 RX0 "way" "I" ∈ BG := bg_of (i := 163) (by decide +kernel) rfl
theorem ka_long : Cond.arrayClass .long ∈ BG := bg_of (i := 169) (by decide +kernel) rfl
theorem kiX1 : Cond.instantiable RX1 3 ∈ BG := bg_of (i := 170) (by decide +kernel) rfl
theorem lX1_3 : Cond.methodLink RX1 3 objectInit ∈ BG := bg_of (i := 174) (by decide +kernel) rfl
theorem fX1_9 : Cond.fieldLink RX1 9 RX1 "row" "[J" ∈ BG := bg_of (i := 175) (by decide +kernel) rfl
theorem fX5_268 : Cond.fieldLink RX5 268 RX1 "row" "[J" ∈ BG := bg_of (i := 176) (by decide +kernel) rfl
theorem fX1_15 : Cond.fieldLink RX1 15 RX1 "sort" "I" ∈ BG := bg_of (i := 177) (by decide +kernel) rfl
theorem fX5_252 : Cond.fieldLink RX5 252 RX1 "sort" "I" ∈ BG := bg_of (i := 178) (by decide +kernel) rfl
theorem fX1_19 : Cond.fieldLink RX1 19 RX1 "size" "I" ∈ BG := bg_of (i := 179) (by decide +kernel) rfl
theorem fX5_287 : Cond.fieldLink RX5 287 RX1 "size" "I" ∈ BG := bg_of (i := 180) (by decide +kernel) rfl
theorem fX5_12 : Cond.fieldLink RX5 12 RX5 "works" "LTideWheels$Works;" ∈ BG := bg_of (i := 188) (by decide +kernel) rfl
theorem fX5_18 : Cond.fieldLink RX5 18 RX5 "kept" "LTideWheels$Works;" ∈ BG := bg_of (i := 189) (by decide +kernel) rfl
theorem fX5_21 : Cond.fieldLink RX5 21 RX5 "isKept" "Z" ∈ BG := bg_of (i := 190) (by decide +kernel) rfl
theorem fX5_27 : Cond.fieldLink RX5 27 RX5 "sheets" "[LTideWheels$Sheet;" ∈ BG := bg_of (i := 191) (by decide +kernel) rfl
theorem fX5_34 : Cond.fieldLink RX5 34 RX5 "tape" "LTideWheels$Tape;" ∈ BG := bg_of (i := 192) (by decide +kernel) rfl
theorem fX5_41 : Cond.fieldLink RX5 41 RX5 "thought" "LTideWheels$Wheel;" ∈ BG := bg_of (i := 193) (by decide +kernel) rfl
theorem fX5_45 : Cond.fieldLink RX5 45 RX5 "rest" "[J" ∈ BG := bg_of (i := 194) (by decide +kernel) rfl
theorem fX5_52 : Cond.fieldLink RX5 52 RX5 "flow" "LTideWheels$Flow;" ∈ BG := bg_of (i := 195) (by decide +kernel) rfl
theorem lL_13 : Cond.methodLink RL 13 yX5_part ∈ BG := bg_of (i := 213) (by decide +kernel) rfl
theorem lX5_57 : Cond.methodLink RX5 57 yX5_allows ∈ BG := bg_of (i := 217) (by decide +kernel) rfl
theorem lX5_91 : Cond.methodLink RX5 91 yX5_within ∈ BG := bg_of (i := 220) (by decide +kernel) rfl
theorem fX5_190 : Cond.fieldLink RX5 190 RX5 "MOST" "[I" ∈ BG := bg_of (i := 223) (by decide +kernel) rfl
theorem lX5_61 : Cond.methodLink RX5 61 yX4_addWheel ∈ BG := bg_of (i := 225) (by decide +kernel) rfl
theorem lX4_39 : Cond.methodLink RX4 39 yX3_tune ∈ BG := bg_of (i := 229) (by decide +kernel) rfl
theorem lX3_45 : Cond.methodLink RX3 45 yX3_jammed ∈ BG := bg_of (i := 233) (by decide +kernel) rfl
theorem lX5_205 : Cond.methodLink RX5 205 yJ9_abs_067f4 ∈ BG := bg_of (i := 243) (by decide +kernel) rfl
theorem lX5_277 : Cond.methodLink RX5 277 yX5_greatestDivisor ∈ BG := bg_of (i := 246) (by decide +kernel) rfl
theorem lX5_281 : Cond.methodLink RX5 281 yX5_cut ∈ BG := bg_of (i := 249) (by decide +kernel) rfl
theorem lL_18 : Cond.methodLink RL 18 yX5_drop ∈ BG := bg_of (i := 252) (by decide +kernel) rfl
theorem lL_23 : Cond.methodLink RL 23 yX5_gear ∈ BG := bg_of (i := 256) (by decide +kernel) rfl
theorem lX5_69 : Cond.methodLink RX5 69 yX4_wheelOf ∈ BG := bg_of (i := 260) (by decide +kernel) rfl
theorem lX5_73 : Cond.methodLink RX5 73 yX5_isTeeth ∈ BG := bg_of (i := 264) (by decide +kernel) rfl
theorem lX5_77 : Cond.methodLink RX5 77 yX3_addPair ∈ BG := bg_of (i := 267) (by decide +kernel) rfl
theorem lX5_84 : Cond.methodLink RX5 84 yX3_tune ∈ BG := bg_of (i := 271) (by decide +kernel) rfl
theorem lL_28 : Cond.methodLink RL 28 yX5_ungear ∈ BG := bg_of (i := 272) (by decide +kernel) rfl
theorem lL_33 : Cond.methodLink RL 33 yX5_shaft ∈ BG := bg_of (i := 276) (by decide +kernel) rfl
theorem lX5_95 : Cond.methodLink RX5 95 yX4_goAt ∈ BG := bg_of (i := 280) (by decide +kernel) rfl
theorem lL_37 : Cond.methodLink RL 37 yX5_set ∈ BG := bg_of (i := 284) (by decide +kernel) rfl
theorem lX5_98 : Cond.methodLink RX5 98 yX5_change ∈ BG := bg_of (i := 288) (by decide +kernel) rfl
theorem lL_41 : Cond.methodLink RL 41 yX5_kind ∈ BG := bg_of (i := 292) (by decide +kernel) rfl
theorem lL_46 : Cond.methodLink RL 46 yX5_of ∈ BG := bg_of (i := 296) (by decide +kernel) rfl
theorem lX5_109 : Cond.methodLink RX5 109 yX3_toothOf ∈ BG := bg_of (i := 300) (by decide +kernel) rfl
theorem lL_50 : Cond.methodLink RL 50 yX5_taken ∈ BG := bg_of (i := 304) (by decide +kernel) rfl
theorem lX5_116 : Cond.methodLink RX5 116 yX3_isA ∈ BG := bg_of (i := 308) (by decide +kernel) rfl
theorem lL_54 : Cond.methodLink RL 54 yX5_jam ∈ BG := bg_of (i := 314) (by decide +kernel) rfl
theorem lX5_119 : Cond.methodLink RX5 119 yX3_jammed ∈ BG := bg_of (i := 318) (by decide +kernel) rfl
theorem lX5_123 : Cond.methodLink RX5 123 yX5_misfit ∈ BG := bg_of (i := 319) (by decide +kernel) rfl
theorem lX5_126 : Cond.methodLink RX5 126 yJ9_max_7cf53 ∈ BG := bg_of (i := 320) (by decide +kernel) rfl
theorem lL_58 : Cond.methodLink RL 58 yX5_speed ∈ BG := bg_of (i := 323) (by decide +kernel) rfl
theorem nX5_131 : Cond.constantLong RX5 131 (-9223372036854775808 : Int64) ∈ BG := bg_of (i := 327) (by decide +kernel) rfl
theorem lL_63 : Cond.methodLink RL 63 yX5_turn ∈ BG := bg_of (i := 328) (by decide +kernel) rfl
theorem nX5_140 : Cond.constant RX5 140 (99999 : Int32) ∈ BG := bg_of (i := 332) (by decide +kernel) rfl
theorem lL_67 : Cond.methodLink RL 67 yX5_height ∈ BG := bg_of (i := 333) (by decide +kernel) rfl
theorem lX5_144 : Cond.methodLink RX5 144 yX4_level ∈ BG := bg_of (i := 337) (by decide +kernel) rfl
theorem lX4_43 : Cond.methodLink RX4 43 yX3_swing ∈ BG := bg_of (i := 341) (by decide +kernel) rfl
theorem lX3_75 : Cond.methodLink RX3 75 yX3_spot ∈ BG := bg_of (i := 345) (by decide +kernel) rfl
theorem lX3_61 : Cond.methodLink RX3 61 yX3_wayAt ∈ BG := bg_of (i := 349) (by decide +kernel) rfl
theorem nX3_57 : Cond.constantLong RX3 57 (2 : Int64) ∈ BG := bg_of (i := 354) (by decide +kernel) rfl
theorem nX3_59 : Cond.constantLong RX3 59 (64 : Int64) ∈ BG := bg_of (i := 355) (by decide +kernel) rfl
theorem nX3_65 : Cond.constantLong RX3 65 (1024 : Int64) ∈ BG := bg_of (i := 356) (by decide +kernel) rfl
theorem lX3_79 : Cond.methodLink RX3 79 yX3_shapeAt ∈ BG := bg_of (i := 357) (by decide +kernel) rfl
theorem lX3_67 : Cond.methodLink RX3 67 yJ9_min_7cf53 ∈ BG := bg_of (i := 361) (by decide +kernel) rfl
theorem lX3_72 : Cond.methodLink RX3 72 yJ9_max_7cf53 ∈ BG := bg_of (i := 364) (by decide +kernel) rfl
theorem lL_72 : Cond.methodLink RL 72 yX5_heightAt ∈ BG := bg_of (i := 365) (by decide +kernel) rfl
theorem lX5_148 : Cond.methodLink RX5 148 yX5_isTick ∈ BG := bg_of (i := 369) (by decide +kernel) rfl
theorem lL_77 : Cond.methodLink RL 77 yX5_heightOf ∈ BG := bg_of (i := 372) (by decide +kernel) rfl
theorem lX5_151 : Cond.methodLink RX5 151 yX3_swing ∈ BG := bg_of (i := 376) (by decide +kernel) rfl
theorem lL_81 : Cond.methodLink RL 81 yX5_place ∈ BG := bg_of (i := 377) (by decide +kernel) rfl
theorem lX5_154 : Cond.methodLink RX5 154 yX3_spot ∈ BG := bg_of (i := 381) (by decide +kernel) rfl
theorem lL_85 : Cond.methodLink RL 85 yX5_waters ∈ BG := bg_of (i := 382) (by decide +kernel) rfl
theorem lX5_158 : Cond.methodLink RX5 158 yX0_start ∈ BG := bg_of (i := 386) (by decide +kernel) rfl
theorem lX5_164 : Cond.methodLink RX5 164 yX0_step ∈ BG := bg_of (i := 390) (by decide +kernel) rfl
theorem lL_89 : Cond.methodLink RL 89 yX5_water ∈ BG := bg_of (i := 394) (by decide +kernel) rfl
theorem lL_93 : Cond.methodLink RL 93 yX5_tells ∈ BG := bg_of (i := 398) (by decide +kernel) rfl
theorem lX5_168 : Cond.methodLink RX5 168 yX5_isSheet ∈ BG := bg_of (i := 402) (by decide +kernel) rfl
theorem lX5_171 : Cond.methodLink RX5 171 yX1_canTell ∈ BG := bg_of (i := 405) (by decide +kernel) rfl
theorem lX1_22 : Cond.methodLink RX1 22 yX1_isMissing ∈ BG := bg_of (i := 409) (by decide +kernel) rfl
theorem lX5_175 : Cond.methodLink RX5 175 yX1_isMissing ∈ BG := bg_of (i := 413) (by decide +kernel) rfl
theorem lX5_178 : Cond.methodLink RX5 178 yX5_firstOtherwise ∈ BG := bg_of (i := 414) (by decide +kernel) rfl
theorem lX5_182 : Cond.methodLink RX5 182 yX5_wrongBy ∈ BG := bg_of (i := 418) (by decide +kernel) rfl
theorem lX5_186 : Cond.methodLink RX5 186 yX5_think ∈ BG := bg_of (i := 422) (by decide +kernel) rfl
theorem lX5_284 : Cond.methodLink RX5 284 yX3_become ∈ BG := bg_of (i := 426) (by decide +kernel) rfl
theorem lX3_32 : Cond.methodLink RX3 32 arraycopyName ∈ BG := bg_of (i := 430) (by decide +kernel) rfl
theorem lX5_292 : Cond.methodLink RX5 292 yX5_isAllSo ∈ BG := bg_of (i := 433) (by decide +kernel) rfl
theorem lL_97 : Cond.methodLink RL 97 yX5_refound ∈ BG := bg_of (i := 437) (by decide +kernel) rfl
theorem lX5_193 : Cond.methodLink RX5 193 yX5_hasHighs ∈ BG := bg_of (i := 441) (by decide +kernel) rfl
theorem lL_102 : Cond.methodLink RL 102 yX5_film ∈ BG := bg_of (i := 445) (by decide +kernel) rfl
theorem lX5_197 : Cond.methodLink RX5 197 yX1_begin ∈ BG := bg_of (i := 449) (by decide +kernel) rfl
theorem lX5_201 : Cond.methodLink RX5 201 yX1_write ∈ BG := bg_of (i := 453) (by decide +kernel) rfl
theorem lX1_26 : Cond.methodLink RX1 26 yX1_holds ∈ BG := bg_of (i := 457) (by decide +kernel) rfl
theorem lL_106 : Cond.methodLink RL 106 yX5_nearest ∈ BG := bg_of (i := 461) (by decide +kernel) rfl
theorem lL_110 : Cond.methodLink RL 110 yX5_off ∈ BG := bg_of (i := 465) (by decide +kernel) rfl
theorem lX5_209 : Cond.methodLink RX5 209 yX5_lowest ∈ BG := bg_of (i := 469) (by decide +kernel) rfl
theorem lL_115 : Cond.methodLink RL 115 yX5_alike ∈ BG := bg_of (i := 470) (by decide +kernel) rfl
theorem lX5_213 : Cond.methodLink RX5 213 yX4_groups ∈ BG := bg_of (i := 474) (by decide +kernel) rfl
theorem lX4_51 : Cond.methodLink RX4 51 yX4_likeOnes ∈ BG := bg_of (i := 478) (by decide +kernel) rfl
theorem lX4_47 : Cond.methodLink RX4 47 yX3_isAsFastAs ∈ BG := bg_of (i := 482) (by decide +kernel) rfl
theorem lX5_216 : Cond.methodLink RX5 216 yX4_likeOnes ∈ BG := bg_of (i := 486) (by decide +kernel) rfl
theorem lL_119 : Cond.methodLink RL 119 yX5_drawn ∈ BG := bg_of (i := 487) (by decide +kernel) rfl
theorem lX5_220 : Cond.methodLink RX5 220 yX5_levelByLot ∈ BG := bg_of (i := 491) (by decide +kernel) rfl
theorem nX5_296 : Cond.constant RX5 296 (1103515245 : Int32) ∈ BG := bg_of (i := 495) (by decide +kernel) rfl
theorem lL_123 : Cond.methodLink RL 123 yX5_chance ∈ BG := bg_of (i := 496) (by decide +kernel) rfl
theorem lL_127 : Cond.methodLink RL 127 yX5_feed ∈ BG := bg_of (i := 500) (by decide +kernel) rfl
theorem lX5_224 : Cond.methodLink RX5 224 yX5_isByte ∈ BG := bg_of (i := 504) (by decide +kernel) rfl
theorem lX5_230 : Cond.methodLink RX5 230 yX2_addByte ∈ BG := bg_of (i := 507) (by decide +kernel) rfl
theorem lL_132 : Cond.methodLink RL 132 yX5_text ∈ BG := bg_of (i := 511) (by decide +kernel) rfl
theorem lX5_233 : Cond.methodLink RX5 233 yX2_findFault ∈ BG := bg_of (i := 515) (by decide +kernel) rfl
theorem lX2_52 : Cond.methodLink RX2 52 yX2_readClause ∈ BG := bg_of (i := 519) (by decide +kernel) rfl
theorem lX2_56 : Cond.methodLink RX2 56 yX2_next ∈ BG := bg_of (i := 523) (by decide +kernel) rfl
theorem lX2_48 : Cond.methodLink RX2 48 yX2_behind ∈ BG := bg_of (i := 527) (by decide +kernel) rfl
theorem lX2_45 : Cond.methodLink RX2 45 yX2_sortAt ∈ BG := bg_of (i := 531) (by decide +kernel) rfl
theorem lX2_37 : Cond.methodLink RX2 37 yX2_byteAt ∈ BG := bg_of (i := 535) (by decide +kernel) rfl
theorem lX2_60 : Cond.methodLink RX2 60 yX2_wordRead ∈ BG := bg_of (i := 540) (by decide +kernel) rfl
theorem lX2_77 : Cond.methodLink RX2 77 yX2_isSpelt ∈ BG := bg_of (i := 553) (by decide +kernel) rfl
theorem lX2_81 : Cond.methodLink RX2 81 yJ0_length_8abf5 ∈ BG := bg_of (i := 557) (by decide +kernel) rfl
theorem lJ0_335 : Cond.methodLink RJ0 335 yJ0_coder_7d493 ∈ BG := bg_of (i := 561) (by decide +kernel) rfl
theorem fJ0_38 : Cond.fieldLink RJ0 38 RJ0 "COMPACT_STRINGS" "Z" ∈ BG := bg_of (i := 565) (by decide +kernel) rfl
theorem lX2_86 : Cond.methodLink RX2 86 yJ0_charAt_5068e ∈ BG := bg_of (i := 567) (by decide +kernel) rfl
theorem lJ0_492 : Cond.methodLink RJ0 492 yJ0_isLatin1_aae02 ∈ BG := bg_of (i := 571) (by decide +kernel) rfl
theorem lJ0_495 : Cond.methodLink RJ0 495 yJ1_charAt_3b067 ∈ BG := bg_of (i := 575) (by decide +kernel) rfl
theorem lJ1_9 : Cond.methodLink RJ1 9 yJ0_checkIndex_df160 ∈ BG := bg_of (i := 578) (by decide +kernel) rfl
theorem fJ0_1053 : Cond.fieldLink RJ0 1053 RJ3 "SIOOBE_FORMATTER" "Ljava/util/function/BiFunction;" ∈ BG := bg_of (i := 581) (by decide +kernel) rfl
theorem lJ0_1059 : Cond.methodLink RJ0 1059 yJ3_checkIndex_8e157 ∈ BG := bg_of (i := 583) (by decide +kernel) rfl
theorem lJ0_498 : Cond.methodLink RJ0 498 yJ2_charAt_3b067 ∈ BG := bg_of (i := 586) (by decide +kernel) rfl
theorem lJ2_67 : Cond.methodLink RJ2 67 yJ2_checkIndex_2214a ∈ BG := bg_of (i := 589) (by decide +kernel) rfl
theorem lJ2_48 : Cond.methodLink RJ2 48 yJ2_length_9d52b ∈ BG := bg_of (i := 592) (by decide +kernel) rfl
theorem lJ2_414 : Cond.methodLink RJ2 414 yJ0_checkIndex_df160 ∈ BG := bg_of (i := 595) (by decide +kernel) rfl
theorem lJ2_71 : Cond.methodLink RJ2 71 yJ2_getChar_3b067 ∈ BG := bg_of (i := 596) (by decide +kernel) rfl
theorem fJ2_44 : Cond.fieldLink RJ2 44 RJ2 "$assertionsDisabled" "Z" ∈ BG := bg_of (i := 599) (by decide +kernel) rfl
theorem fJ2_59 : Cond.fieldLink RJ2 59 RJ2 "HI_BYTE_SHIFT" "I" ∈ BG := bg_of (i := 601) (by decide +kernel) rfl
theorem fJ2_63 : Cond.fieldLink RJ2 63 RJ2 "LO_BYTE_SHIFT" "I" ∈ BG := bg_of (i := 603) (by decide +kernel) rfl
theorem lX2_63 : Cond.methodLink RX2 63 yX2_say ∈ BG := bg_of (i := 605) (by decide +kernel) rfl
theorem fX5_305 : Cond.fieldLink RX5 305 RX5 "NUMBERS" "[I" ∈ BG := bg_of (i := 612) (by decide +kernel) rfl
theorem lX2_70 : Cond.methodLink RX2 70 yX2_numberRead ∈ BG := bg_of (i := 614) (by decide +kernel) rfl
theorem lX5_239 : Cond.methodLink RX5 239 yX2_saidAt ∈ BG := bg_of (i := 618) (by decide +kernel) rfl
theorem lX5_242 : Cond.methodLink RX5 242 yX5_doClause ∈ BG := bg_of (i := 622) (by decide +kernel) rfl
theorem lX5_297 : Cond.methodLink RX5 297 yX5_part ∈ BG := bg_of (i := 626) (by decide +kernel) rfl
theorem lX5_300 : Cond.methodLink RX5 300 yX5_gear ∈ BG := bg_of (i := 627) (by decide +kernel) rfl
theorem lX5_303 : Cond.methodLink RX5 303 yX5_shaft ∈ BG := bg_of (i := 628) (by decide +kernel) rfl
theorem lX5_245 : Cond.methodLink RX5 245 yX5_numbersOf ∈ BG := bg_of (i := 629) (by decide +kernel) rfl
theorem ka_byte : Cond.arrayClass .byte ∈ BG := bg_of (i := 630) (by decide +kernel) rfl
theorem lL_136 : Cond.methodLink RL 136 yX5_image ∈ BG := bg_of (i := 631) (by decide +kernel) rfl
theorem lX5_248 : Cond.methodLink RX5 248 yX4_become ∈ BG := bg_of (i := 635) (by decide +kernel) rfl
theorem lX4_28 : Cond.methodLink RX4 28 yX3_become ∈ BG := bg_of (i := 639) (by decide +kernel) rfl
theorem lL_140 : Cond.methodLink RL 140 yX5_back ∈ BG := bg_of (i := 640) (by decide +kernel) rfl
theorem lL_144 : Cond.methodLink RL 144 yX5_load ∈ BG := bg_of (i := 644) (by decide +kernel) rfl
theorem lX5_255 : Cond.methodLink RX5 255 yX1_holds ∈ BG := bg_of (i := 648) (by decide +kernel) rfl
theorem lX5_259 : Cond.methodLink RX5 259 yX5_partFrom ∈ BG := bg_of (i := 649) (by decide +kernel) rfl
theorem lL_148 : Cond.methodLink RL 148 yX5_count ∈ BG := bg_of (i := 653) (by decide +kernel) rfl
theorem lX5_262 : Cond.methodLink RX5 262 yX4_pairsOfAll ∈ BG := bg_of (i := 657) (by decide +kernel) rfl
theorem lX5_265 : Cond.methodLink RX5 265 yX4_jams ∈ BG := bg_of (i := 661) (by decide +kernel) rfl
theorem lX4_55 : Cond.methodLink RX4 55 yX3_jammed ∈ BG := bg_of (i := 665) (by decide +kernel) rfl
theorem lL_152 : Cond.methodLink RL 152 yX5_sheet ∈ BG := bg_of (i := 666) (by decide +kernel) rfl
theorem lL_158 : Cond.methodLink RL 158 yX5_put ∈ BG := bg_of (i := 670) (by decide +kernel) rfl
theorem lL_163 : Cond.methodLink RL 163 yX5_item ∈ BG := bg_of (i := 674) (by decide +kernel) rfl
theorem lL_167 : Cond.methodLink RL 167 yX5_copy ∈ BG := bg_of (i := 678) (by decide +kernel) rfl
theorem lX5_271 : Cond.methodLink RX5 271 arraycopyName ∈ BG := bg_of (i := 682) (by decide +kernel) rfl
theorem oL_10 : Cond.classLink RL 10 RX6 ∈ BG := bg_of (i := 683) (by decide +kernel) rfl
theorem kiX6 : Cond.instantiable RX6 18 ∈ BG := bg_of (i := 684) (by decide +kernel) rfl
theorem lL_12 : Cond.methodLink RL 12 yX6_init ∈ BG := bg_of (i := 685) (by decide +kernel) rfl
theorem lX6_5 : Cond.methodLink RX6 5 objectInit ∈ BG := bg_of (i := 688) (by decide +kernel) rfl
theorem fX6_11 : Cond.fieldLink RX6 11 RX6 "s" "[I" ∈ BG := bg_of (i := 690) (by decide +kernel) rfl
theorem fX6_15 : Cond.fieldLink RX6 15 RX6 "image" "[I" ∈ BG := bg_of (i := 691) (by decide +kernel) rfl
theorem fX6_293 : Cond.fieldLink RX6 293 RX6 "hasImage" "Z" ∈ BG := bg_of (i := 692) (by decide +kernel) rfl
theorem fX6_164 : Cond.fieldLink RX6 164 RX6 "found" "I" ∈ BG := bg_of (i := 693) (by decide +kernel) rfl
theorem fX6_168 : Cond.fieldLink RX6 168 RX6 "bestTick" "I" ∈ BG := bg_of (i := 694) (by decide +kernel) rfl
theorem fX6_171 : Cond.fieldLink RX6 171 RX6 "kth" "I" ∈ BG := bg_of (i := 695) (by decide +kernel) rfl
theorem fX6_18 : Cond.fieldLink RX6 18 RX6 "sorts" "[I" ∈ BG := bg_of (i := 696) (by decide +kernel) rfl
theorem fX6_21 : Cond.fieldLink RX6 21 RX6 "sizes" "[I" ∈ BG := bg_of (i := 697) (by decide +kernel) rfl
theorem fX6_24 : Cond.fieldLink RX6 24 RX6 "items" "[J" ∈ BG := bg_of (i := 698) (by decide +kernel) rfl
theorem fX6_28 : Cond.fieldLink RX6 28 RX6 "others" "[J" ∈ BG := bg_of (i := 699) (by decide +kernel) rfl
theorem fX6_31 : Cond.fieldLink RX6 31 RX6 "phases" "[I" ∈ BG := bg_of (i := 700) (by decide +kernel) rfl
theorem fX6_34 : Cond.fieldLink RX6 34 RX6 "tape" "[I" ∈ BG := bg_of (i := 701) (by decide +kernel) rfl
theorem fX6_225 : Cond.fieldLink RX6 225 RX6 "taped" "I" ∈ BG := bg_of (i := 702) (by decide +kernel) rfl
theorem fX6_228 : Cond.fieldLink RX6 228 RX6 "here" "I" ∈ BG := bg_of (i := 703) (by decide +kernel) rfl
theorem fX6_234 : Cond.fieldLink RX6 234 RX6 "end" "I" ∈ BG := bg_of (i := 704) (by decide +kernel) rfl
theorem fX6_37 : Cond.fieldLink RX6 37 RX6 "numbers" "[I" ∈ BG := bg_of (i := 705) (by decide +kernel) rfl
theorem fX6_42 : Cond.fieldLink RX6 42 RX6 "words" "Ljava/lang/String;" ∈ BG := bg_of (i := 706) (by decide +kernel) rfl
theorem fX6_46 : Cond.fieldLink RX6 46 RX6 "moved" "[J" ∈ BG := bg_of (i := 707) (by decide +kernel) rfl
theorem lL_17 : Cond.methodLink RL 17 yX6_part ∈ BG := bg_of (i := 745) (by decide +kernel) rfl
theorem lX6_61 : Cond.methodLink RX6 61 yX6_mayBe ∈ BG := bg_of (i := 749) (by decide +kernel) rfl
theorem nX6_53 : Cond.constantLong RX6 53 (5 : Int64) ∈ BG := bg_of (i := 752) (by decide +kernel) rfl
theorem nX6_55 : Cond.constantLong RX6 55 (9 : Int64) ∈ BG := bg_of (i := 753) (by decide +kernel) rfl
theorem nX6_57 : Cond.constantLong RX6 57 (999 : Int64) ∈ BG := bg_of (i := 754) (by decide +kernel) rfl
theorem nX6_59 : Cond.constantLong RX6 59 (1023 : Int64) ∈ BG := bg_of (i := 755) (by decide +kernel) rfl
theorem lX6_49 : Cond.methodLink RX6 49 yX6_isIn ∈ BG := bg_of (i := 756) (by decide +kernel) rfl
theorem lX6_65 : Cond.methodLink RX6 65 yX6_lays ∈ BG := bg_of (i := 759) (by decide +kernel) rfl
theorem lL_22 : Cond.methodLink RL 22 yX6_drop ∈ BG := bg_of (i := 763) (by decide +kernel) rfl
theorem lL_27 : Cond.methodLink RL 27 yX6_gear ∈ BG := bg_of (i := 767) (by decide +kernel) rfl
theorem lX6_69 : Cond.methodLink RX6 69 yX6_isPart ∈ BG := bg_of (i := 771) (by decide +kernel) rfl
theorem nX6_73 : Cond.constantLong RX6 73 (8 : Int64) ∈ BG := bg_of (i := 775) (by decide +kernel) rfl
theorem nX6_75 : Cond.constantLong RX6 75 (200 : Int64) ∈ BG := bg_of (i := 776) (by decide +kernel) rfl
theorem lX6_77 : Cond.methodLink RX6 77 yX6_at ∈ BG := bg_of (i := 777) (by decide +kernel) rfl
theorem lL_32 : Cond.methodLink RL 32 yX6_ungear ∈ BG := bg_of (i := 781) (by decide +kernel) rfl
theorem lL_36 : Cond.methodLink RL 36 yX6_shaft ∈ BG := bg_of (i := 785) (by decide +kernel) rfl
theorem lL_40 : Cond.methodLink RL 40 yX6_set ∈ BG := bg_of (i := 789) (by decide +kernel) rfl
theorem nX6_81 : Cond.constantLong RX6 81 (2 : Int64) ∈ BG := bg_of (i := 793) (by decide +kernel) rfl
theorem lX6_83 : Cond.methodLink RX6 83 yX6_becomes ∈ BG := bg_of (i := 794) (by decide +kernel) rfl
theorem lL_45 : Cond.methodLink RL 45 yX6_kind ∈ BG := bg_of (i := 798) (by decide +kernel) rfl
theorem lL_49 : Cond.methodLink RL 49 yX6_of ∈ BG := bg_of (i := 802) (by decide +kernel) rfl
theorem nX6_87 : Cond.constantLong RX6 87 (4 : Int64) ∈ BG := bg_of (i := 806) (by decide +kernel) rfl
theorem nX6_89 : Cond.constantLong RX6 89 (10 : Int64) ∈ BG := bg_of (i := 807) (by decide +kernel) rfl
theorem nX6_91 : Cond.constantLong RX6 91 (12 : Int64) ∈ BG := bg_of (i := 808) (by decide +kernel) rfl
theorem nX6_93 : Cond.constantLong RX6 93 (20 : Int64) ∈ BG := bg_of (i := 809) (by decide +kernel) rfl
theorem nX6_95 : Cond.constantLong RX6 95 (22 : Int64) ∈ BG := bg_of (i := 810) (by decide +kernel) rfl
theorem lL_53 : Cond.methodLink RL 53 yX6_taken ∈ BG := bg_of (i := 811) (by decide +kernel) rfl
theorem lX6_97 : Cond.methodLink RX6 97 yX6_above ∈ BG := bg_of (i := 815) (by decide +kernel) rfl
theorem lL_57 : Cond.methodLink RL 57 yX6_jam ∈ BG := bg_of (i := 818) (by decide +kernel) rfl
theorem nX6_104 : Cond.constantLong RX6 104 (3 : Int64) ∈ BG := bg_of (i := 822) (by decide +kernel) rfl
theorem lX6_106 : Cond.methodLink RX6 106 yX6_jamOf ∈ BG := bg_of (i := 823) (by decide +kernel) rfl
theorem lX6_101 : Cond.methodLink RX6 101 yX6_why ∈ BG := bg_of (i := 827) (by decide +kernel) rfl
theorem lX6_109 : Cond.methodLink RX6 109 yJ9_max_7cf53 ∈ BG := bg_of (i := 830) (by decide +kernel) rfl
theorem lL_62 : Cond.methodLink RL 62 yX6_speed ∈ BG := bg_of (i := 831) (by decide +kernel) rfl
theorem lX6_122 : Cond.methodLink RX6 122 yX6_isLine ∈ BG := bg_of (i := 835) (by decide +kernel) rfl
theorem lX6_125 : Cond.methodLink RX6 125 yX6_speedAbove ∈ BG := bg_of (i := 838) (by decide +kernel) rfl
theorem lX6_129 : Cond.methodLink RX6 129 yX6_speedBelow ∈ BG := bg_of (i := 842) (by decide +kernel) rfl
theorem lX6_132 : Cond.methodLink RX6 132 yX6_lowest ∈ BG := bg_of (i := 846) (by decide +kernel) rfl
theorem lX6_118 : Cond.methodLink RX6 118 yX6_divisor ∈ BG := bg_of (i := 849) (by decide +kernel) rfl
theorem lX6_114 : Cond.methodLink RX6 114 yJ9_abs_067f4 ∈ BG := bg_of (i := 852) (by decide +kernel) rfl
theorem nX6_136 : Cond.constantLong RX6 136 (-9223372036854775808 : Int64) ∈ BG := bg_of (i := 853) (by decide +kernel) rfl
theorem lL_66 : Cond.methodLink RL 66 yX6_turn ∈ BG := bg_of (i := 854) (by decide +kernel) rfl
theorem nX6_155 : Cond.constantLong RX6 155 (99999 : Int64) ∈ BG := bg_of (i := 858) (by decide +kernel) rfl
theorem nX6_157 : Cond.constant RX6 157 (99999 : Int32) ∈ BG := bg_of (i := 859) (by decide +kernel) rfl
theorem lL_71 : Cond.methodLink RL 71 yX6_height ∈ BG := bg_of (i := 860) (by decide +kernel) rfl
theorem lX6_158 : Cond.methodLink RX6 158 yX6_sumAt ∈ BG := bg_of (i := 864) (by decide +kernel) rfl
theorem lX6_152 : Cond.methodLink RX6 152 yX6_heightBy ∈ BG := bg_of (i := 868) (by decide +kernel) rfl
theorem lX6_146 : Cond.methodLink RX6 146 yX6_placeOf ∈ BG := bg_of (i := 872) (by decide +kernel) rfl
theorem lX6_140 : Cond.methodLink RX6 140 yX6_wayOf ∈ BG := bg_of (i := 876) (by decide +kernel) rfl
theorem nX6_138 : Cond.constantLong RX6 138 (64 : Int64) ∈ BG := bg_of (i := 880) (by decide +kernel) rfl
theorem nX6_144 : Cond.constantLong RX6 144 (1024 : Int64) ∈ BG := bg_of (i := 881) (by decide +kernel) rfl
theorem lX6_149 : Cond.methodLink RX6 149 yX6_shapeOf ∈ BG := bg_of (i := 882) (by decide +kernel) rfl
theorem lL_76 : Cond.methodLink RL 76 yX6_heightAt ∈ BG := bg_of (i := 886) (by decide +kernel) rfl
theorem lX6_161 : Cond.methodLink RX6 161 yX6_isTick ∈ BG := bg_of (i := 890) (by decide +kernel) rfl
theorem lL_80 : Cond.methodLink RL 80 yX6_heightOf ∈ BG := bg_of (i := 893) (by decide +kernel) rfl
theorem lL_84 : Cond.methodLink RL 84 yX6_place ∈ BG := bg_of (i := 897) (by decide +kernel) rfl
theorem lL_88 : Cond.methodLink RL 88 yX6_waters ∈ BG := bg_of (i := 901) (by decide +kernel) rfl
theorem lX6_178 : Cond.methodLink RX6 178 yX6_areWaters ∈ BG := bg_of (i := 905) (by decide +kernel) rfl
theorem lX6_182 : Cond.methodLink RX6 182 yX6_looks ∈ BG := bg_of (i := 908) (by decide +kernel) rfl
theorem lX6_174 : Cond.methodLink RX6 174 yJ13_compare_74951 ∈ BG := bg_of (i := 912) (by decide +kernel) rfl
theorem lL_92 : Cond.methodLink RL 92 yX6_water ∈ BG := bg_of (i := 915) (by decide +kernel) rfl
theorem lL_96 : Cond.methodLink RL 96 yX6_tells ∈ BG := bg_of (i := 919) (by decide +kernel) rfl
theorem lX6_192 : Cond.methodLink RX6 192 yX6_isSheet ∈ BG := bg_of (i := 923) (by decide +kernel) rfl
theorem lX6_189 : Cond.methodLink RX6 189 yX6_firstOther ∈ BG := bg_of (i := 926) (by decide +kernel) rfl
theorem lX6_186 : Cond.methodLink RX6 186 yX6_itemOf ∈ BG := bg_of (i := 930) (by decide +kernel) rfl
theorem lX6_195 : Cond.methodLink RX6 195 yX6_wrongBy ∈ BG := bg_of (i := 934) (by decide +kernel) rfl
theorem lL_101 : Cond.methodLink RL 101 yX6_refound ∈ BG := bg_of (i := 938) (by decide +kernel) rfl
theorem lX6_199 : Cond.methodLink RX6 199 yX6_areHighs ∈ BG := bg_of (i := 942) (by decide +kernel) rfl
theorem lL_105 : Cond.methodLink RL 105 yX6_film ∈ BG := bg_of (i := 946) (by decide +kernel) rfl
theorem nX6_203 : Cond.constantLong RX6 203 (40 : Int64) ∈ BG := bg_of (i := 950) (by decide +kernel) rfl
theorem lX6_205 : Cond.methodLink RX6 205 yX6_sheet ∈ BG := bg_of (i := 951) (by decide +kernel) rfl
theorem nX6_305 : Cond.constantLong RX6 305 (-1 : Int64) ∈ BG := bg_of (i := 955) (by decide +kernel) rfl
theorem lL_109 : Cond.methodLink RL 109 yX6_nearest ∈ BG := bg_of (i := 956) (by decide +kernel) rfl
theorem nX6_208 : Cond.constantLong RX6 208 (9999 : Int64) ∈ BG := bg_of (i := 960) (by decide +kernel) rfl
theorem lL_114 : Cond.methodLink RL 114 yX6_off ∈ BG := bg_of (i := 961) (by decide +kernel) rfl
theorem lL_118 : Cond.methodLink RL 118 yX6_alike ∈ BG := bg_of (i := 965) (by decide +kernel) rfl
theorem lX6_213 : Cond.methodLink RX6 213 yX6_areAlike ∈ BG := bg_of (i := 969) (by decide +kernel) rfl
theorem lX6_210 : Cond.methodLink RX6 210 yX6_speed ∈ BG := bg_of (i := 973) (by decide +kernel) rfl
theorem lL_122 : Cond.methodLink RL 122 yX6_drawn ∈ BG := bg_of (i := 974) (by decide +kernel) rfl
theorem lX6_217 : Cond.methodLink RX6 217 yX6_byLot ∈ BG := bg_of (i := 978) (by decide +kernel) rfl
theorem nX6_216 : Cond.constant RX6 216 (1103515245 : Int32) ∈ BG := bg_of (i := 982) (by decide +kernel) rfl
theorem lL_126 : Cond.methodLink RL 126 yX6_chance ∈ BG := bg_of (i := 983) (by decide +kernel) rfl
theorem lL_131 : Cond.methodLink RL 131 yX6_feed ∈ BG := bg_of (i := 987) (by decide +kernel) rfl
theorem lX6_222 : Cond.methodLink RX6 222 yX6_isByte ∈ BG := bg_of (i := 991) (by decide +kernel) rfl
theorem nX6_220 : Cond.constantLong RX6 220 (255 : Int64) ∈ BG := bg_of (i := 994) (by decide +kernel) rfl
theorem lL_135 : Cond.methodLink RL 135 yX6_text ∈ BG := bg_of (i := 995) (by decide +kernel) rfl
theorem lX6_283 : Cond.methodLink RX6 283 yX6_goes ∈ BG := bg_of (i := 999) (by decide +kernel) rfl
theorem lX6_277 : Cond.methodLink RX6 277 yX6_clause ∈ BG := bg_of (i := 1003) (by decide +kernel) rfl
theorem lX6_253 : Cond.methodLink RX6 253 yX6_skips ∈ BG := bg_of (i := 1007) (by decide +kernel) rfl
theorem lX6_231 : Cond.methodLink RX6 231 yX6_byteAt ∈ BG := bg_of (i := 1011) (by decide +kernel) rfl
theorem lX6_237 : Cond.methodLink RX6 237 yX6_isLetter ∈ BG := bg_of (i := 1015) (by decide +kernel) rfl
theorem lX6_240 : Cond.methodLink RX6 240 yX6_isDigit ∈ BG := bg_of (i := 1018) (by decide +kernel) rfl
theorem lX6_256 : Cond.methodLink RX6 256 yX6_wordHere ∈ BG := bg_of (i := 1021) (by decide +kernel) rfl
theorem lX6_243 : Cond.methodLink RX6 243 yJ0_length_8abf5 ∈ BG := bg_of (i := 1025) (by decide +kernel) rfl
theorem lX6_249 : Cond.methodLink RX6 249 yJ0_charAt_5068e ∈ BG := bg_of (i := 1026) (by decide +kernel) rfl
theorem lX6_259 : Cond.methodLink RX6 259 yX6_manyOf ∈ BG := bg_of (i := 1027) (by decide +kernel) rfl
theorem lX6_262 : Cond.methodLink RX6 262 yX6_numberHere ∈ BG := bg_of (i := 1030) (by decide +kernel) rfl
theorem lX6_280 : Cond.methodLink RX6 280 yX6_isDone ∈ BG := bg_of (i := 1034) (by decide +kernel) rfl
theorem lX6_265 : Cond.methodLink RX6 265 yX6_part ∈ BG := bg_of (i := 1038) (by decide +kernel) rfl
theorem lX6_268 : Cond.methodLink RX6 268 yX6_gear ∈ BG := bg_of (i := 1039) (by decide +kernel) rfl
theorem lX6_271 : Cond.methodLink RX6 271 yX6_shaft ∈ BG := bg_of (i := 1040) (by decide +kernel) rfl
theorem lX6_274 : Cond.methodLink RX6 274 yX6_set ∈ BG := bg_of (i := 1041) (by decide +kernel) rfl
theorem lL_139 : Cond.methodLink RL 139 yX6_image ∈ BG := bg_of (i := 1042) (by decide +kernel) rfl
theorem lX6_287 : Cond.methodLink RX6 287 arraycopyName ∈ BG := bg_of (i := 1046) (by decide +kernel) rfl
theorem lL_143 : Cond.methodLink RL 143 yX6_back ∈ BG := bg_of (i := 1047) (by decide +kernel) rfl
theorem lL_147 : Cond.methodLink RL 147 yX6_load ∈ BG := bg_of (i := 1051) (by decide +kernel) rfl
theorem nX6_297 : Cond.constantLong RX6 297 (6 : Int64) ∈ BG := bg_of (i := 1055) (by decide +kernel) rfl
theorem lL_151 : Cond.methodLink RL 151 yX6_count ∈ BG := bg_of (i := 1056) (by decide +kernel) rfl
theorem lX6_299 : Cond.methodLink RX6 299 yX6_pairsOfAll ∈ BG := bg_of (i := 1060) (by decide +kernel) rfl
theorem lX6_302 : Cond.methodLink RX6 302 yX6_jammed ∈ BG := bg_of (i := 1064) (by decide +kernel) rfl
theorem lL_155 : Cond.methodLink RL 155 yX6_sheet ∈ BG := bg_of (i := 1068) (by decide +kernel) rfl
theorem lL_162 : Cond.methodLink RL 162 yX6_put ∈ BG := bg_of (i := 1069) (by decide +kernel) rfl
theorem lL_166 : Cond.methodLink RL 166 yX6_item ∈ BG := bg_of (i := 1073) (by decide +kernel) rfl
theorem lL_170 : Cond.methodLink RL 170 yX6_copy ∈ BG := bg_of (i := 1077) (by decide +kernel) rfl
theorem nL_156 : Cond.constantLong RL 156 (4294967295 : Int64) ∈ BG := bg_of (i := 1081) (by decide +kernel) rfl
theorem fJ0_9 : Cond.fieldLink RJ0 9 RJ0 "value" "[B" ∈ BG := bg_of (i := 1082) (by decide +kernel) rfl
theorem fJ0_15 : Cond.fieldLink RJ0 15 RJ0 "coder" "B" ∈ BG := bg_of (i := 1083) (by decide +kernel) rfl
def NW : List Cond := [Cond.methodLinkNest RX4 27 yX3_init RX5, Cond.methodLinkNest RX5 33 yX2_init RX5, Cond.methodLinkNest RX5 40 yX3_init RX5, Cond.methodLinkNest RX5 51 yX0_init RX5, Cond.methodLinkNest RX5 56 yX1_init RX5, Cond.methodLinkNest RX3 41 yX5_misfit RX5, Cond.methodLinkNest RX3 49 yX5_lowest RX5, Cond.fieldLinkNest RX3 38 RX5 "KIND_ABOVE" "[I" RX5, Cond.methodLinkNest RX3 53 yX5_cut RX5, Cond.methodLinkNest RX2 41 yX5_within RX5, Cond.methodLinkNest RX2 73 yX5_spellingOf RX5, Cond.methodLinkNest RX2 67 yX5_numbersOf RX5]
theorem nw_in : ∀ w ∈ NW, w ∈ lw_tbl := by
  intro w hw
  simp only [NW, List.mem_cons, List.not_mem_nil, or_false] at hw
  rcases hw with rfl | rfl | rfl | rfl | rfl | rfl | rfl | rfl | rfl | rfl | rfl | rfl
  · exact List.mem_of_getElem? (i := 69) (by decide +kernel)
  · exact List.mem_of_getElem? (i := 122) (by decide +kernel)
  · exact List.mem_of_getElem? (i := 154) (by decide +kernel)
  · exact List.mem_of_getElem? (i := 157) (by decide +kernel)
  · exact List.mem_of_getElem? (i := 171) (by decide +kernel)
  · exact List.mem_of_getElem? (i := 237) (by decide +kernel)
  · exact List.mem_of_getElem? (i := 240) (by decide +kernel)
  · exact List.mem_of_getElem? (i := 312) (by decide +kernel)
  · exact List.mem_of_getElem? (i := 353) (by decide +kernel)
  · exact List.mem_of_getElem? (i := 539) (by decide +kernel)
  · exact List.mem_of_getElem? (i := 544) (by decide +kernel)
  · exact List.mem_of_getElem? (i := 609) (by decide +kernel)
theorem lX4_27 : Cond.methodLinkNest RX4 27 yX3_init RX5 ∈ NW := List.mem_of_getElem? (i := 0) rfl
theorem lX5_33 : Cond.methodLinkNest RX5 33 yX2_init RX5 ∈ NW := List.mem_of_getElem? (i := 1) rfl
theorem lX5_40 : Cond.methodLinkNest RX5 40 yX3_init RX5 ∈ NW := List.mem_of_getElem? (i := 2) rfl
theorem lX5_51 : Cond.methodLinkNest RX5 51 yX0_init RX5 ∈ NW := List.mem_of_getElem? (i := 3) rfl
theorem lX5_56 : Cond.methodLinkNest RX5 56 yX1_init RX5 ∈ NW := List.mem_of_getElem? (i := 4) rfl
theorem lX3_41 : Cond.methodLinkNest RX3 41 yX5_misfit RX5 ∈ NW := List.mem_of_getElem? (i := 5) rfl
theorem lX3_49 : Cond.methodLinkNest RX3 49 yX5_lowest RX5 ∈ NW := List.mem_of_getElem? (i := 6) rfl
theorem fX3_38 : Cond.fieldLinkNest RX3 38 RX5 "KIND_ABOVE" "[I" RX5 ∈ NW := List.mem_of_getElem? (i := 7) rfl
theorem lX3_53 : Cond.methodLinkNest RX3 53 yX5_cut RX5 ∈ NW := List.mem_of_getElem? (i := 8) rfl
theorem lX2_41 : Cond.methodLinkNest RX2 41 yX5_within RX5 ∈ NW := List.mem_of_getElem? (i := 9) rfl
theorem lX2_73 : Cond.methodLinkNest RX2 73 yX5_spellingOf RX5 ∈ NW := List.mem_of_getElem? (i := 10) rfl
theorem lX2_67 : Cond.methodLinkNest RX2 67 yX5_numbersOf RX5 ∈ NW := List.mem_of_getElem? (i := 11) rfl
theorem bgX0 : ∀ w ∈ wsX00, w ∈ BG := by
  intro w hw
  obtain ⟨k, hk, rfl⟩ := List.mem_map.mp hw
  have hk := List.mem_range.mp hk
  rcases (show k = 0 ∨ k = 1 by omega) with rfl | rfl
  · exact bg_of (i := 164) (by decide +kernel) rfl
  · exact bg_of (i := 166) (by decide +kernel) rfl
theorem bgX1 : ∀ w ∈ wsX10, w ∈ BG := by
  intro w hw
  obtain ⟨k, hk, rfl⟩ := List.mem_map.mp hw
  have hk := List.mem_range.mp hk
  rcases (show k = 0 ∨ k = 1 ∨ k = 2 by omega) with rfl | rfl | rfl
  · exact bg_of (i := 181) (by decide +kernel) rfl
  · exact bg_of (i := 183) (by decide +kernel) rfl
  · exact bg_of (i := 185) (by decide +kernel) rfl
theorem bgX2 : ∀ w ∈ wsX20, w ∈ BG := by
  intro w hw
  obtain ⟨k, hk, rfl⟩ := List.mem_map.mp hw
  have hk := List.mem_range.mp hk
  rcases (show k = 0 ∨ k = 1 ∨ k = 2 ∨ k = 3 ∨ k = 4 ∨ k = 5 ∨ k = 6 ∨ k = 7 by omega) with rfl | rfl | rfl | rfl | rfl | rfl | rfl | rfl
  · exact bg_of (i := 136) (by decide +kernel) rfl
  · exact bg_of (i := 138) (by decide +kernel) rfl
  · exact bg_of (i := 140) (by decide +kernel) rfl
  · exact bg_of (i := 142) (by decide +kernel) rfl
  · exact bg_of (i := 144) (by decide +kernel) rfl
  · exact bg_of (i := 146) (by decide +kernel) rfl
  · exact bg_of (i := 148) (by decide +kernel) rfl
  · exact bg_of (i := 150) (by decide +kernel) rfl
theorem bgX3 : ∀ w ∈ wsX30, w ∈ BG := by
  intro w hw
  obtain ⟨k, hk, rfl⟩ := List.mem_map.mp hw
  have hk := List.mem_range.mp hk
  rcases (show k = 0 ∨ k = 1 ∨ k = 2 ∨ k = 3 ∨ k = 4 ∨ k = 5 by omega) with rfl | rfl | rfl | rfl | rfl | rfl
  · exact bg_of (i := 87) (by decide +kernel) rfl
  · exact bg_of (i := 89) (by decide +kernel) rfl
  · exact bg_of (i := 91) (by decide +kernel) rfl
  · exact bg_of (i := 93) (by decide +kernel) rfl
  · exact bg_of (i := 95) (by decide +kernel) rfl
  · exact bg_of (i := 97) (by decide +kernel) rfl
theorem bgX4 : ∀ w ∈ wsX40, w ∈ BG := by
  intro w hw
  obtain ⟨k, hk, rfl⟩ := List.mem_map.mp hw
  have hk := List.mem_range.mp hk
  rcases (show k = 0 ∨ k = 1 ∨ k = 2 ∨ k = 3 by omega) with rfl | rfl | rfl | rfl
  · exact bg_of (i := 109) (by decide +kernel) rfl
  · exact bg_of (i := 111) (by decide +kernel) rfl
  · exact bg_of (i := 113) (by decide +kernel) rfl
  · exact bg_of (i := 115) (by decide +kernel) rfl
theorem bgX5 : ∀ w ∈ wsX50, w ∈ BG := by
  intro w hw
  obtain ⟨k, hk, rfl⟩ := List.mem_map.mp hw
  have hk := List.mem_range.mp hk
  rcases (show k = 0 ∨ k = 1 ∨ k = 2 ∨ k = 3 ∨ k = 4 ∨ k = 5 ∨ k = 6 ∨ k = 7 by omega) with rfl | rfl | rfl | rfl | rfl | rfl | rfl | rfl
  · exact bg_of (i := 196) (by decide +kernel) rfl
  · exact bg_of (i := 198) (by decide +kernel) rfl
  · exact bg_of (i := 200) (by decide +kernel) rfl
  · exact bg_of (i := 202) (by decide +kernel) rfl
  · exact bg_of (i := 204) (by decide +kernel) rfl
  · exact bg_of (i := 206) (by decide +kernel) rfl
  · exact bg_of (i := 208) (by decide +kernel) rfl
  · exact bg_of (i := 210) (by decide +kernel) rfl
theorem bgX6 : ∀ w ∈ wsX60, w ∈ BG := by
  intro w hw
  obtain ⟨k, hk, rfl⟩ := List.mem_map.mp hw
  have hk := List.mem_range.mp hk
  rcases (show k = 0 ∨ k = 1 ∨ k = 2 ∨ k = 3 ∨ k = 4 ∨ k = 5 ∨ k = 6 ∨ k = 7 ∨ k = 8 ∨ k = 9 ∨ k = 10 ∨ k = 11 ∨ k = 12 ∨ k = 13 ∨ k = 14 ∨ k = 15 ∨ k = 16 ∨ k = 17 by omega) with rfl | rfl | rfl | rfl | rfl | rfl | rfl | rfl | rfl | rfl | rfl | rfl | rfl | rfl | rfl | rfl | rfl | rfl
  · exact bg_of (i := 708) (by decide +kernel) rfl
  · exact bg_of (i := 710) (by decide +kernel) rfl
  · exact bg_of (i := 712) (by decide +kernel) rfl
  · exact bg_of (i := 714) (by decide +kernel) rfl
  · exact bg_of (i := 716) (by decide +kernel) rfl
  · exact bg_of (i := 718) (by decide +kernel) rfl
  · exact bg_of (i := 720) (by decide +kernel) rfl
  · exact bg_of (i := 722) (by decide +kernel) rfl
  · exact bg_of (i := 724) (by decide +kernel) rfl
  · exact bg_of (i := 726) (by decide +kernel) rfl
  · exact bg_of (i := 728) (by decide +kernel) rfl
  · exact bg_of (i := 730) (by decide +kernel) rfl
  · exact bg_of (i := 732) (by decide +kernel) rfl
  · exact bg_of (i := 734) (by decide +kernel) rfl
  · exact bg_of (i := 736) (by decide +kernel) rfl
  · exact bg_of (i := 738) (by decide +kernel) rfl
  · exact bg_of (i := 740) (by decide +kernel) rfl
  · exact bg_of (i := 742) (by decide +kernel) rfl
end
section
/-! THE WORLD BY NUMBERS: a cell is its number (the order in which it was made); h holds the ints and longs of each cell, r the references; L what each cell is -/
abbrev aw_H : Type := (Nat → Nat → Int32) × (Nat → Nat → Int64)
abbrev aw_R : Type := Nat → Nat → Option Nat
abbrev aw_L : Type := List (Nat × Nat)
abbrev aw_G : Type := va_G × (Nat → ClassId) × (Nat → Nat) × Nat
/-- what kind of field: 0 int, 1 long, 2 reference, 3 boolean -/
def aw_tks : List (List Nat) := [[1, 0], [2, 0, 0], [2, 0, 0, 0, 0, 2, 0, 0], [2, 2, 2, 0, 1, 1], [2, 0, 0, 0], [2, 2, 3, 2, 2, 2, 2, 2], [2, 2, 3, 0, 0, 0, 2, 2, 2, 2, 2, 2, 0, 0, 0, 2, 2, 2]]
def aw_tk (ci k : Nat) : Nat := (aw_tks.getD ci []).getD k 0
def aw_ty (t : Nat) : FieldType := match t with
  | 1 => .int
  | 2 => .long
  | 3 => .object RX3
  | _ => .object RX1
def aw_tv (ad : Nat → Nat) (v : Value) : Value := match v with
  | .ref c => .ref (ad c)
  | w => w
theorem aw_tv_cat (ad : Nat → Nat) (v : Value) : (aw_tv ad v).category = v.category := by cases v <;> rfl
def aw_fv (ad : Nat → Nat) (r : aw_R) (h : aw_H) (c ci k : Nat) : Value := match aw_tk ci k with
  | 1 => .long (h.2 c k)
  | 2 => va_rf ((r c k).map ad)
  | _ => .int (h.1 c k)
def aw_cell (g : aw_G) (r : aw_R) (h : aw_H) (H : Heap) (c : Nat) (kd : Nat × Nat) : Prop := match kd.1 with
  | 0 => ∃ q : vw_C, vwCl[kd.2]? = some q ∧ t_OB (g.2.2.1 c) (g.1.1 kd.2) q.2.2 (g.1.2 kd.2) H (fun k => aw_fv g.2.2.1 r h c kd.2 k)
  | 1 => H[g.2.2.1 c]? = some (arrV (g.2.1 1) kd.2 (fun j => .int (h.1 c j)))
  | 2 => H[g.2.2.1 c]? = some (arrV (g.2.1 2) kd.2 (fun j => .long (h.2 c j)))
  | t + 3 => H[g.2.2.1 c]? = some (arrV (g.2.1 (t + 3)) kd.2 (fun j => va_rf ((r c j).map g.2.2.1)))
theorem aw_cell.to {g : aw_G} {r r' : aw_R} {h h' : aw_H} {H H' : Heap} {c : Nat} {kd : Nat × Nat} (k : aw_cell g r h H c kd) (e : H'[g.2.2.1 c]? = H[g.2.2.1 c]?) (e1 : h'.1 c = h.1 c) (e2 : h'.2 c = h.2 c) (e3 : r' c = r c) : aw_cell g r' h' H' c kd := by
  obtain ⟨t, n⟩ := kd
  match t, k with
  | 0, k =>
    obtain ⟨q, h1, h2⟩ := k
    refine ⟨q, h1, (h2.kept e).to (fun j _ => ?_)⟩
    simp only [aw_fv, e1, e2, e3]
  | 1, k =>
    show H'[g.2.2.1 c]? = _
    rw [e, e1]; exact k
  | 2, k =>
    show H'[g.2.2.1 c]? = _
    rw [e, e2]; exact k
  | t + 3, k =>
    show H'[g.2.2.1 c]? = _
    rw [e, e3]; exact k
theorem aw_cell.lt {g : aw_G} {r : aw_R} {h : aw_H} {H : Heap} {c : Nat} {kd : Nat × Nat} (k : aw_cell g r h H c kd) : g.2.2.1 c < H.size := by
  obtain ⟨t, n⟩ := kd
  match t, k with
  | 0, k =>
    obtain ⟨q, h1, cell, h2, -⟩ := k
    exact (Array.getElem?_eq_some_iff.mp h2).1
  | 1, k => exact (Array.getElem?_eq_some_iff.mp (show H[g.2.2.1 c]? = _ from k)).1
  | 2, k => exact (Array.getElem?_eq_some_iff.mp (show H[g.2.2.1 c]? = _ from k)).1
  | t + 3, k => exact (Array.getElem?_eq_some_iff.mp (show H[g.2.2.1 c]? = _ from k)).1
def aw_W (g : aw_G) (L : aw_L) (r : aw_R) (h : aw_H) (H : Heap) : Prop := H.size = g.2.2.2 + L.length ∧ ∀ (c : Nat) (kd : Nat × Nat), L[c]? = some kd → aw_cell g r h H c kd
/-- which addresses are the world's own -/
def aw_A (g : aw_G) : Nat → Prop := fun q => g.2.2.2 ≤ q
def aw_B (g : aw_G) : Prop := ∀ c : Nat, c < 1000 → g.2.2.1 c = g.2.2.2 + c
/-! the constants: Strings 1000 .., their bytes 1100 .., tables 1200 .., the formatter 1300, the script 1400 -/
def aw_so (i : Nat) : String := if i = 6 then RX6 else RX5
def aw_si (i : Nat) : Nat := [308, 309, 310, 311, 313, 315, 40].getD i 0
def aw_sx (i : Nat) : String := ["part", "gear", "shaft", "phase", "amp", "", "part gear shaft phase amp "].getD i ""
def aw_sb : List (List Int32) := [[112, 97, 114, 116], [103, 101, 97, 114], [115, 104, 97, 102, 116], [112, 104, 97, 115, 101], [97, 109, 112], [], [112, 97, 114, 116, 32, 103, 101, 97, 114, 32, 115, 104, 97, 102, 116, 32, 112, 104, 97, 115, 101, 32, 97, 109, 112, 32]]
def aw_sl : List Nat := [4, 4, 5, 5, 3, 0, 26]
def aw_ro (t j : Nat) : Int32 := (([[5, 9, 999, 1023], [0, 0, 0, 0, 1, 3], [4, 3, 1, 2, 2]] : List (List Int32)).getD t []).getD j 0
def aw_rl (t : Nat) : Nat := [4, 6, 5].getD t 0
def aw_rn (t : Nat) : String := ["MOST", "KIND_ABOVE", "NUMBERS"].getD t ""
def aw_fm : String := "SIOOBE_FORMATTER"
def aw_fd : String := "Ljava/util/function/BiFunction;"
def aw_K (g : aw_G) (U : State) : Prop :=
  (∀ (ci : Nat) (q : vw_C), vwCl[ci]? = some q → u_Kn U q.1 q.2.1 q.2.2 (g.1.1 ci) (g.1.2 ci)) ∧
  (∀ t : Nat, 1 ≤ t → t ≤ 4 → ArrOfT U (g.2.1 t) (aw_ty t) ∧ va_RA U (g.2.1 t) (aw_ty t)) ∧
  (∀ w ∈ NW, va_Nw w U) ∧ (va_AO RX3 U ∧ va_AO RX1 U) ∧ (∀ i : Nat, i < 7 → vk_R (aw_so i) (aw_si i) (aw_sx i) (g.2.2.1 (1000 + i)) U)
theorem aw_nw_case {P : Cond → Prop} {w : Cond} (hw : w ∈ NW) (h1 : ∀ a i x z, P (.methodLinkNest a i x z)) (h2 : ∀ a i b n d z, P (.fieldLinkNest a i b n d z)) : P w := by
  simp only [NW, List.mem_cons, List.not_mem_nil, or_false] at hw
  rcases hw with rfl | rfl | rfl | rfl | rfl | rfl | rfl | rfl | rfl | rfl | rfl | rfl <;> first | exact h1 _ _ _ _ | exact h2 _ _ _ _ _ _
theorem aw_K.warm {g : aw_G} {s U : State} (hW : s.WarmedH U.vm) (h : aw_K g s) : aw_K g U := by
  obtain ⟨h1, h2, h3, ⟨h4, h5⟩, h6⟩ := h
  have hal := hW.alike
  refine ⟨fun ci q hq => u_Kn_moved hal (h1 ci q hq), fun t a b => ⟨arrOfT_moved hal (h2 t a b).1, (h2 t a b).2.moved hal⟩, fun w hw => ?_, ⟨h4.moved hal, h5.moved hal⟩, fun i hi => (h6 i hi).warm hW⟩
  have hz := h3 w hw
  exact aw_nw_case (P := fun w => va_Nw w s → va_Nw w U) hw (fun a i x z hz => va_Nw.warmM hW hz) (fun a i b n d z hz => va_Nw.warmF hW hz) hz
theorem aw_K.same {g : aw_G} {u U : State} (hv : u.vm = U.vm) (h : aw_K g u) : aw_K g U := by
  obtain ⟨h1, h2, h3, ⟨h4, h5⟩, h6⟩ := h
  have hal : u.vm.Alike U.vm := by rw [← hv]; exact Vm.Alike.refl _
  refine ⟨fun ci q hq => u_Kn_moved hal (h1 ci q hq), fun t a b => ⟨arrOfT_moved hal (h2 t a b).1, (h2 t a b).2.moved hal⟩, fun w hw => ?_, ⟨h4.moved hal, h5.moved hal⟩, fun i hi => (h6 i hi).same hv.symm⟩
  have hz := h3 w hw
  exact aw_nw_case (P := fun w => va_Nw w u → va_Nw w U) hw (fun a i x z hz => va_Nw.same rfl hv hz) (fun a i b n d z hz => va_Nw.same rfl hv hz) hz
def aw_O (g : aw_G) (U : State) (H : Heap) : Prop :=
  vk_S 7 aw_sl aw_sb (fun i => g.2.2.1 (1000 + i)) (fun i => g.2.2.1 (1100 + i)) (aw_A g) U H ∧
  (∀ t : Nat, t < 3 → va_T .int (g.2.2.1 (1200 + t)) (aw_rl t) (fun j => .int (aw_ro t j)) (aw_A g) U H ∧ va_Z RX5 (aw_rn t) "[I" (.ref (g.2.2.1 (1200 + t))) (aw_A g) U H) ∧
  va_Z RJ0 "COMPACT_STRINGS" "Z" (.int 1) (aw_A g) U H ∧ (va_Z RJ3 aw_fm aw_fd .null (aw_A g) U H ∨ va_Z RJ3 aw_fm aw_fd (.ref (g.2.2.1 1300)) (aw_A g) U H)
theorem aw_O.to {g : aw_G} {u U : State} {H H' : Heap} (hvm : u.vm.Alike U.vm) (hq : ∀ a : Nat, a < H.size → ¬ aw_A g a → H'[a]? = H[a]?) (h : aw_O g u H) : aw_O g U H' := by
  obtain ⟨h1, h2, h3, h4⟩ := h
  refine ⟨vk_S.moved hvm (h1.kept hq), fun t ht => ⟨va_T.moved hvm ((h2 t ht).1.kept hq), va_Z.moved hvm ((h2 t ht).2.kept hq)⟩, va_Z.moved hvm (h3.kept hq), ?_⟩
  rcases h4 with h4 | h4
  · exact Or.inl (va_Z.moved hvm (h4.kept hq))
  · exact Or.inr (va_Z.moved hvm (h4.kept hq))
/-- a state with that world -/
def aw_S (g : aw_G) (L : aw_L) (r : aw_R) (h : aw_H) (U : State) : Prop := aw_W g L r h U.heap ∧ aw_K g U ∧ aw_O g U U.heap ∧ aw_B g ∧ L.length ≤ 1000
/-! locals by their places; a retAddr stands where nothing is known -/
def aw_j (v : Value) : Bool := match v with
  | .retAddr _ => true
  | _ => false
def aw_lv (ad : Nat → Nat) : Nat → List Value → List (Nat × Value)
  | _, [] => []
  | n, v :: t => bif aw_j v then aw_lv ad (n + 1) t else (n, aw_tv ad v) :: aw_lv ad (n + 1) t
theorem aw_lv_mem {ad : Nat → Nat} {q : Nat × Value} : ∀ {ls : List Value} {n : Nat}, q ∈ aw_lv ad n ls ↔ ∃ (j : Nat) (v : Value), q.1 = n + j ∧ ls[j]? = some v ∧ aw_j v = false ∧ q.2 = aw_tv ad v
  | [], n => by simp [aw_lv]
  | v :: t, n => by
    rw [aw_lv]
    have ih := aw_lv_mem (ad := ad) (q := q) (ls := t) (n := n + 1)
    constructor
    · intro hq
      cases hj : aw_j v with
      | true =>
        rw [hj] at hq
        obtain ⟨j, w, e1, e2, e3⟩ := ih.mp hq
        exact ⟨j + 1, w, by omega, by simpa using e2, e3⟩
      | false =>
        rw [hj] at hq
        rcases List.mem_cons.mp hq with rfl | hq
        · exact ⟨0, v, rfl, rfl, hj, rfl⟩
        · obtain ⟨j, w, e1, e2, e3⟩ := ih.mp hq
          exact ⟨j + 1, w, by omega, by simpa using e2, e3⟩
    · rintro ⟨j, w, e1, e2, e3, e4⟩
      cases j with
      | zero =>
        simp at e2
        subst e2
        rw [e3]
        exact List.mem_cons.mpr (Or.inl (Prod.ext (by simpa using e1) e4))
      | succ j =>
        have h1 : q ∈ aw_lv ad (n + 1) t := ih.mpr ⟨j, w, by omega, by simpa using e2, e3, e4⟩
        cases aw_j v with
        | true => exact h1
        | false => exact List.mem_cons.mpr (Or.inr h1)
theorem aw_ld {ad : Nat → Nat} {la : Array Slot} {nL : Nat} {ls : List Value} {i : Nat} {v w : Value} (h : lv_has la nL (aw_lv ad 0 ls)) (hi : ls[i]? = some v) (hj : aw_j v = false) (hw : aw_tv ad v = w) : la[i]? = some (.val w) :=
  h.2.2 (i, w) (aw_lv_mem.mpr ⟨i, v, by simp, hi, hj, hw.symm⟩)
/-- no value of two slots stands there -/
def aw_n2 (v : Value) : Bool := match v with
  | .long _ => false
  | .double _ => false
  | _ => true
theorem aw_n2_cat {v : Value} (h : aw_n2 v = true) : v.category ≠ 2 := by cases v <;> simp_all [aw_n2, Value.category]
def aw_p2 (ls : List Value) : Nat → Bool
  | 0 => true
  | i + 1 => match ls[i]? with
    | some v => aw_n2 v
    | none => true
theorem lv_mono {la : Array Slot} {nL : Nat} {l l' : List (Nat × Value)} (h : lv_has la nL l) (hs : ∀ q ∈ l', q ∈ l) : lv_has la nL l' := ⟨h.1, h.2.1, fun q hq => h.2.2 q (hs q hq)⟩
theorem aw_st1 {ad : Nat → Nat} {la : Array Slot} {nL i : Nat} {ls : List Value} {v w : Value} (hp : aw_p2 ls i = true) (hw : aw_tv ad v = w) (h : lv_has la nL ((i, w) :: (aw_lv ad 0 ls).filter (fun q => !(q.1 == i) && !(q.1 + 1 == i && q.2.category == 2)))) : lv_has la nL (aw_lv ad 0 (ls.set i v)) := by
  refine lv_mono h fun q hq => ?_
  obtain ⟨j, u, e1, e2, e3, e4⟩ := aw_lv_mem.mp hq
  rw [Nat.zero_add] at e1
  by_cases hji : j = i
  · subst hji
    have hlt : j < ls.length := by
      have := (List.getElem?_eq_some_iff.mp e2).1
      simpa using this
    rw [List.getElem?_set_self hlt] at e2
    cases e2
    exact List.mem_cons.mpr (Or.inl (Prod.ext e1 (e4.trans hw)))
  · rw [List.getElem?_set_ne (Ne.symm hji)] at e2
    refine List.mem_cons.mpr (Or.inr (List.mem_filter.mpr ⟨aw_lv_mem.mpr ⟨j, u, by simpa using e1, e2, e3, e4⟩, ?_⟩))
    have h1 : (q.1 == i) = false := by rw [e1]; simpa using hji
    rw [h1]
    by_cases h2 : j + 1 = i
    · subst h2
      have h3 : aw_n2 u = true := by simpa [aw_p2, e2] using hp
      have h4 : q.2.category ≠ 2 := by rw [e4, aw_tv_cat]; exact aw_n2_cat h3
      simp [h4]
    · have h5 : ¬ q.1 + 1 = i := by rw [e1]; exact h2
      simp [h5]
theorem aw_st2 {ad : Nat → Nat} {la : Array Slot} {nL i z : Nat} {ls : List Value} {v w : Value} (hp : aw_p2 ls i = true) (hw : aw_tv ad v = w) (h : lv_has la nL ((i, w) :: (aw_lv ad 0 ls).filter (fun q => !(q.1 == i) && (!(q.1 == i + 1) && !(q.1 + 1 == i && q.2.category == 2))))) : lv_has la nL (aw_lv ad 0 ((ls.set i v).set (i + 1) (.retAddr z))) := by
  refine lv_mono h fun q hq => ?_
  obtain ⟨j, u, e1, e2, e3, e4⟩ := aw_lv_mem.mp hq
  rw [Nat.zero_add] at e1
  by_cases hj1 : j = i + 1
  · subst hj1
    have hlt : i + 1 < (ls.set i v).length := by
      have := (List.getElem?_eq_some_iff.mp e2).1
      simpa using this
    rw [List.getElem?_set_self hlt] at e2
    cases e2
    cases e3
  · rw [List.getElem?_set_ne (Ne.symm hj1)] at e2
    by_cases hji : j = i
    · subst hji
      have hlt : j < ls.length := by
        have := (List.getElem?_eq_some_iff.mp e2).1
        simpa using this
      rw [List.getElem?_set_self hlt] at e2
      cases e2
      exact List.mem_cons.mpr (Or.inl (Prod.ext e1 (e4.trans hw)))
    · rw [List.getElem?_set_ne (Ne.symm hji)] at e2
      refine List.mem_cons.mpr (Or.inr (List.mem_filter.mpr ⟨aw_lv_mem.mpr ⟨j, u, by simpa using e1, e2, e3, e4⟩, ?_⟩))
      have h1 : (q.1 == i) = false := by rw [e1]; simpa using hji
      have h6 : (q.1 == i + 1) = false := by rw [e1]; simpa using hj1
      rw [h1, h6]
      by_cases h2 : j + 1 = i
      · subst h2
        have h3 : aw_n2 u = true := by simpa [aw_p2, e2] using hp
        have h4 : q.2.category ≠ 2 := by rw [e4, aw_tv_cat]; exact aw_n2_cat h3
        simp [h4]
      · have h5 : ¬ q.1 + 1 = i := by rw [e1]; exact h2
        simp [h5]
/-- the locals at a method's start: its arguments, each at its place; the rest unknown -/
def aw_al : List Value → List Value
  | [] => []
  | v :: t => bif aw_n2 v then v :: aw_al t else v :: .retAddr 0 :: aw_al t
theorem aw_al_mem {ad : Nat → Nat} {N : Nat} {q : Nat × Value} : ∀ {as : List Value} {n : Nat}, q ∈ aw_lv ad n (aw_al as ++ List.replicate N (.retAddr 0)) → q ∈ lv_args n (as.map (aw_tv ad))
  | [], n, hq => by
    obtain ⟨j, v, e1, e2, e3, e4⟩ := aw_lv_mem.mp hq
    have hm := List.mem_of_getElem? e2
    rw [aw_al, List.nil_append] at hm
    rw [(List.mem_replicate.mp hm).2] at e3
    cases e3
  | v :: t, n, hq => by
    rw [List.map_cons, lv_args]
    rw [aw_al] at hq
    cases hv : aw_n2 v with
    | true =>
      rw [hv] at hq
      have hc : ¬ (aw_tv ad v).category = 2 := by rw [aw_tv_cat]; exact aw_n2_cat hv
      rw [if_neg hc]
      have hq' : q ∈ (bif aw_j v then aw_lv ad (n + 1) (aw_al t ++ List.replicate N (.retAddr 0)) else (n, aw_tv ad v) :: aw_lv ad (n + 1) (aw_al t ++ List.replicate N (.retAddr 0))) := hq
      cases hj : aw_j v with
      | true =>
        rw [hj] at hq'
        exact List.mem_cons.mpr (Or.inr (aw_al_mem hq'))
      | false =>
        rw [hj] at hq'
        rcases List.mem_cons.mp hq' with rfl | hq'
        · exact List.mem_cons_self
        · exact List.mem_cons.mpr (Or.inr (aw_al_mem hq'))
    | false =>
      rw [hv] at hq
      have hc : (aw_tv ad v).category = 2 := by
        rw [aw_tv_cat]
        cases v <;> simp_all [aw_n2, Value.category]
      rw [if_pos hc]
      have hj : aw_j v = false := by cases v <;> simp_all [aw_n2, aw_j]
      have hq' : q ∈ (bif aw_j v then aw_lv ad (n + 1) (.retAddr 0 :: aw_al t ++ List.replicate N (.retAddr 0)) else (n, aw_tv ad v) :: aw_lv ad (n + 1) (.retAddr 0 :: aw_al t ++ List.replicate N (.retAddr 0))) := hq
      rw [hj] at hq'
      rcases List.mem_cons.mp hq' with rfl | hq'
      · exact List.mem_cons_self
      · exact List.mem_cons.mpr (Or.inr (aw_al_mem (show q ∈ aw_lv ad (n + 2) _ from hq')))
end
section
/-! THE JUDGEMENT: from this frame, with these locals and stack, over this world, the machine comes to the goal. X: what stays the same in a method's run -/
abbrev aw_X : Type := Program × Launch × Env × Room × State × MethodId × Array Value × List Frame × Method × Code × (State → Prop) × aw_G
abbrev xp (X : aw_X) : Program := X.1
abbrev xl (X : aw_X) : Launch := X.2.1
abbrev xe (X : aw_X) : Env := X.2.2.1
abbrev xR (X : aw_X) : Room := X.2.2.2.1
abbrev xs (X : aw_X) : State := X.2.2.2.2.1
abbrev xm (X : aw_X) : MethodId := X.2.2.2.2.2.1
abbrev xa (X : aw_X) : Array Value := X.2.2.2.2.2.2.1
abbrev xb (X : aw_X) : List Frame := X.2.2.2.2.2.2.2.1
abbrev xt (X : aw_X) : Method := X.2.2.2.2.2.2.2.2.1
abbrev xc (X : aw_X) : Code := X.2.2.2.2.2.2.2.2.2.1
abbrev xQ (X : aw_X) : State → Prop := X.2.2.2.2.2.2.2.2.2.2.1
abbrev xg (X : aw_X) : aw_G := X.2.2.2.2.2.2.2.2.2.2.2
abbrev xd (X : aw_X) : Nat → Nat := (xg X).2.2.1
def AW (X : aw_X) (nL pc : Nat) (ls st : List Value) (L : aw_L) (r : aw_R) (h : aw_H) (ca sa : Nat) : Prop :=
  ∀ (H : Heap) (locs : List Loc) (la : Array Slot), aw_W (xg X) L r h H → L.length ≤ 1000 → va_S (aw_A (xg X)) (xs X).heap H locs → lv_has la nL (aw_lv (xd X) 0 ls) →
    W (xp X) (xl X) (xe X) (xR X) (xs X) (xm X) (xa X) (xb X) (xt X) (xc X) H locs ca sa (xQ X) (F0 (xm X) pc la (st.map (aw_tv (xd X))))
/-- what a row needs of the method's run: D frames of room, mc cells of ms slots at most -/
def aw_C (X : aw_X) (own : String) (cc : ByteArray) (nL D mc ms : Nat) : Prop :=
  (xp X).tables.exec = Jvm.exec ∧ (xc X).code = cc ∧ (xc X).maxLocals = nL ∧ (xs X).vm.findClass own = some (xm X).cls ∧ (∀ w ∈ BG, w.before (xa X) (xs X) = true) ∧ (xt X).locks = false ∧
  ((xg X).2.2.2 ≤ (xs X).heap.size ∧ aw_K (xg X) (xs X) ∧ aw_O (xg X) (xs X) (xs X).heap ∧ aw_B (xg X)) ∧ (D ≤ (xR X).frames ∧ 39 * D ≤ (xR X).locals ∧ (xR X).cells = mc ∧ (xR X).slots = ms)
section AWR
variable {X : aw_X} {own : String} {cc : ByteArray} {nL D mc ms pc : Nat} {ls st : List Value} {L : aw_L} {r : aw_R} {h : aw_H} {ca sa : Nat}
theorem aw_C.x (C : aw_C X own cc nL D mc ms) : (xp X).tables.exec = Jvm.exec := C.1
theorem aw_C.b (C : aw_C X own cc nL D mc ms) : (xc X).code = cc := C.2.1
theorem aw_C.l (C : aw_C X own cc nL D mc ms) : (xc X).maxLocals = nL := C.2.2.1
theorem aw_C.o (C : aw_C X own cc nL D mc ms) : (xs X).vm.findClass own = some (xm X).cls := C.2.2.2.1
theorem aw_C.w (C : aw_C X own cc nL D mc ms) : ∀ w ∈ BG, w.before (xa X) (xs X) = true := C.2.2.2.2.1
theorem aw_C.k (C : aw_C X own cc nL D mc ms) : aw_K (xg X) (xs X) := C.2.2.2.2.2.2.1.2.1
theorem aw_C.c (C : aw_C X own cc nL D mc ms) : aw_O (xg X) (xs X) (xs X).heap := C.2.2.2.2.2.2.1.2.2.1
theorem aw_C.d (C : aw_C X own cc nL D mc ms) : aw_B (xg X) := C.2.2.2.2.2.2.1.2.2.2
theorem aw_C.z (C : aw_C X own cc nL D mc ms) : (xg X).2.2.2 ≤ (xs X).heap.size := C.2.2.2.2.2.2.1.1
theorem aw_iconst {n : Int} {v : Int32} (C : aw_C X own cc nL D mc ms) (hd : decode cc pc = .ok (.iconst n, 1)) (hv : Int32.ofInt n = v) (k : AW X nL (pc + 1) ls (.int v :: st) L r h ca sa) : AW X nL pc ls (st) L r h ca sa := fun H locs la hW hn hS hL => lv_iconst C.x C.b hd hv (k H locs la hW hn hS hL)
theorem aw_bipush {n : Int} {v : Int32} (C : aw_C X own cc nL D mc ms) (hd : decode cc pc = .ok (.bipush n, 2)) (hv : (Int8.ofInt n).toInt32 = v) (k : AW X nL (pc + 2) ls (.int v :: st) L r h ca sa) : AW X nL pc ls (st) L r h ca sa := fun H locs la hW hn hS hL => lv_bipush C.x C.b hd hv (k H locs la hW hn hS hL)
theorem aw_sipush {n : Int} {v : Int32} (C : aw_C X own cc nL D mc ms) (hd : decode cc pc = .ok (.sipush n, 3)) (hv : (Int16.ofInt n).toInt32 = v) (k : AW X nL (pc + 3) ls (.int v :: st) L r h ca sa) : AW X nL pc ls (st) L r h ca sa := fun H locs la hW hn hS hL => lv_sipush C.x C.b hd hv (k H locs la hW hn hS hL)
theorem aw_lconst {n : Fin 2} {v : Int64} (C : aw_C X own cc nL D mc ms) (hd : decode cc pc = .ok (.lconst n, 1)) (hv : Int64.ofNat (n : Nat) = v) (k : AW X nL (pc + 1) ls (.long v :: st) L r h ca sa) : AW X nL pc ls (st) L r h ca sa := fun H locs la hW hn hS hL => lv_lconst C.x C.b hd hv (k H locs la hW hn hS hL)
theorem aw_iadd {x y : Int32} (C : aw_C X own cc nL D mc ms) (hd : decode cc pc = .ok (.iadd, 1))  (k : AW X nL (pc + 1) ls (.int (x + y) :: st) L r h ca sa) : AW X nL pc ls (.int y :: .int x :: st) L r h ca sa := fun H locs la hW hn hS hL => lv_iadd C.x C.b hd  (k H locs la hW hn hS hL)
theorem aw_isub {x y : Int32} (C : aw_C X own cc nL D mc ms) (hd : decode cc pc = .ok (.isub, 1))  (k : AW X nL (pc + 1) ls (.int (x - y) :: st) L r h ca sa) : AW X nL pc ls (.int y :: .int x :: st) L r h ca sa := fun H locs la hW hn hS hL => lv_isub C.x C.b hd  (k H locs la hW hn hS hL)
theorem aw_imul {x y : Int32} (C : aw_C X own cc nL D mc ms) (hd : decode cc pc = .ok (.imul, 1))  (k : AW X nL (pc + 1) ls (.int (x * y) :: st) L r h ca sa) : AW X nL pc ls (.int y :: .int x :: st) L r h ca sa := fun H locs la hW hn hS hL => lv_imul C.x C.b hd  (k H locs la hW hn hS hL)
theorem aw_iand {x y : Int32} (C : aw_C X own cc nL D mc ms) (hd : decode cc pc = .ok (.iand, 1))  (k : AW X nL (pc + 1) ls (.int (x &&& y) :: st) L r h ca sa) : AW X nL pc ls (.int y :: .int x :: st) L r h ca sa := fun H locs la hW hn hS hL => lv_iand C.x C.b hd  (k H locs la hW hn hS hL)
theorem aw_ior {x y : Int32} (C : aw_C X own cc nL D mc ms) (hd : decode cc pc = .ok (.ior, 1))  (k : AW X nL (pc + 1) ls (.int (x ||| y) :: st) L r h ca sa) : AW X nL pc ls (.int y :: .int x :: st) L r h ca sa := fun H locs la hW hn hS hL => lv_ior C.x C.b hd  (k H locs la hW hn hS hL)
theorem aw_ladd {x y : Int64} (C : aw_C X own cc nL D mc ms) (hd : decode cc pc = .ok (.ladd, 1))  (k : AW X nL (pc + 1) ls (.long (x + y) :: st) L r h ca sa) : AW X nL pc ls (.long y :: .long x :: st) L r h ca sa := fun H locs la hW hn hS hL => lv_ladd C.x C.b hd  (k H locs la hW hn hS hL)
theorem aw_lsub {x y : Int64} (C : aw_C X own cc nL D mc ms) (hd : decode cc pc = .ok (.lsub, 1))  (k : AW X nL (pc + 1) ls (.long (x - y) :: st) L r h ca sa) : AW X nL pc ls (.long y :: .long x :: st) L r h ca sa := fun H locs la hW hn hS hL => lv_lsub C.x C.b hd  (k H locs la hW hn hS hL)
theorem aw_lmul {x y : Int64} (C : aw_C X own cc nL D mc ms) (hd : decode cc pc = .ok (.lmul, 1))  (k : AW X nL (pc + 1) ls (.long (x * y) :: st) L r h ca sa) : AW X nL pc ls (.long y :: .long x :: st) L r h ca sa := fun H locs la hW hn hS hL => lv_lmul C.x C.b hd  (k H locs la hW hn hS hL)
theorem aw_land {x y : Int64} (C : aw_C X own cc nL D mc ms) (hd : decode cc pc = .ok (.land, 1))  (k : AW X nL (pc + 1) ls (.long (x &&& y) :: st) L r h ca sa) : AW X nL pc ls (.long y :: .long x :: st) L r h ca sa := fun H locs la hW hn hS hL => lv_land C.x C.b hd  (k H locs la hW hn hS hL)
theorem aw_lor {x y : Int64} (C : aw_C X own cc nL D mc ms) (hd : decode cc pc = .ok (.lor, 1))  (k : AW X nL (pc + 1) ls (.long (x ||| y) :: st) L r h ca sa) : AW X nL pc ls (.long y :: .long x :: st) L r h ca sa := fun H locs la hW hn hS hL => lv_lor C.x C.b hd  (k H locs la hW hn hS hL)
theorem aw_idiv {x y : Int32} (C : aw_C X own cc nL D mc ms) (hd : decode cc pc = .ok (.idiv, 1)) (hne : ¬ y = 0) (k : AW X nL (pc + 1) ls (.int (x / y) :: st) L r h ca sa) : AW X nL pc ls (.int y :: .int x :: st) L r h ca sa := fun H locs la hW hn hS hL => lv_idiv C.x C.b hd hne (k H locs la hW hn hS hL)
theorem aw_irem {x y : Int32} (C : aw_C X own cc nL D mc ms) (hd : decode cc pc = .ok (.irem, 1)) (hne : ¬ y = 0) (k : AW X nL (pc + 1) ls (.int (x - x / y * y) :: st) L r h ca sa) : AW X nL pc ls (.int y :: .int x :: st) L r h ca sa := fun H locs la hW hn hS hL => lv_irem C.x C.b hd hne (k H locs la hW hn hS hL)
theorem aw_ldiv {x y : Int64} (C : aw_C X own cc nL D mc ms) (hd : decode cc pc = .ok (.ldiv, 1)) (hne : ¬ y = 0) (k : AW X nL (pc + 1) ls (.long (x / y) :: st) L r h ca sa) : AW X nL pc ls (.long y :: .long x :: st) L r h ca sa := fun H locs la hW hn hS hL => lv_ldiv C.x C.b hd hne (k H locs la hW hn hS hL)
theorem aw_lrem {x y : Int64} (C : aw_C X own cc nL D mc ms) (hd : decode cc pc = .ok (.lrem, 1)) (hne : ¬ y = 0) (k : AW X nL (pc + 1) ls (.long (x - x / y * y) :: st) L r h ca sa) : AW X nL pc ls (.long y :: .long x :: st) L r h ca sa := fun H locs la hW hn hS hL => lv_lrem C.x C.b hd hne (k H locs la hW hn hS hL)
theorem aw_ineg {x : Int32} (C : aw_C X own cc nL D mc ms) (hd : decode cc pc = .ok (.ineg, 1))  (k : AW X nL (pc + 1) ls (.int (-x) :: st) L r h ca sa) : AW X nL pc ls (.int x :: st) L r h ca sa := fun H locs la hW hn hS hL => lv_ineg C.x C.b hd  (k H locs la hW hn hS hL)
theorem aw_ishl {x y : Int32} (C : aw_C X own cc nL D mc ms) (hd : decode cc pc = .ok (.ishl, 1))  (k : AW X nL (pc + 1) ls (.int (x <<< (y &&& 31)) :: st) L r h ca sa) : AW X nL pc ls (.int y :: .int x :: st) L r h ca sa := fun H locs la hW hn hS hL => lv_ishl C.x C.b hd  (k H locs la hW hn hS hL)
theorem aw_ishr {x y : Int32} (C : aw_C X own cc nL D mc ms) (hd : decode cc pc = .ok (.ishr, 1))  (k : AW X nL (pc + 1) ls (.int (x >>> (y &&& 31)) :: st) L r h ca sa) : AW X nL pc ls (.int y :: .int x :: st) L r h ca sa := fun H locs la hW hn hS hL => lv_ishr C.x C.b hd  (k H locs la hW hn hS hL)
theorem aw_iushr {x y v : Int32} (C : aw_C X own cc nL D mc ms) (hd : decode cc pc = .ok (.iushr, 1)) (hv : (x.toUInt32 >>> (y.toUInt32 &&& Int32.toUInt32 31)).toInt32 = v) (k : AW X nL (pc + 1) ls (.int v :: st) L r h ca sa) : AW X nL pc ls (.int y :: .int x :: st) L r h ca sa := fun H locs la hW hn hS hL => lv_iushr C.x C.b hd hv (k H locs la hW hn hS hL)
theorem aw_lshl {x v : Int64} {y : Int32} (C : aw_C X own cc nL D mc ms) (hd : decode cc pc = .ok (.lshl, 1)) (hv : x <<< (y.toInt64 &&& 63) = v) (k : AW X nL (pc + 1) ls (.long v :: st) L r h ca sa) : AW X nL pc ls (.int y :: .long x :: st) L r h ca sa := fun H locs la hW hn hS hL => lv_lshl C.x C.b hd hv (k H locs la hW hn hS hL)
theorem aw_i2l {x : Int32} (C : aw_C X own cc nL D mc ms) (hd : decode cc pc = .ok (.i2l, 1))  (k : AW X nL (pc + 1) ls (.long x.toInt64 :: st) L r h ca sa) : AW X nL pc ls (.int x :: st) L r h ca sa := fun H locs la hW hn hS hL => lv_i2l C.x C.b hd rfl (k H locs la hW hn hS hL)
theorem aw_l2i {x : Int64} (C : aw_C X own cc nL D mc ms) (hd : decode cc pc = .ok (.l2i, 1))  (k : AW X nL (pc + 1) ls (.int x.toInt32 :: st) L r h ca sa) : AW X nL pc ls (.long x :: st) L r h ca sa := fun H locs la hW hn hS hL => lv_l2i C.x C.b hd rfl (k H locs la hW hn hS hL)
theorem aw_i2c {x v : Int32} (C : aw_C X own cc nL D mc ms) (hd : decode cc pc = .ok (.i2c, 1)) (hv : (x.toUInt32 % 65536).toInt32 = v) (k : AW X nL (pc + 1) ls (.int v :: st) L r h ca sa) : AW X nL pc ls (.int x :: st) L r h ca sa := fun H locs la hW hn hS hL => lv_i2c C.x C.b hd hv (k H locs la hW hn hS hL)
theorem aw_lcmp {x y : Int64} (C : aw_C X own cc nL D mc ms) (hd : decode cc pc = .ok (.lcmp, 1))  (k : AW X nL (pc + 1) ls (.int (lg_cmp x y) :: st) L r h ca sa) : AW X nL pc ls (.long y :: .long x :: st) L r h ca sa := fun H locs la hW hn hS hL => W.lcmp C.x C.b hd  (k H locs la hW hn hS hL)
theorem aw_null  (C : aw_C X own cc nL D mc ms) (hd : decode cc pc = .ok (.aconst_null, 1))  (k : AW X nL (pc + 1) ls (.null :: st) L r h ca sa) : AW X nL pc ls (st) L r h ca sa := fun H locs la hW hn hS hL => lv_null C.x C.b hd  (k H locs la hW hn hS hL)
theorem aw_dup {v : Value} (C : aw_C X own cc nL D mc ms) (hd : decode cc pc = .ok (.dup, 1)) (hv : aw_n2 v = true) (k : AW X nL (pc + 1) ls (v :: v :: st) L r h ca sa) : AW X nL pc ls (v :: st) L r h ca sa := fun H locs la hW hn hS hL => lv_dup C.x C.b hd (by rw [aw_tv_cat]; cases v <;> first | rfl | cases hv) (k H locs la hW hn hS hL)
theorem aw_pop {v : Value} (C : aw_C X own cc nL D mc ms) (hd : decode cc pc = .ok (.pop, 1)) (hv : aw_n2 v = true) (k : AW X nL (pc + 1) ls st L r h ca sa) : AW X nL pc ls (v :: st) L r h ca sa := fun H locs la hW hn hS hL => lv_pop C.x C.b hd (by rw [aw_tv_cat]; cases v <;> first | rfl | cases hv) (k H locs la hW hn hS hL)
theorem aw_dup2 {v u : Value} (C : aw_C X own cc nL D mc ms) (hd : decode cc pc = .ok (.dup2, 1)) (hv : aw_n2 v = true) (hu : aw_n2 u = true) (k : AW X nL (pc + 1) ls (v :: u :: v :: u :: st) L r h ca sa) : AW X nL pc ls (v :: u :: st) L r h ca sa := fun H locs la hW hn hS hL => lv_dup2_11 C.x C.b hd (by rw [aw_tv_cat]; cases v <;> first | rfl | cases hv) (by rw [aw_tv_cat]; cases u <;> first | rfl | cases hu) (k H locs la hW hn hS hL)
theorem aw_ldc {ix : Nat} {v : Int32} (C : aw_C X own cc nL D mc ms) (hd : decode cc pc = .ok (.ldc ix, 2)) (hc : Cond.constant own ix v ∈ BG) (k : AW X nL (pc + 2) ls (.int v :: st) L r h ca sa) : AW X nL pc ls st L r h ca sa := fun H locs la hW hn hS hL => lv_ldc C.x C.b C.o (C.w _ hc) hd (k H locs la hW hn hS hL)
theorem aw_ldcw {ix : Nat} {v : Int32} (C : aw_C X own cc nL D mc ms) (hd : decode cc pc = .ok (.ldc_w ix, 3)) (hc : Cond.constant own ix v ∈ BG) (k : AW X nL (pc + 3) ls (.int v :: st) L r h ca sa) : AW X nL pc ls st L r h ca sa := fun H locs la hW hn hS hL => lv_ldcw C.x C.b C.o (C.w _ hc) hd (k H locs la hW hn hS hL)
theorem aw_ldc2 {ix : Nat} {v : Int64} (C : aw_C X own cc nL D mc ms) (hd : decode cc pc = .ok (.ldc2_w ix, 3)) (hc : Cond.constantLong own ix v ∈ BG) (k : AW X nL (pc + 3) ls (.long v :: st) L r h ca sa) : AW X nL pc ls st L r h ca sa := fun H locs la hW hn hS hL => lv_ldc2 C.x C.b C.o (C.w _ hc) hd (k H locs la hW hn hS hL)
theorem aw_if_eq {x : Int32} {off : Int} {tgt : Nat} (C : aw_C X own cc nL D mc ms) (hd : decode cc pc = .ok (.ifCond .eq off, 3)) (ht : (pc : Int) + off = (tgt : Int)) (kt : x = 0 → AW X nL tgt ls st L r h ca sa) (kf : ¬ x = 0 → AW X nL (pc + 3) ls st L r h ca sa) : AW X nL pc ls (.int x :: st) L r h ca sa := fun H locs la hW hn hS hL => lv_if_eq C.x C.b hd ht (fun q => kt q H locs la hW hn hS hL) (fun q => kf q H locs la hW hn hS hL)
theorem aw_icmp_eq {x y : Int32} {off : Int} {tgt : Nat} (C : aw_C X own cc nL D mc ms) (hd : decode cc pc = .ok (.if_icmp .eq off, 3)) (ht : (pc : Int) + off = (tgt : Int)) (kt : x = y → AW X nL tgt ls st L r h ca sa) (kf : ¬ x = y → AW X nL (pc + 3) ls st L r h ca sa) : AW X nL pc ls (.int y :: .int x :: st) L r h ca sa := fun H locs la hW hn hS hL => lv_icmp_eq C.x C.b hd ht (fun q => kt q H locs la hW hn hS hL) (fun q => kf q H locs la hW hn hS hL)
theorem aw_if_ne {x : Int32} {off : Int} {tgt : Nat} (C : aw_C X own cc nL D mc ms) (hd : decode cc pc = .ok (.ifCond .ne off, 3)) (ht : (pc : Int) + off = (tgt : Int)) (kt : ¬ x = 0 → AW X nL tgt ls st L r h ca sa) (kf : x = 0 → AW X nL (pc + 3) ls st L r h ca sa) : AW X nL pc ls (.int x :: st) L r h ca sa := fun H locs la hW hn hS hL => lv_if_ne C.x C.b hd ht (fun q => kt q H locs la hW hn hS hL) (fun q => kf q H locs la hW hn hS hL)
theorem aw_icmp_ne {x y : Int32} {off : Int} {tgt : Nat} (C : aw_C X own cc nL D mc ms) (hd : decode cc pc = .ok (.if_icmp .ne off, 3)) (ht : (pc : Int) + off = (tgt : Int)) (kt : ¬ x = y → AW X nL tgt ls st L r h ca sa) (kf : x = y → AW X nL (pc + 3) ls st L r h ca sa) : AW X nL pc ls (.int y :: .int x :: st) L r h ca sa := fun H locs la hW hn hS hL => lv_icmp_ne C.x C.b hd ht (fun q => kt q H locs la hW hn hS hL) (fun q => kf q H locs la hW hn hS hL)
theorem aw_if_lt {x : Int32} {off : Int} {tgt : Nat} (C : aw_C X own cc nL D mc ms) (hd : decode cc pc = .ok (.ifCond .lt off, 3)) (ht : (pc : Int) + off = (tgt : Int)) (kt : x < 0 → AW X nL tgt ls st L r h ca sa) (kf : ¬ x < 0 → AW X nL (pc + 3) ls st L r h ca sa) : AW X nL pc ls (.int x :: st) L r h ca sa := fun H locs la hW hn hS hL => lv_if_lt C.x C.b hd ht (fun q => kt q H locs la hW hn hS hL) (fun q => kf q H locs la hW hn hS hL)
theorem aw_icmp_lt {x y : Int32} {off : Int} {tgt : Nat} (C : aw_C X own cc nL D mc ms) (hd : decode cc pc = .ok (.if_icmp .lt off, 3)) (ht : (pc : Int) + off = (tgt : Int)) (kt : x < y → AW X nL tgt ls st L r h ca sa) (kf : ¬ x < y → AW X nL (pc + 3) ls st L r h ca sa) : AW X nL pc ls (.int y :: .int x :: st) L r h ca sa := fun H locs la hW hn hS hL => lv_icmp_lt C.x C.b hd ht (fun q => kt q H locs la hW hn hS hL) (fun q => kf q H locs la hW hn hS hL)
theorem aw_if_ge {x : Int32} {off : Int} {tgt : Nat} (C : aw_C X own cc nL D mc ms) (hd : decode cc pc = .ok (.ifCond .ge off, 3)) (ht : (pc : Int) + off = (tgt : Int)) (kt : 0 ≤ x → AW X nL tgt ls st L r h ca sa) (kf : ¬ 0 ≤ x → AW X nL (pc + 3) ls st L r h ca sa) : AW X nL pc ls (.int x :: st) L r h ca sa := fun H locs la hW hn hS hL => lv_if_ge C.x C.b hd ht (fun q => kt q H locs la hW hn hS hL) (fun q => kf q H locs la hW hn hS hL)
theorem aw_icmp_ge {x y : Int32} {off : Int} {tgt : Nat} (C : aw_C X own cc nL D mc ms) (hd : decode cc pc = .ok (.if_icmp .ge off, 3)) (ht : (pc : Int) + off = (tgt : Int)) (kt : y ≤ x → AW X nL tgt ls st L r h ca sa) (kf : ¬ y ≤ x → AW X nL (pc + 3) ls st L r h ca sa) : AW X nL pc ls (.int y :: .int x :: st) L r h ca sa := fun H locs la hW hn hS hL => lv_icmp_ge C.x C.b hd ht (fun q => kt q H locs la hW hn hS hL) (fun q => kf q H locs la hW hn hS hL)
theorem aw_if_gt {x : Int32} {off : Int} {tgt : Nat} (C : aw_C X own cc nL D mc ms) (hd : decode cc pc = .ok (.ifCond .gt off, 3)) (ht : (pc : Int) + off = (tgt : Int)) (kt : 0 < x → AW X nL tgt ls st L r h ca sa) (kf : ¬ 0 < x → AW X nL (pc + 3) ls st L r h ca sa) : AW X nL pc ls (.int x :: st) L r h ca sa := fun H locs la hW hn hS hL => lv_if_gt C.x C.b hd ht (fun q => kt q H locs la hW hn hS hL) (fun q => kf q H locs la hW hn hS hL)
theorem aw_icmp_gt {x y : Int32} {off : Int} {tgt : Nat} (C : aw_C X own cc nL D mc ms) (hd : decode cc pc = .ok (.if_icmp .gt off, 3)) (ht : (pc : Int) + off = (tgt : Int)) (kt : y < x → AW X nL tgt ls st L r h ca sa) (kf : ¬ y < x → AW X nL (pc + 3) ls st L r h ca sa) : AW X nL pc ls (.int y :: .int x :: st) L r h ca sa := fun H locs la hW hn hS hL => lv_icmp_gt C.x C.b hd ht (fun q => kt q H locs la hW hn hS hL) (fun q => kf q H locs la hW hn hS hL)
theorem aw_if_le {x : Int32} {off : Int} {tgt : Nat} (C : aw_C X own cc nL D mc ms) (hd : decode cc pc = .ok (.ifCond .le off, 3)) (ht : (pc : Int) + off = (tgt : Int)) (kt : x ≤ 0 → AW X nL tgt ls st L r h ca sa) (kf : ¬ x ≤ 0 → AW X nL (pc + 3) ls st L r h ca sa) : AW X nL pc ls (.int x :: st) L r h ca sa := fun H locs la hW hn hS hL => lv_if_le C.x C.b hd ht (fun q => kt q H locs la hW hn hS hL) (fun q => kf q H locs la hW hn hS hL)
theorem aw_icmp_le {x y : Int32} {off : Int} {tgt : Nat} (C : aw_C X own cc nL D mc ms) (hd : decode cc pc = .ok (.if_icmp .le off, 3)) (ht : (pc : Int) + off = (tgt : Int)) (kt : x ≤ y → AW X nL tgt ls st L r h ca sa) (kf : ¬ x ≤ y → AW X nL (pc + 3) ls st L r h ca sa) : AW X nL pc ls (.int y :: .int x :: st) L r h ca sa := fun H locs la hW hn hS hL => lv_icmp_le C.x C.b hd ht (fun q => kt q H locs la hW hn hS hL) (fun q => kf q H locs la hW hn hS hL)
theorem aw_goto {off : Int} {tgt : Nat} (C : aw_C X own cc nL D mc ms) (hd : decode cc pc = .ok (.goto off, 3)) (ht : (pc : Int) + off = (tgt : Int)) (k : AW X nL tgt ls st L r h ca sa) : AW X nL pc ls st L r h ca sa := fun H locs la hW hn hS hL => lv_goto C.x C.b hd ht (k H locs la hW hn hS hL)
theorem aw_ifnullR {c : Nat} {off : Int} (C : aw_C X own cc nL D mc ms) (hd : decode cc pc = .ok (.ifnull off, 3)) (k : AW X nL (pc + 3) ls st L r h ca sa) : AW X nL pc ls (.ref c :: st) L r h ca sa := fun H locs la hW hn hS hL => lv_ifnull C.x C.b hd (k H locs la hW hn hS hL)
theorem aw_ifnullN {off : Int} {tgt : Nat} (C : aw_C X own cc nL D mc ms) (hd : decode cc pc = .ok (.ifnull off, 3)) (ht : (pc : Int) + off = (tgt : Int)) (k : AW X nL tgt ls st L r h ca sa) : AW X nL pc ls (.null :: st) L r h ca sa := fun H locs la hW hn hS hL => lv_ifnullN C.x C.b hd ht (k H locs la hW hn hS hL)
theorem aw_ifnonnullR {c : Nat} {off : Int} {tgt : Nat} (C : aw_C X own cc nL D mc ms) (hd : decode cc pc = .ok (.ifnonnull off, 3)) (ht : (pc : Int) + off = (tgt : Int)) (k : AW X nL tgt ls st L r h ca sa) : AW X nL pc ls (.ref c :: st) L r h ca sa := fun H locs la hW hn hS hL => lv_ifnonnull C.x C.b hd ht (k H locs la hW hn hS hL)
theorem aw_ifnonnullN {off : Int} (C : aw_C X own cc nL D mc ms) (hd : decode cc pc = .ok (.ifnonnull off, 3)) (k : AW X nL (pc + 3) ls st L r h ca sa) : AW X nL pc ls (.null :: st) L r h ca sa := fun H locs la hW hn hS hL => lv_ifnonnullN C.x C.b hd (k H locs la hW hn hS hL)
theorem aw_lookup {dflt : Int} {ps : Array (Int × Int)} {len : Nat} {x : Int32} {off : Int} {tgt : Nat} (C : aw_C X own cc nL D mc ms) (hd : decode cc pc = .ok (.lookupswitch dflt ps, len)) (hp : (ps.toList.zip (ps.toList.drop 1)).all (fun (a, next) => a.1 < next.1) = true) (ho : Op.lookupswitch.offset ps.toList dflt x.toInt = off) (ht : (pc : Int) + off = (tgt : Int)) (k : AW X nL tgt ls st L r h ca sa) : AW X nL pc ls (.int x :: st) L r h ca sa := fun H locs la hW hn hS hL => lv_lookup C.x C.b hd hp ho ht (k H locs la hW hn hS hL)
theorem aw_tabOut {dflt lo hi : Int} {offs : Array Int} {len : Nat} {x : Int32} {tgt : Nat} (C : aw_C X own cc nL D mc ms) (hd : decode cc pc = .ok (.tableswitch dflt lo hi offs, len)) (hx : x.toInt < lo ∨ hi < x.toInt) (ht : (pc : Int) + dflt = (tgt : Int)) (k : AW X nL tgt ls st L r h ca sa) : AW X nL pc ls (.int x :: st) L r h ca sa := fun H locs la hW hn hS hL => lv_tableOut C.x C.b hd hx ht (k H locs la hW hn hS hL)
theorem aw_tabIn {dflt lo hi : Int} {offs : Array Int} {len : Nat} {x : Int32} {off : Int} {tgt : Nat} (C : aw_C X own cc nL D mc ms) (hd : decode cc pc = .ok (.tableswitch dflt lo hi offs, len)) (h1 : ¬ x.toInt < lo) (h2 : ¬ hi < x.toInt) (ho : offs[(x.toInt - lo).toNat]? = some off) (ht : (pc : Int) + off = (tgt : Int)) (k : AW X nL tgt ls st L r h ca sa) : AW X nL pc ls (.int x :: st) L r h ca sa := fun H locs la hW hn hS hL => lv_tableIn C.x C.b hd h1 h2 ho ht (k H locs la hW hn hS hL)
theorem aw_iload_0 {t : List Value} {x : Int32} (C : aw_C X own cc nL D mc ms) (hd : decode cc pc = .ok (.iload_n 0, 1)) (k : AW X nL (pc + 1) (.int x :: t) (.int x :: st) L r h ca sa) : AW X nL pc (.int x :: t) st L r h ca sa := fun H locs la hW hn hS hL => lv_iload_n C.x C.b hd rfl (aw_ld (w := .int x) (i := 0) hL rfl rfl rfl) (k H locs la hW hn hS hL)
theorem aw_lload_0 {t : List Value} {x : Int64} (C : aw_C X own cc nL D mc ms) (hd : decode cc pc = .ok (.lload_n 0, 1)) (k : AW X nL (pc + 1) (.long x :: t) (.long x :: st) L r h ca sa) : AW X nL pc (.long x :: t) st L r h ca sa := fun H locs la hW hn hS hL => lv_lload_n C.x C.b hd rfl (aw_ld (w := .long x) (i := 0) hL rfl rfl rfl) (k H locs la hW hn hS hL)
theorem aw_aload_0 {t : List Value} {x : Nat} (C : aw_C X own cc nL D mc ms) (hd : decode cc pc = .ok (.aload_n 0, 1)) (k : AW X nL (pc + 1) (.ref x :: t) (.ref x :: st) L r h ca sa) : AW X nL pc (.ref x :: t) st L r h ca sa := fun H locs la hW hn hS hL => lv_aload_n C.x C.b hd rfl (aw_ld (w := .ref (xd X x)) (i := 0) hL rfl rfl rfl) (k H locs la hW hn hS hL)
theorem aw_aloadN_0 {t : List Value} (C : aw_C X own cc nL D mc ms) (hd : decode cc pc = .ok (.aload_n 0, 1)) (k : AW X nL (pc + 1) (.null :: t) (.null :: st) L r h ca sa) : AW X nL pc (.null :: t) st L r h ca sa := fun H locs la hW hn hS hL => lv_aload_nN C.x C.b hd rfl (aw_ld (w := .null) (i := 0) hL rfl rfl rfl) (k H locs la hW hn hS hL)
theorem aw_istore_0 {t : List Value} {u : Value} {x : Int32} (C : aw_C X own cc nL D mc ms) (hd : decode cc pc = .ok (.istore_n 0, 1)) (hi : Nat.blt 0 nL = true) (k : AW X nL (pc + 1) (.int x :: t) st L r h ca sa) : AW X nL pc (u :: t) (.int x :: st) L r h ca sa := fun H locs la hW hn hS hL => lv_istore_n C.x C.b hd rfl hL (Nat.le_of_ble_eq_true hi) rfl (fun lb hb => k H locs lb hW hn hS (aw_st1 (i := 0) (ls := u :: t) (v := .int x) rfl rfl hb))
theorem aw_astore_0 {t : List Value} {u : Value} {x : Nat} (C : aw_C X own cc nL D mc ms) (hd : decode cc pc = .ok (.astore_n 0, 1)) (hi : Nat.blt 0 nL = true) (k : AW X nL (pc + 1) (.ref x :: t) st L r h ca sa) : AW X nL pc (u :: t) (.ref x :: st) L r h ca sa := fun H locs la hW hn hS hL => lv_astore_n C.x C.b hd rfl hL (Nat.le_of_ble_eq_true hi) rfl (fun lb hb => k H locs lb hW hn hS (aw_st1 (i := 0) (ls := u :: t) (v := .ref x) rfl rfl hb))
theorem aw_astoreN_0 {t : List Value} {u : Value} (C : aw_C X own cc nL D mc ms) (hd : decode cc pc = .ok (.astore_n 0, 1)) (hi : Nat.blt 0 nL = true) (k : AW X nL (pc + 1) (.null :: t) st L r h ca sa) : AW X nL pc (u :: t) (.null :: st) L r h ca sa := fun H locs la hW hn hS hL => lv_astore_nN C.x C.b hd rfl hL (Nat.le_of_ble_eq_true hi) rfl (fun lb hb => k H locs lb hW hn hS (aw_st1 (i := 0) (ls := u :: t) (v := .null) rfl rfl hb))
theorem aw_lstore_0 {t : List Value} {u u2 : Value} {x : Int64} (C : aw_C X own cc nL D mc ms) (hd : decode cc pc = .ok (.lstore_n 0, 1)) (hi : Nat.blt 1 nL = true) (k : AW X nL (pc + 1) (.long x :: .retAddr 0 :: t) st L r h ca sa) : AW X nL pc (u :: u2 :: t) (.long x :: st) L r h ca sa := fun H locs la hW hn hS hL => lv_lstore_n C.x C.b hd rfl hL (Nat.le_of_ble_eq_true hi) rfl (fun lb hb => k H locs lb hW hn hS (aw_st2 (i := 0) (z := 0) (ls := u :: u2 :: t) (v := .long x) rfl rfl hb))
theorem aw_iinc_0 {t : List Value} {x d : Int32} {n : Int} (C : aw_C X own cc nL D mc ms) (hd : decode cc pc = .ok (.iinc 0 n, 3)) (hv : Int32.ofInt n = d) (hi : Nat.blt 0 nL = true) (k : AW X nL (pc + 3) (.int (x + d) :: t) st L r h ca sa) : AW X nL pc (.int x :: t) st L r h ca sa := fun H locs la hW hn hS hL => by
  obtain ⟨q, hq⟩ := List.getElem?_of_mem (aw_lv_mem.mpr ⟨0, .int x, rfl, rfl, rfl, rfl⟩ : ((0, .int x) : Nat × Value) ∈ aw_lv (xd X) 0 (.int x :: t))
  exact lv_iinc C.x C.b hd hL hq rfl (Nat.le_of_ble_eq_true hi) rfl (fun lb hb => k H locs lb hW hn hS (aw_st1 (i := 0) (ls := .int x :: t) (v := .int (x + d)) rfl (by rw [← hv]; rfl) hb))
theorem aw_iload_1 {a0 : Value} {t : List Value} {x : Int32} (C : aw_C X own cc nL D mc ms) (hd : decode cc pc = .ok (.iload_n 1, 1)) (k : AW X nL (pc + 1) (a0 :: .int x :: t) (.int x :: st) L r h ca sa) : AW X nL pc (a0 :: .int x :: t) st L r h ca sa := fun H locs la hW hn hS hL => lv_iload_n C.x C.b hd rfl (aw_ld (w := .int x) (i := 1) hL rfl rfl rfl) (k H locs la hW hn hS hL)
theorem aw_lload_1 {a0 : Value} {t : List Value} {x : Int64} (C : aw_C X own cc nL D mc ms) (hd : decode cc pc = .ok (.lload_n 1, 1)) (k : AW X nL (pc + 1) (a0 :: .long x :: t) (.long x :: st) L r h ca sa) : AW X nL pc (a0 :: .long x :: t) st L r h ca sa := fun H locs la hW hn hS hL => lv_lload_n C.x C.b hd rfl (aw_ld (w := .long x) (i := 1) hL rfl rfl rfl) (k H locs la hW hn hS hL)
theorem aw_aload_1 {a0 : Value} {t : List Value} {x : Nat} (C : aw_C X own cc nL D mc ms) (hd : decode cc pc = .ok (.aload_n 1, 1)) (k : AW X nL (pc + 1) (a0 :: .ref x :: t) (.ref x :: st) L r h ca sa) : AW X nL pc (a0 :: .ref x :: t) st L r h ca sa := fun H locs la hW hn hS hL => lv_aload_n C.x C.b hd rfl (aw_ld (w := .ref (xd X x)) (i := 1) hL rfl rfl rfl) (k H locs la hW hn hS hL)
theorem aw_aloadN_1 {a0 : Value} {t : List Value} (C : aw_C X own cc nL D mc ms) (hd : decode cc pc = .ok (.aload_n 1, 1)) (k : AW X nL (pc + 1) (a0 :: .null :: t) (.null :: st) L r h ca sa) : AW X nL pc (a0 :: .null :: t) st L r h ca sa := fun H locs la hW hn hS hL => lv_aload_nN C.x C.b hd rfl (aw_ld (w := .null) (i := 1) hL rfl rfl rfl) (k H locs la hW hn hS hL)
theorem aw_istore_1 {a0 : Value} {t : List Value} {u : Value} {x : Int32} (C : aw_C X own cc nL D mc ms) (hd : decode cc pc = .ok (.istore_n 1, 1)) (hi : Nat.blt 1 nL = true) (hp : aw_n2 a0 = true) (k : AW X nL (pc + 1) (a0 :: .int x :: t) st L r h ca sa) : AW X nL pc (a0 :: u :: t) (.int x :: st) L r h ca sa := fun H locs la hW hn hS hL => lv_istore_n C.x C.b hd rfl hL (Nat.le_of_ble_eq_true hi) rfl (fun lb hb => k H locs lb hW hn hS (aw_st1 (i := 1) (ls := a0 :: u :: t) (v := .int x) (show aw_p2 (a0 :: u :: t) 1 = true from hp) rfl hb))
theorem aw_astore_1 {a0 : Value} {t : List Value} {u : Value} {x : Nat} (C : aw_C X own cc nL D mc ms) (hd : decode cc pc = .ok (.astore_n 1, 1)) (hi : Nat.blt 1 nL = true) (hp : aw_n2 a0 = true) (k : AW X nL (pc + 1) (a0 :: .ref x :: t) st L r h ca sa) : AW X nL pc (a0 :: u :: t) (.ref x :: st) L r h ca sa := fun H locs la hW hn hS hL => lv_astore_n C.x C.b hd rfl hL (Nat.le_of_ble_eq_true hi) rfl (fun lb hb => k H locs lb hW hn hS (aw_st1 (i := 1) (ls := a0 :: u :: t) (v := .ref x) (show aw_p2 (a0 :: u :: t) 1 = true from hp) rfl hb))
theorem aw_astoreN_1 {a0 : Value} {t : List Value} {u : Value} (C : aw_C X own cc nL D mc ms) (hd : decode cc pc = .ok (.astore_n 1, 1)) (hi : Nat.blt 1 nL = true) (hp : aw_n2 a0 = true) (k : AW X nL (pc + 1) (a0 :: .null :: t) st L r h ca sa) : AW X nL pc (a0 :: u :: t) (.null :: st) L r h ca sa := fun H locs la hW hn hS hL => lv_astore_nN C.x C.b hd rfl hL (Nat.le_of_ble_eq_true hi) rfl (fun lb hb => k H locs lb hW hn hS (aw_st1 (i := 1) (ls := a0 :: u :: t) (v := .null) (show aw_p2 (a0 :: u :: t) 1 = true from hp) rfl hb))
theorem aw_lstore_1 {a0 : Value} {t : List Value} {u u2 : Value} {x : Int64} (C : aw_C X own cc nL D mc ms) (hd : decode cc pc = .ok (.lstore_n 1, 1)) (hi : Nat.blt 2 nL = true) (hp : aw_n2 a0 = true) (k : AW X nL (pc + 1) (a0 :: .long x :: .retAddr 0 :: t) st L r h ca sa) : AW X nL pc (a0 :: u :: u2 :: t) (.long x :: st) L r h ca sa := fun H locs la hW hn hS hL => lv_lstore_n C.x C.b hd rfl hL (Nat.le_of_ble_eq_true hi) rfl (fun lb hb => k H locs lb hW hn hS (aw_st2 (i := 1) (z := 0) (ls := a0 :: u :: u2 :: t) (v := .long x) (show aw_p2 (a0 :: u :: u2 :: t) 1 = true from hp) rfl hb))
theorem aw_iinc_1 {a0 : Value} {t : List Value} {x d : Int32} {n : Int} (C : aw_C X own cc nL D mc ms) (hd : decode cc pc = .ok (.iinc 1 n, 3)) (hv : Int32.ofInt n = d) (hi : Nat.blt 1 nL = true) (hp : aw_n2 a0 = true) (k : AW X nL (pc + 3) (a0 :: .int (x + d) :: t) st L r h ca sa) : AW X nL pc (a0 :: .int x :: t) st L r h ca sa := fun H locs la hW hn hS hL => by
  obtain ⟨q, hq⟩ := List.getElem?_of_mem (aw_lv_mem.mpr ⟨1, .int x, rfl, rfl, rfl, rfl⟩ : ((1, .int x) : Nat × Value) ∈ aw_lv (xd X) 0 (a0 :: .int x :: t))
  exact lv_iinc C.x C.b hd hL hq rfl (Nat.le_of_ble_eq_true hi) rfl (fun lb hb => k H locs lb hW hn hS (aw_st1 (i := 1) (ls := a0 :: .int x :: t) (v := .int (x + d)) (show aw_p2 (a0 :: .int x :: t) 1 = true from hp) (by rw [← hv]; rfl) hb))
theorem aw_iload_2 {a0 a1 : Value} {t : List Value} {x : Int32} (C : aw_C X own cc nL D mc ms) (hd : decode cc pc = .ok (.iload_n 2, 1)) (k : AW X nL (pc + 1) (a0 :: a1 :: .int x :: t) (.int x :: st) L r h ca sa) : AW X nL pc (a0 :: a1 :: .int x :: t) st L r h ca sa := fun H locs la hW hn hS hL => lv_iload_n C.x C.b hd rfl (aw_ld (w := .int x) (i := 2) hL rfl rfl rfl) (k H locs la hW hn hS hL)
theorem aw_lload_2 {a0 a1 : Value} {t : List Value} {x : Int64} (C : aw_C X own cc nL D mc ms) (hd : decode cc pc = .ok (.lload_n 2, 1)) (k : AW X nL (pc + 1) (a0 :: a1 :: .long x :: t) (.long x :: st) L r h ca sa) : AW X nL pc (a0 :: a1 :: .long x :: t) st L r h ca sa := fun H locs la hW hn hS hL => lv_lload_n C.x C.b hd rfl (aw_ld (w := .long x) (i := 2) hL rfl rfl rfl) (k H locs la hW hn hS hL)
theorem aw_aload_2 {a0 a1 : Value} {t : List Value} {x : Nat} (C : aw_C X own cc nL D mc ms) (hd : decode cc pc = .ok (.aload_n 2, 1)) (k : AW X nL (pc + 1) (a0 :: a1 :: .ref x :: t) (.ref x :: st) L r h ca sa) : AW X nL pc (a0 :: a1 :: .ref x :: t) st L r h ca sa := fun H locs la hW hn hS hL => lv_aload_n C.x C.b hd rfl (aw_ld (w := .ref (xd X x)) (i := 2) hL rfl rfl rfl) (k H locs la hW hn hS hL)
theorem aw_aloadN_2 {a0 a1 : Value} {t : List Value} (C : aw_C X own cc nL D mc ms) (hd : decode cc pc = .ok (.aload_n 2, 1)) (k : AW X nL (pc + 1) (a0 :: a1 :: .null :: t) (.null :: st) L r h ca sa) : AW X nL pc (a0 :: a1 :: .null :: t) st L r h ca sa := fun H locs la hW hn hS hL => lv_aload_nN C.x C.b hd rfl (aw_ld (w := .null) (i := 2) hL rfl rfl rfl) (k H locs la hW hn hS hL)
theorem aw_istore_2 {a0 a1 : Value} {t : List Value} {u : Value} {x : Int32} (C : aw_C X own cc nL D mc ms) (hd : decode cc pc = .ok (.istore_n 2, 1)) (hi : Nat.blt 2 nL = true) (hp : aw_n2 a1 = true) (k : AW X nL (pc + 1) (a0 :: a1 :: .int x :: t) st L r h ca sa) : AW X nL pc (a0 :: a1 :: u :: t) (.int x :: st) L r h ca sa := fun H locs la hW hn hS hL => lv_istore_n C.x C.b hd rfl hL (Nat.le_of_ble_eq_true hi) rfl (fun lb hb => k H locs lb hW hn hS (aw_st1 (i := 2) (ls := a0 :: a1 :: u :: t) (v := .int x) (show aw_p2 (a0 :: a1 :: u :: t) 2 = true from hp) rfl hb))
theorem aw_astore_2 {a0 a1 : Value} {t : List Value} {u : Value} {x : Nat} (C : aw_C X own cc nL D mc ms) (hd : decode cc pc = .ok (.astore_n 2, 1)) (hi : Nat.blt 2 nL = true) (hp : aw_n2 a1 = true) (k : AW X nL (pc + 1) (a0 :: a1 :: .ref x :: t) st L r h ca sa) : AW X nL pc (a0 :: a1 :: u :: t) (.ref x :: st) L r h ca sa := fun H locs la hW hn hS hL => lv_astore_n C.x C.b hd rfl hL (Nat.le_of_ble_eq_true hi) rfl (fun lb hb => k H locs lb hW hn hS (aw_st1 (i := 2) (ls := a0 :: a1 :: u :: t) (v := .ref x) (show aw_p2 (a0 :: a1 :: u :: t) 2 = true from hp) rfl hb))
theorem aw_astoreN_2 {a0 a1 : Value} {t : List Value} {u : Value} (C : aw_C X own cc nL D mc ms) (hd : decode cc pc = .ok (.astore_n 2, 1)) (hi : Nat.blt 2 nL = true) (hp : aw_n2 a1 = true) (k : AW X nL (pc + 1) (a0 :: a1 :: .null :: t) st L r h ca sa) : AW X nL pc (a0 :: a1 :: u :: t) (.null :: st) L r h ca sa := fun H locs la hW hn hS hL => lv_astore_nN C.x C.b hd rfl hL (Nat.le_of_ble_eq_true hi) rfl (fun lb hb => k H locs lb hW hn hS (aw_st1 (i := 2) (ls := a0 :: a1 :: u :: t) (v := .null) (show aw_p2 (a0 :: a1 :: u :: t) 2 = true from hp) rfl hb))
theorem aw_lstore_2 {a0 a1 : Value} {t : List Value} {u u2 : Value} {x : Int64} (C : aw_C X own cc nL D mc ms) (hd : decode cc pc = .ok (.lstore_n 2, 1)) (hi : Nat.blt 3 nL = true) (hp : aw_n2 a1 = true) (k : AW X nL (pc + 1) (a0 :: a1 :: .long x :: .retAddr 0 :: t) st L r h ca sa) : AW X nL pc (a0 :: a1 :: u :: u2 :: t) (.long x :: st) L r h ca sa := fun H locs la hW hn hS hL => lv_lstore_n C.x C.b hd rfl hL (Nat.le_of_ble_eq_true hi) rfl (fun lb hb => k H locs lb hW hn hS (aw_st2 (i := 2) (z := 0) (ls := a0 :: a1 :: u :: u2 :: t) (v := .long x) (show aw_p2 (a0 :: a1 :: u :: u2 :: t) 2 = true from hp) rfl hb))
theorem aw_iinc_2 {a0 a1 : Value} {t : List Value} {x d : Int32} {n : Int} (C : aw_C X own cc nL D mc ms) (hd : decode cc pc = .ok (.iinc 2 n, 3)) (hv : Int32.ofInt n = d) (hi : Nat.blt 2 nL = true) (hp : aw_n2 a1 = true) (k : AW X nL (pc + 3) (a0 :: a1 :: .int (x + d) :: t) st L r h ca sa) : AW X nL pc (a0 :: a1 :: .int x :: t) st L r h ca sa := fun H locs la hW hn hS hL => by
  obtain ⟨q, hq⟩ := List.getElem?_of_mem (aw_lv_mem.mpr ⟨2, .int x, rfl, rfl, rfl, rfl⟩ : ((2, .int x) : Nat × Value) ∈ aw_lv (xd X) 0 (a0 :: a1 :: .int x :: t))
  exact lv_iinc C.x C.b hd hL hq rfl (Nat.le_of_ble_eq_true hi) rfl (fun lb hb => k H locs lb hW hn hS (aw_st1 (i := 2) (ls := a0 :: a1 :: .int x :: t) (v := .int (x + d)) (show aw_p2 (a0 :: a1 :: .int x :: t) 2 = true from hp) (by rw [← hv]; rfl) hb))
theorem aw_iload_3 {a0 a1 a2 : Value} {t : List Value} {x : Int32} (C : aw_C X own cc nL D mc ms) (hd : decode cc pc = .ok (.iload_n 3, 1)) (k : AW X nL (pc + 1) (a0 :: a1 :: a2 :: .int x :: t) (.int x :: st) L r h ca sa) : AW X nL pc (a0 :: a1 :: a2 :: .int x :: t) st L r h ca sa := fun H locs la hW hn hS hL => lv_iload_n C.x C.b hd rfl (aw_ld (w := .int x) (i := 3) hL rfl rfl rfl) (k H locs la hW hn hS hL)
theorem aw_lload_3 {a0 a1 a2 : Value} {t : List Value} {x : Int64} (C : aw_C X own cc nL D mc ms) (hd : decode cc pc = .ok (.lload_n 3, 1)) (k : AW X nL (pc + 1) (a0 :: a1 :: a2 :: .long x :: t) (.long x :: st) L r h ca sa) : AW X nL pc (a0 :: a1 :: a2 :: .long x :: t) st L r h ca sa := fun H locs la hW hn hS hL => lv_lload_n C.x C.b hd rfl (aw_ld (w := .long x) (i := 3) hL rfl rfl rfl) (k H locs la hW hn hS hL)
theorem aw_aload_3 {a0 a1 a2 : Value} {t : List Value} {x : Nat} (C : aw_C X own cc nL D mc ms) (hd : decode cc pc = .ok (.aload_n 3, 1)) (k : AW X nL (pc + 1) (a0 :: a1 :: a2 :: .ref x :: t) (.ref x :: st) L r h ca sa) : AW X nL pc (a0 :: a1 :: a2 :: .ref x :: t) st L r h ca sa := fun H locs la hW hn hS hL => lv_aload_n C.x C.b hd rfl (aw_ld (w := .ref (xd X x)) (i := 3) hL rfl rfl rfl) (k H locs la hW hn hS hL)
theorem aw_aloadN_3 {a0 a1 a2 : Value} {t : List Value} (C : aw_C X own cc nL D mc ms) (hd : decode cc pc = .ok (.aload_n 3, 1)) (k : AW X nL (pc + 1) (a0 :: a1 :: a2 :: .null :: t) (.null :: st) L r h ca sa) : AW X nL pc (a0 :: a1 :: a2 :: .null :: t) st L r h ca sa := fun H locs la hW hn hS hL => lv_aload_nN C.x C.b hd rfl (aw_ld (w := .null) (i := 3) hL rfl rfl rfl) (k H locs la hW hn hS hL)
theorem aw_istore_3 {a0 a1 a2 : Value} {t : List Value} {u : Value} {x : Int32} (C : aw_C X own cc nL D mc ms) (hd : decode cc pc = .ok (.istore_n 3, 1)) (hi : Nat.blt 3 nL = true) (hp : aw_n2 a2 = true) (k : AW X nL (pc + 1) (a0 :: a1 :: a2 :: .int x :: t) st L r h ca sa) : AW X nL pc (a0 :: a1 :: a2 :: u :: t) (.int x :: st) L r h ca sa := fun H locs la hW hn hS hL => lv_istore_n C.x C.b hd rfl hL (Nat.le_of_ble_eq_true hi) rfl (fun lb hb => k H locs lb hW hn hS (aw_st1 (i := 3) (ls := a0 :: a1 :: a2 :: u :: t) (v := .int x) (show aw_p2 (a0 :: a1 :: a2 :: u :: t) 3 = true from hp) rfl hb))
theorem aw_astore_3 {a0 a1 a2 : Value} {t : List Value} {u : Value} {x : Nat} (C : aw_C X own cc nL D mc ms) (hd : decode cc pc = .ok (.astore_n 3, 1)) (hi : Nat.blt 3 nL = true) (hp : aw_n2 a2 = true) (k : AW X nL (pc + 1) (a0 :: a1 :: a2 :: .ref x :: t) st L r h ca sa) : AW X nL pc (a0 :: a1 :: a2 :: u :: t) (.ref x :: st) L r h ca sa := fun H locs la hW hn hS hL => lv_astore_n C.x C.b hd rfl hL (Nat.le_of_ble_eq_true hi) rfl (fun lb hb => k H locs lb hW hn hS (aw_st1 (i := 3) (ls := a0 :: a1 :: a2 :: u :: t) (v := .ref x) (show aw_p2 (a0 :: a1 :: a2 :: u :: t) 3 = true from hp) rfl hb))
theorem aw_astoreN_3 {a0 a1 a2 : Value} {t : List Value} {u : Value} (C : aw_C X own cc nL D mc ms) (hd : decode cc pc = .ok (.astore_n 3, 1)) (hi : Nat.blt 3 nL = true) (hp : aw_n2 a2 = true) (k : AW X nL (pc + 1) (a0 :: a1 :: a2 :: .null :: t) st L r h ca sa) : AW X nL pc (a0 :: a1 :: a2 :: u :: t) (.null :: st) L r h ca sa := fun H locs la hW hn hS hL => lv_astore_nN C.x C.b hd rfl hL (Nat.le_of_ble_eq_true hi) rfl (fun lb hb => k H locs lb hW hn hS (aw_st1 (i := 3) (ls := a0 :: a1 :: a2 :: u :: t) (v := .null) (show aw_p2 (a0 :: a1 :: a2 :: u :: t) 3 = true from hp) rfl hb))
theorem aw_lstore_3 {a0 a1 a2 : Value} {t : List Value} {u u2 : Value} {x : Int64} (C : aw_C X own cc nL D mc ms) (hd : decode cc pc = .ok (.lstore_n 3, 1)) (hi : Nat.blt 4 nL = true) (hp : aw_n2 a2 = true) (k : AW X nL (pc + 1) (a0 :: a1 :: a2 :: .long x :: .retAddr 0 :: t) st L r h ca sa) : AW X nL pc (a0 :: a1 :: a2 :: u :: u2 :: t) (.long x :: st) L r h ca sa := fun H locs la hW hn hS hL => lv_lstore_n C.x C.b hd rfl hL (Nat.le_of_ble_eq_true hi) rfl (fun lb hb => k H locs lb hW hn hS (aw_st2 (i := 3) (z := 0) (ls := a0 :: a1 :: a2 :: u :: u2 :: t) (v := .long x) (show aw_p2 (a0 :: a1 :: a2 :: u :: u2 :: t) 3 = true from hp) rfl hb))
theorem aw_iinc_3 {a0 a1 a2 : Value} {t : List Value} {x d : Int32} {n : Int} (C : aw_C X own cc nL D mc ms) (hd : decode cc pc = .ok (.iinc 3 n, 3)) (hv : Int32.ofInt n = d) (hi : Nat.blt 3 nL = true) (hp : aw_n2 a2 = true) (k : AW X nL (pc + 3) (a0 :: a1 :: a2 :: .int (x + d) :: t) st L r h ca sa) : AW X nL pc (a0 :: a1 :: a2 :: .int x :: t) st L r h ca sa := fun H locs la hW hn hS hL => by
  obtain ⟨q, hq⟩ := List.getElem?_of_mem (aw_lv_mem.mpr ⟨3, .int x, rfl, rfl, rfl, rfl⟩ : ((3, .int x) : Nat × Value) ∈ aw_lv (xd X) 0 (a0 :: a1 :: a2 :: .int x :: t))
  exact lv_iinc C.x C.b hd hL hq rfl (Nat.le_of_ble_eq_true hi) rfl (fun lb hb => k H locs lb hW hn hS (aw_st1 (i := 3) (ls := a0 :: a1 :: a2 :: .int x :: t) (v := .int (x + d)) (show aw_p2 (a0 :: a1 :: a2 :: .int x :: t) 3 = true from hp) (by rw [← hv]; rfl) hb))
theorem aw_iload_4 {a0 a1 a2 a3 : Value} {t : List Value} {x : Int32} (C : aw_C X own cc nL D mc ms) (hd : decode cc pc = .ok (.iload 4, 2)) (k : AW X nL (pc + 2) (a0 :: a1 :: a2 :: a3 :: .int x :: t) (.int x :: st) L r h ca sa) : AW X nL pc (a0 :: a1 :: a2 :: a3 :: .int x :: t) st L r h ca sa := fun H locs la hW hn hS hL => lv_iload C.x C.b hd (aw_ld (w := .int x) (i := 4) hL rfl rfl rfl) (k H locs la hW hn hS hL)
theorem aw_lload_4 {a0 a1 a2 a3 : Value} {t : List Value} {x : Int64} (C : aw_C X own cc nL D mc ms) (hd : decode cc pc = .ok (.lload 4, 2)) (k : AW X nL (pc + 2) (a0 :: a1 :: a2 :: a3 :: .long x :: t) (.long x :: st) L r h ca sa) : AW X nL pc (a0 :: a1 :: a2 :: a3 :: .long x :: t) st L r h ca sa := fun H locs la hW hn hS hL => lv_lload C.x C.b hd (aw_ld (w := .long x) (i := 4) hL rfl rfl rfl) (k H locs la hW hn hS hL)
theorem aw_aload_4 {a0 a1 a2 a3 : Value} {t : List Value} {x : Nat} (C : aw_C X own cc nL D mc ms) (hd : decode cc pc = .ok (.aload 4, 2)) (k : AW X nL (pc + 2) (a0 :: a1 :: a2 :: a3 :: .ref x :: t) (.ref x :: st) L r h ca sa) : AW X nL pc (a0 :: a1 :: a2 :: a3 :: .ref x :: t) st L r h ca sa := fun H locs la hW hn hS hL => lv_aload C.x C.b hd (aw_ld (w := .ref (xd X x)) (i := 4) hL rfl rfl rfl) (k H locs la hW hn hS hL)
theorem aw_aloadN_4 {a0 a1 a2 a3 : Value} {t : List Value} (C : aw_C X own cc nL D mc ms) (hd : decode cc pc = .ok (.aload 4, 2)) (k : AW X nL (pc + 2) (a0 :: a1 :: a2 :: a3 :: .null :: t) (.null :: st) L r h ca sa) : AW X nL pc (a0 :: a1 :: a2 :: a3 :: .null :: t) st L r h ca sa := fun H locs la hW hn hS hL => lv_aloadN C.x C.b hd (aw_ld (w := .null) (i := 4) hL rfl rfl rfl) (k H locs la hW hn hS hL)
theorem aw_istore_4 {a0 a1 a2 a3 : Value} {t : List Value} {u : Value} {x : Int32} (C : aw_C X own cc nL D mc ms) (hd : decode cc pc = .ok (.istore 4, 2)) (hi : Nat.blt 4 nL = true) (hp : aw_n2 a3 = true) (k : AW X nL (pc + 2) (a0 :: a1 :: a2 :: a3 :: .int x :: t) st L r h ca sa) : AW X nL pc (a0 :: a1 :: a2 :: a3 :: u :: t) (.int x :: st) L r h ca sa := fun H locs la hW hn hS hL => lv_istore C.x C.b hd hL (Nat.le_of_ble_eq_true hi) rfl (fun lb hb => k H locs lb hW hn hS (aw_st1 (i := 4) (ls := a0 :: a1 :: a2 :: a3 :: u :: t) (v := .int x) (show aw_p2 (a0 :: a1 :: a2 :: a3 :: u :: t) 4 = true from hp) rfl hb))
theorem aw_astore_4 {a0 a1 a2 a3 : Value} {t : List Value} {u : Value} {x : Nat} (C : aw_C X own cc nL D mc ms) (hd : decode cc pc = .ok (.astore 4, 2)) (hi : Nat.blt 4 nL = true) (hp : aw_n2 a3 = true) (k : AW X nL (pc + 2) (a0 :: a1 :: a2 :: a3 :: .ref x :: t) st L r h ca sa) : AW X nL pc (a0 :: a1 :: a2 :: a3 :: u :: t) (.ref x :: st) L r h ca sa := fun H locs la hW hn hS hL => lv_astore C.x C.b hd hL (Nat.le_of_ble_eq_true hi) rfl (fun lb hb => k H locs lb hW hn hS (aw_st1 (i := 4) (ls := a0 :: a1 :: a2 :: a3 :: u :: t) (v := .ref x) (show aw_p2 (a0 :: a1 :: a2 :: a3 :: u :: t) 4 = true from hp) rfl hb))
theorem aw_astoreN_4 {a0 a1 a2 a3 : Value} {t : List Value} {u : Value} (C : aw_C X own cc nL D mc ms) (hd : decode cc pc = .ok (.astore 4, 2)) (hi : Nat.blt 4 nL = true) (hp : aw_n2 a3 = true) (k : AW X nL (pc + 2) (a0 :: a1 :: a2 :: a3 :: .null :: t) st L r h ca sa) : AW X nL pc (a0 :: a1 :: a2 :: a3 :: u :: t) (.null :: st) L r h ca sa := fun H locs la hW hn hS hL => lv_astoreN C.x C.b hd hL (Nat.le_of_ble_eq_true hi) rfl (fun lb hb => k H locs lb hW hn hS (aw_st1 (i := 4) (ls := a0 :: a1 :: a2 :: a3 :: u :: t) (v := .null) (show aw_p2 (a0 :: a1 :: a2 :: a3 :: u :: t) 4 = true from hp) rfl hb))
theorem aw_lstore_4 {a0 a1 a2 a3 : Value} {t : List Value} {u u2 : Value} {x : Int64} (C : aw_C X own cc nL D mc ms) (hd : decode cc pc = .ok (.lstore 4, 2)) (hi : Nat.blt 5 nL = true) (hp : aw_n2 a3 = true) (k : AW X nL (pc + 2) (a0 :: a1 :: a2 :: a3 :: .long x :: .retAddr 0 :: t) st L r h ca sa) : AW X nL pc (a0 :: a1 :: a2 :: a3 :: u :: u2 :: t) (.long x :: st) L r h ca sa := fun H locs la hW hn hS hL => lv_lstore C.x C.b hd hL (Nat.le_of_ble_eq_true hi) rfl (fun lb hb => k H locs lb hW hn hS (aw_st2 (i := 4) (z := 0) (ls := a0 :: a1 :: a2 :: a3 :: u :: u2 :: t) (v := .long x) (show aw_p2 (a0 :: a1 :: a2 :: a3 :: u :: u2 :: t) 4 = true from hp) rfl hb))
theorem aw_iinc_4 {a0 a1 a2 a3 : Value} {t : List Value} {x d : Int32} {n : Int} (C : aw_C X own cc nL D mc ms) (hd : decode cc pc = .ok (.iinc 4 n, 3)) (hv : Int32.ofInt n = d) (hi : Nat.blt 4 nL = true) (hp : aw_n2 a3 = true) (k : AW X nL (pc + 3) (a0 :: a1 :: a2 :: a3 :: .int (x + d) :: t) st L r h ca sa) : AW X nL pc (a0 :: a1 :: a2 :: a3 :: .int x :: t) st L r h ca sa := fun H locs la hW hn hS hL => by
  obtain ⟨q, hq⟩ := List.getElem?_of_mem (aw_lv_mem.mpr ⟨4, .int x, rfl, rfl, rfl, rfl⟩ : ((4, .int x) : Nat × Value) ∈ aw_lv (xd X) 0 (a0 :: a1 :: a2 :: a3 :: .int x :: t))
  exact lv_iinc C.x C.b hd hL hq rfl (Nat.le_of_ble_eq_true hi) rfl (fun lb hb => k H locs lb hW hn hS (aw_st1 (i := 4) (ls := a0 :: a1 :: a2 :: a3 :: .int x :: t) (v := .int (x + d)) (show aw_p2 (a0 :: a1 :: a2 :: a3 :: .int x :: t) 4 = true from hp) (by rw [← hv]; rfl) hb))
theorem aw_iload_5 {a0 a1 a2 a3 a4 : Value} {t : List Value} {x : Int32} (C : aw_C X own cc nL D mc ms) (hd : decode cc pc = .ok (.iload 5, 2)) (k : AW X nL (pc + 2) (a0 :: a1 :: a2 :: a3 :: a4 :: .int x :: t) (.int x :: st) L r h ca sa) : AW X nL pc (a0 :: a1 :: a2 :: a3 :: a4 :: .int x :: t) st L r h ca sa := fun H locs la hW hn hS hL => lv_iload C.x C.b hd (aw_ld (w := .int x) (i := 5) hL rfl rfl rfl) (k H locs la hW hn hS hL)
theorem aw_lload_5 {a0 a1 a2 a3 a4 : Value} {t : List Value} {x : Int64} (C : aw_C X own cc nL D mc ms) (hd : decode cc pc = .ok (.lload 5, 2)) (k : AW X nL (pc + 2) (a0 :: a1 :: a2 :: a3 :: a4 :: .long x :: t) (.long x :: st) L r h ca sa) : AW X nL pc (a0 :: a1 :: a2 :: a3 :: a4 :: .long x :: t) st L r h ca sa := fun H locs la hW hn hS hL => lv_lload C.x C.b hd (aw_ld (w := .long x) (i := 5) hL rfl rfl rfl) (k H locs la hW hn hS hL)
theorem aw_aload_5 {a0 a1 a2 a3 a4 : Value} {t : List Value} {x : Nat} (C : aw_C X own cc nL D mc ms) (hd : decode cc pc = .ok (.aload 5, 2)) (k : AW X nL (pc + 2) (a0 :: a1 :: a2 :: a3 :: a4 :: .ref x :: t) (.ref x :: st) L r h ca sa) : AW X nL pc (a0 :: a1 :: a2 :: a3 :: a4 :: .ref x :: t) st L r h ca sa := fun H locs la hW hn hS hL => lv_aload C.x C.b hd (aw_ld (w := .ref (xd X x)) (i := 5) hL rfl rfl rfl) (k H locs la hW hn hS hL)
theorem aw_aloadN_5 {a0 a1 a2 a3 a4 : Value} {t : List Value} (C : aw_C X own cc nL D mc ms) (hd : decode cc pc = .ok (.aload 5, 2)) (k : AW X nL (pc + 2) (a0 :: a1 :: a2 :: a3 :: a4 :: .null :: t) (.null :: st) L r h ca sa) : AW X nL pc (a0 :: a1 :: a2 :: a3 :: a4 :: .null :: t) st L r h ca sa := fun H locs la hW hn hS hL => lv_aloadN C.x C.b hd (aw_ld (w := .null) (i := 5) hL rfl rfl rfl) (k H locs la hW hn hS hL)
theorem aw_istore_5 {a0 a1 a2 a3 a4 : Value} {t : List Value} {u : Value} {x : Int32} (C : aw_C X own cc nL D mc ms) (hd : decode cc pc = .ok (.istore 5, 2)) (hi : Nat.blt 5 nL = true) (hp : aw_n2 a4 = true) (k : AW X nL (pc + 2) (a0 :: a1 :: a2 :: a3 :: a4 :: .int x :: t) st L r h ca sa) : AW X nL pc (a0 :: a1 :: a2 :: a3 :: a4 :: u :: t) (.int x :: st) L r h ca sa := fun H locs la hW hn hS hL => lv_istore C.x C.b hd hL (Nat.le_of_ble_eq_true hi) rfl (fun lb hb => k H locs lb hW hn hS (aw_st1 (i := 5) (ls := a0 :: a1 :: a2 :: a3 :: a4 :: u :: t) (v := .int x) (show aw_p2 (a0 :: a1 :: a2 :: a3 :: a4 :: u :: t) 5 = true from hp) rfl hb))
theorem aw_astore_5 {a0 a1 a2 a3 a4 : Value} {t : List Value} {u : Value} {x : Nat} (C : aw_C X own cc nL D mc ms) (hd : decode cc pc = .ok (.astore 5, 2)) (hi : Nat.blt 5 nL = true) (hp : aw_n2 a4 = true) (k : AW X nL (pc + 2) (a0 :: a1 :: a2 :: a3 :: a4 :: .ref x :: t) st L r h ca sa) : AW X nL pc (a0 :: a1 :: a2 :: a3 :: a4 :: u :: t) (.ref x :: st) L r h ca sa := fun H locs la hW hn hS hL => lv_astore C.x C.b hd hL (Nat.le_of_ble_eq_true hi) rfl (fun lb hb => k H locs lb hW hn hS (aw_st1 (i := 5) (ls := a0 :: a1 :: a2 :: a3 :: a4 :: u :: t) (v := .ref x) (show aw_p2 (a0 :: a1 :: a2 :: a3 :: a4 :: u :: t) 5 = true from hp) rfl hb))
theorem aw_astoreN_5 {a0 a1 a2 a3 a4 : Value} {t : List Value} {u : Value} (C : aw_C X own cc nL D mc ms) (hd : decode cc pc = .ok (.astore 5, 2)) (hi : Nat.blt 5 nL = true) (hp : aw_n2 a4 = true) (k : AW X nL (pc + 2) (a0 :: a1 :: a2 :: a3 :: a4 :: .null :: t) st L r h ca sa) : AW X nL pc (a0 :: a1 :: a2 :: a3 :: a4 :: u :: t) (.null :: st) L r h ca sa := fun H locs la hW hn hS hL => lv_astoreN C.x C.b hd hL (Nat.le_of_ble_eq_true hi) rfl (fun lb hb => k H locs lb hW hn hS (aw_st1 (i := 5) (ls := a0 :: a1 :: a2 :: a3 :: a4 :: u :: t) (v := .null) (show aw_p2 (a0 :: a1 :: a2 :: a3 :: a4 :: u :: t) 5 = true from hp) rfl hb))
theorem aw_lstore_5 {a0 a1 a2 a3 a4 : Value} {t : List Value} {u u2 : Value} {x : Int64} (C : aw_C X own cc nL D mc ms) (hd : decode cc pc = .ok (.lstore 5, 2)) (hi : Nat.blt 6 nL = true) (hp : aw_n2 a4 = true) (k : AW X nL (pc + 2) (a0 :: a1 :: a2 :: a3 :: a4 :: .long x :: .retAddr 0 :: t) st L r h ca sa) : AW X nL pc (a0 :: a1 :: a2 :: a3 :: a4 :: u :: u2 :: t) (.long x :: st) L r h ca sa := fun H locs la hW hn hS hL => lv_lstore C.x C.b hd hL (Nat.le_of_ble_eq_true hi) rfl (fun lb hb => k H locs lb hW hn hS (aw_st2 (i := 5) (z := 0) (ls := a0 :: a1 :: a2 :: a3 :: a4 :: u :: u2 :: t) (v := .long x) (show aw_p2 (a0 :: a1 :: a2 :: a3 :: a4 :: u :: u2 :: t) 5 = true from hp) rfl hb))
theorem aw_iinc_5 {a0 a1 a2 a3 a4 : Value} {t : List Value} {x d : Int32} {n : Int} (C : aw_C X own cc nL D mc ms) (hd : decode cc pc = .ok (.iinc 5 n, 3)) (hv : Int32.ofInt n = d) (hi : Nat.blt 5 nL = true) (hp : aw_n2 a4 = true) (k : AW X nL (pc + 3) (a0 :: a1 :: a2 :: a3 :: a4 :: .int (x + d) :: t) st L r h ca sa) : AW X nL pc (a0 :: a1 :: a2 :: a3 :: a4 :: .int x :: t) st L r h ca sa := fun H locs la hW hn hS hL => by
  obtain ⟨q, hq⟩ := List.getElem?_of_mem (aw_lv_mem.mpr ⟨5, .int x, rfl, rfl, rfl, rfl⟩ : ((5, .int x) : Nat × Value) ∈ aw_lv (xd X) 0 (a0 :: a1 :: a2 :: a3 :: a4 :: .int x :: t))
  exact lv_iinc C.x C.b hd hL hq rfl (Nat.le_of_ble_eq_true hi) rfl (fun lb hb => k H locs lb hW hn hS (aw_st1 (i := 5) (ls := a0 :: a1 :: a2 :: a3 :: a4 :: .int x :: t) (v := .int (x + d)) (show aw_p2 (a0 :: a1 :: a2 :: a3 :: a4 :: .int x :: t) 5 = true from hp) (by rw [← hv]; rfl) hb))
theorem aw_iload_6 {a0 a1 a2 a3 a4 a5 : Value} {t : List Value} {x : Int32} (C : aw_C X own cc nL D mc ms) (hd : decode cc pc = .ok (.iload 6, 2)) (k : AW X nL (pc + 2) (a0 :: a1 :: a2 :: a3 :: a4 :: a5 :: .int x :: t) (.int x :: st) L r h ca sa) : AW X nL pc (a0 :: a1 :: a2 :: a3 :: a4 :: a5 :: .int x :: t) st L r h ca sa := fun H locs la hW hn hS hL => lv_iload C.x C.b hd (aw_ld (w := .int x) (i := 6) hL rfl rfl rfl) (k H locs la hW hn hS hL)
theorem aw_lload_6 {a0 a1 a2 a3 a4 a5 : Value} {t : List Value} {x : Int64} (C : aw_C X own cc nL D mc ms) (hd : decode cc pc = .ok (.lload 6, 2)) (k : AW X nL (pc + 2) (a0 :: a1 :: a2 :: a3 :: a4 :: a5 :: .long x :: t) (.long x :: st) L r h ca sa) : AW X nL pc (a0 :: a1 :: a2 :: a3 :: a4 :: a5 :: .long x :: t) st L r h ca sa := fun H locs la hW hn hS hL => lv_lload C.x C.b hd (aw_ld (w := .long x) (i := 6) hL rfl rfl rfl) (k H locs la hW hn hS hL)
theorem aw_aload_6 {a0 a1 a2 a3 a4 a5 : Value} {t : List Value} {x : Nat} (C : aw_C X own cc nL D mc ms) (hd : decode cc pc = .ok (.aload 6, 2)) (k : AW X nL (pc + 2) (a0 :: a1 :: a2 :: a3 :: a4 :: a5 :: .ref x :: t) (.ref x :: st) L r h ca sa) : AW X nL pc (a0 :: a1 :: a2 :: a3 :: a4 :: a5 :: .ref x :: t) st L r h ca sa := fun H locs la hW hn hS hL => lv_aload C.x C.b hd (aw_ld (w := .ref (xd X x)) (i := 6) hL rfl rfl rfl) (k H locs la hW hn hS hL)
theorem aw_aloadN_6 {a0 a1 a2 a3 a4 a5 : Value} {t : List Value} (C : aw_C X own cc nL D mc ms) (hd : decode cc pc = .ok (.aload 6, 2)) (k : AW X nL (pc + 2) (a0 :: a1 :: a2 :: a3 :: a4 :: a5 :: .null :: t) (.null :: st) L r h ca sa) : AW X nL pc (a0 :: a1 :: a2 :: a3 :: a4 :: a5 :: .null :: t) st L r h ca sa := fun H locs la hW hn hS hL => lv_aloadN C.x C.b hd (aw_ld (w := .null) (i := 6) hL rfl rfl rfl) (k H locs la hW hn hS hL)
theorem aw_istore_6 {a0 a1 a2 a3 a4 a5 : Value} {t : List Value} {u : Value} {x : Int32} (C : aw_C X own cc nL D mc ms) (hd : decode cc pc = .ok (.istore 6, 2)) (hi : Nat.blt 6 nL = true) (hp : aw_n2 a5 = true) (k : AW X nL (pc + 2) (a0 :: a1 :: a2 :: a3 :: a4 :: a5 :: .int x :: t) st L r h ca sa) : AW X nL pc (a0 :: a1 :: a2 :: a3 :: a4 :: a5 :: u :: t) (.int x :: st) L r h ca sa := fun H locs la hW hn hS hL => lv_istore C.x C.b hd hL (Nat.le_of_ble_eq_true hi) rfl (fun lb hb => k H locs lb hW hn hS (aw_st1 (i := 6) (ls := a0 :: a1 :: a2 :: a3 :: a4 :: a5 :: u :: t) (v := .int x) (show aw_p2 (a0 :: a1 :: a2 :: a3 :: a4 :: a5 :: u :: t) 6 = true from hp) rfl hb))
theorem aw_astore_6 {a0 a1 a2 a3 a4 a5 : Value} {t : List Value} {u : Value} {x : Nat} (C : aw_C X own cc nL D mc ms) (hd : decode cc pc = .ok (.astore 6, 2)) (hi : Nat.blt 6 nL = true) (hp : aw_n2 a5 = true) (k : AW X nL (pc + 2) (a0 :: a1 :: a2 :: a3 :: a4 :: a5 :: .ref x :: t) st L r h ca sa) : AW X nL pc (a0 :: a1 :: a2 :: a3 :: a4 :: a5 :: u :: t) (.ref x :: st) L r h ca sa := fun H locs la hW hn hS hL => lv_astore C.x C.b hd hL (Nat.le_of_ble_eq_true hi) rfl (fun lb hb => k H locs lb hW hn hS (aw_st1 (i := 6) (ls := a0 :: a1 :: a2 :: a3 :: a4 :: a5 :: u :: t) (v := .ref x) (show aw_p2 (a0 :: a1 :: a2 :: a3 :: a4 :: a5 :: u :: t) 6 = true from hp) rfl hb))
theorem aw_astoreN_6 {a0 a1 a2 a3 a4 a5 : Value} {t : List Value} {u : Value} (C : aw_C X own cc nL D mc ms) (hd : decode cc pc = .ok (.astore 6, 2)) (hi : Nat.blt 6 nL = true) (hp : aw_n2 a5 = true) (k : AW X nL (pc + 2) (a0 :: a1 :: a2 :: a3 :: a4 :: a5 :: .null :: t) st L r h ca sa) : AW X nL pc (a0 :: a1 :: a2 :: a3 :: a4 :: a5 :: u :: t) (.null :: st) L r h ca sa := fun H locs la hW hn hS hL => lv_astoreN C.x C.b hd hL (Nat.le_of_ble_eq_true hi) rfl (fun lb hb => k H locs lb hW hn hS (aw_st1 (i := 6) (ls := a0 :: a1 :: a2 :: a3 :: a4 :: a5 :: u :: t) (v := .null) (show aw_p2 (a0 :: a1 :: a2 :: a3 :: a4 :: a5 :: u :: t) 6 = true from hp) rfl hb))
theorem aw_lstore_6 {a0 a1 a2 a3 a4 a5 : Value} {t : List Value} {u u2 : Value} {x : Int64} (C : aw_C X own cc nL D mc ms) (hd : decode cc pc = .ok (.lstore 6, 2)) (hi : Nat.blt 7 nL = true) (hp : aw_n2 a5 = true) (k : AW X nL (pc + 2) (a0 :: a1 :: a2 :: a3 :: a4 :: a5 :: .long x :: .retAddr 0 :: t) st L r h ca sa) : AW X nL pc (a0 :: a1 :: a2 :: a3 :: a4 :: a5 :: u :: u2 :: t) (.long x :: st) L r h ca sa := fun H locs la hW hn hS hL => lv_lstore C.x C.b hd hL (Nat.le_of_ble_eq_true hi) rfl (fun lb hb => k H locs lb hW hn hS (aw_st2 (i := 6) (z := 0) (ls := a0 :: a1 :: a2 :: a3 :: a4 :: a5 :: u :: u2 :: t) (v := .long x) (show aw_p2 (a0 :: a1 :: a2 :: a3 :: a4 :: a5 :: u :: u2 :: t) 6 = true from hp) rfl hb))
theorem aw_iinc_6 {a0 a1 a2 a3 a4 a5 : Value} {t : List Value} {x d : Int32} {n : Int} (C : aw_C X own cc nL D mc ms) (hd : decode cc pc = .ok (.iinc 6 n, 3)) (hv : Int32.ofInt n = d) (hi : Nat.blt 6 nL = true) (hp : aw_n2 a5 = true) (k : AW X nL (pc + 3) (a0 :: a1 :: a2 :: a3 :: a4 :: a5 :: .int (x + d) :: t) st L r h ca sa) : AW X nL pc (a0 :: a1 :: a2 :: a3 :: a4 :: a5 :: .int x :: t) st L r h ca sa := fun H locs la hW hn hS hL => by
  obtain ⟨q, hq⟩ := List.getElem?_of_mem (aw_lv_mem.mpr ⟨6, .int x, rfl, rfl, rfl, rfl⟩ : ((6, .int x) : Nat × Value) ∈ aw_lv (xd X) 0 (a0 :: a1 :: a2 :: a3 :: a4 :: a5 :: .int x :: t))
  exact lv_iinc C.x C.b hd hL hq rfl (Nat.le_of_ble_eq_true hi) rfl (fun lb hb => k H locs lb hW hn hS (aw_st1 (i := 6) (ls := a0 :: a1 :: a2 :: a3 :: a4 :: a5 :: .int x :: t) (v := .int (x + d)) (show aw_p2 (a0 :: a1 :: a2 :: a3 :: a4 :: a5 :: .int x :: t) 6 = true from hp) (by rw [← hv]; rfl) hb))
theorem aw_iload_7 {a0 a1 a2 a3 a4 a5 a6 : Value} {t : List Value} {x : Int32} (C : aw_C X own cc nL D mc ms) (hd : decode cc pc = .ok (.iload 7, 2)) (k : AW X nL (pc + 2) (a0 :: a1 :: a2 :: a3 :: a4 :: a5 :: a6 :: .int x :: t) (.int x :: st) L r h ca sa) : AW X nL pc (a0 :: a1 :: a2 :: a3 :: a4 :: a5 :: a6 :: .int x :: t) st L r h ca sa := fun H locs la hW hn hS hL => lv_iload C.x C.b hd (aw_ld (w := .int x) (i := 7) hL rfl rfl rfl) (k H locs la hW hn hS hL)
theorem aw_lload_7 {a0 a1 a2 a3 a4 a5 a6 : Value} {t : List Value} {x : Int64} (C : aw_C X own cc nL D mc ms) (hd : decode cc pc = .ok (.lload 7, 2)) (k : AW X nL (pc + 2) (a0 :: a1 :: a2 :: a3 :: a4 :: a5 :: a6 :: .long x :: t) (.long x :: st) L r h ca sa) : AW X nL pc (a0 :: a1 :: a2 :: a3 :: a4 :: a5 :: a6 :: .long x :: t) st L r h ca sa := fun H locs la hW hn hS hL => lv_lload C.x C.b hd (aw_ld (w := .long x) (i := 7) hL rfl rfl rfl) (k H locs la hW hn hS hL)
theorem aw_aload_7 {a0 a1 a2 a3 a4 a5 a6 : Value} {t : List Value} {x : Nat} (C : aw_C X own cc nL D mc ms) (hd : decode cc pc = .ok (.aload 7, 2)) (k : AW X nL (pc + 2) (a0 :: a1 :: a2 :: a3 :: a4 :: a5 :: a6 :: .ref x :: t) (.ref x :: st) L r h ca sa) : AW X nL pc (a0 :: a1 :: a2 :: a3 :: a4 :: a5 :: a6 :: .ref x :: t) st L r h ca sa := fun H locs la hW hn hS hL => lv_aload C.x C.b hd (aw_ld (w := .ref (xd X x)) (i := 7) hL rfl rfl rfl) (k H locs la hW hn hS hL)
theorem aw_aloadN_7 {a0 a1 a2 a3 a4 a5 a6 : Value} {t : List Value} (C : aw_C X own cc nL D mc ms) (hd : decode cc pc = .ok (.aload 7, 2)) (k : AW X nL (pc + 2) (a0 :: a1 :: a2 :: a3 :: a4 :: a5 :: a6 :: .null :: t) (.null :: st) L r h ca sa) : AW X nL pc (a0 :: a1 :: a2 :: a3 :: a4 :: a5 :: a6 :: .null :: t) st L r h ca sa := fun H locs la hW hn hS hL => lv_aloadN C.x C.b hd (aw_ld (w := .null) (i := 7) hL rfl rfl rfl) (k H locs la hW hn hS hL)
theorem aw_istore_7 {a0 a1 a2 a3 a4 a5 a6 : Value} {t : List Value} {u : Value} {x : Int32} (C : aw_C X own cc nL D mc ms) (hd : decode cc pc = .ok (.istore 7, 2)) (hi : Nat.blt 7 nL = true) (hp : aw_n2 a6 = true) (k : AW X nL (pc + 2) (a0 :: a1 :: a2 :: a3 :: a4 :: a5 :: a6 :: .int x :: t) st L r h ca sa) : AW X nL pc (a0 :: a1 :: a2 :: a3 :: a4 :: a5 :: a6 :: u :: t) (.int x :: st) L r h ca sa := fun H locs la hW hn hS hL => lv_istore C.x C.b hd hL (Nat.le_of_ble_eq_true hi) rfl (fun lb hb => k H locs lb hW hn hS (aw_st1 (i := 7) (ls := a0 :: a1 :: a2 :: a3 :: a4 :: a5 :: a6 :: u :: t) (v := .int x) (show aw_p2 (a0 :: a1 :: a2 :: a3 :: a4 :: a5 :: a6 :: u :: t) 7 = true from hp) rfl hb))
theorem aw_astore_7 {a0 a1 a2 a3 a4 a5 a6 : Value} {t : List Value} {u : Value} {x : Nat} (C : aw_C X own cc nL D mc ms) (hd : decode cc pc = .ok (.astore 7, 2)) (hi : Nat.blt 7 nL = true) (hp : aw_n2 a6 = true) (k : AW X nL (pc + 2) (a0 :: a1 :: a2 :: a3 :: a4 :: a5 :: a6 :: .ref x :: t) st L r h ca sa) : AW X nL pc (a0 :: a1 :: a2 :: a3 :: a4 :: a5 :: a6 :: u :: t) (.ref x :: st) L r h ca sa := fun H locs la hW hn hS hL => lv_astore C.x C.b hd hL (Nat.le_of_ble_eq_true hi) rfl (fun lb hb => k H locs lb hW hn hS (aw_st1 (i := 7) (ls := a0 :: a1 :: a2 :: a3 :: a4 :: a5 :: a6 :: u :: t) (v := .ref x) (show aw_p2 (a0 :: a1 :: a2 :: a3 :: a4 :: a5 :: a6 :: u :: t) 7 = true from hp) rfl hb))
theorem aw_astoreN_7 {a0 a1 a2 a3 a4 a5 a6 : Value} {t : List Value} {u : Value} (C : aw_C X own cc nL D mc ms) (hd : decode cc pc = .ok (.astore 7, 2)) (hi : Nat.blt 7 nL = true) (hp : aw_n2 a6 = true) (k : AW X nL (pc + 2) (a0 :: a1 :: a2 :: a3 :: a4 :: a5 :: a6 :: .null :: t) st L r h ca sa) : AW X nL pc (a0 :: a1 :: a2 :: a3 :: a4 :: a5 :: a6 :: u :: t) (.null :: st) L r h ca sa := fun H locs la hW hn hS hL => lv_astoreN C.x C.b hd hL (Nat.le_of_ble_eq_true hi) rfl (fun lb hb => k H locs lb hW hn hS (aw_st1 (i := 7) (ls := a0 :: a1 :: a2 :: a3 :: a4 :: a5 :: a6 :: u :: t) (v := .null) (show aw_p2 (a0 :: a1 :: a2 :: a3 :: a4 :: a5 :: a6 :: u :: t) 7 = true from hp) rfl hb))
theorem aw_lstore_7 {a0 a1 a2 a3 a4 a5 a6 : Value} {t : List Value} {u u2 : Value} {x : Int64} (C : aw_C X own cc nL D mc ms) (hd : decode cc pc = .ok (.lstore 7, 2)) (hi : Nat.blt 8 nL = true) (hp : aw_n2 a6 = true) (k : AW X nL (pc + 2) (a0 :: a1 :: a2 :: a3 :: a4 :: a5 :: a6 :: .long x :: .retAddr 0 :: t) st L r h ca sa) : AW X nL pc (a0 :: a1 :: a2 :: a3 :: a4 :: a5 :: a6 :: u :: u2 :: t) (.long x :: st) L r h ca sa := fun H locs la hW hn hS hL => lv_lstore C.x C.b hd hL (Nat.le_of_ble_eq_true hi) rfl (fun lb hb => k H locs lb hW hn hS (aw_st2 (i := 7) (z := 0) (ls := a0 :: a1 :: a2 :: a3 :: a4 :: a5 :: a6 :: u :: u2 :: t) (v := .long x) (show aw_p2 (a0 :: a1 :: a2 :: a3 :: a4 :: a5 :: a6 :: u :: u2 :: t) 7 = true from hp) rfl hb))
theorem aw_iinc_7 {a0 a1 a2 a3 a4 a5 a6 : Value} {t : List Value} {x d : Int32} {n : Int} (C : aw_C X own cc nL D mc ms) (hd : decode cc pc = .ok (.iinc 7 n, 3)) (hv : Int32.ofInt n = d) (hi : Nat.blt 7 nL = true) (hp : aw_n2 a6 = true) (k : AW X nL (pc + 3) (a0 :: a1 :: a2 :: a3 :: a4 :: a5 :: a6 :: .int (x + d) :: t) st L r h ca sa) : AW X nL pc (a0 :: a1 :: a2 :: a3 :: a4 :: a5 :: a6 :: .int x :: t) st L r h ca sa := fun H locs la hW hn hS hL => by
  obtain ⟨q, hq⟩ := List.getElem?_of_mem (aw_lv_mem.mpr ⟨7, .int x, rfl, rfl, rfl, rfl⟩ : ((7, .int x) : Nat × Value) ∈ aw_lv (xd X) 0 (a0 :: a1 :: a2 :: a3 :: a4 :: a5 :: a6 :: .int x :: t))
  exact lv_iinc C.x C.b hd hL hq rfl (Nat.le_of_ble_eq_true hi) rfl (fun lb hb => k H locs lb hW hn hS (aw_st1 (i := 7) (ls := a0 :: a1 :: a2 :: a3 :: a4 :: a5 :: a6 :: .int x :: t) (v := .int (x + d)) (show aw_p2 (a0 :: a1 :: a2 :: a3 :: a4 :: a5 :: a6 :: .int x :: t) 7 = true from hp) (by rw [← hv]; rfl) hb))
theorem aw_iload_8 {a0 a1 a2 a3 a4 a5 a6 a7 : Value} {t : List Value} {x : Int32} (C : aw_C X own cc nL D mc ms) (hd : decode cc pc = .ok (.iload 8, 2)) (k : AW X nL (pc + 2) (a0 :: a1 :: a2 :: a3 :: a4 :: a5 :: a6 :: a7 :: .int x :: t) (.int x :: st) L r h ca sa) : AW X nL pc (a0 :: a1 :: a2 :: a3 :: a4 :: a5 :: a6 :: a7 :: .int x :: t) st L r h ca sa := fun H locs la hW hn hS hL => lv_iload C.x C.b hd (aw_ld (w := .int x) (i := 8) hL rfl rfl rfl) (k H locs la hW hn hS hL)
theorem aw_lload_8 {a0 a1 a2 a3 a4 a5 a6 a7 : Value} {t : List Value} {x : Int64} (C : aw_C X own cc nL D mc ms) (hd : decode cc pc = .ok (.lload 8, 2)) (k : AW X nL (pc + 2) (a0 :: a1 :: a2 :: a3 :: a4 :: a5 :: a6 :: a7 :: .long x :: t) (.long x :: st) L r h ca sa) : AW X nL pc (a0 :: a1 :: a2 :: a3 :: a4 :: a5 :: a6 :: a7 :: .long x :: t) st L r h ca sa := fun H locs la hW hn hS hL => lv_lload C.x C.b hd (aw_ld (w := .long x) (i := 8) hL rfl rfl rfl) (k H locs la hW hn hS hL)
theorem aw_aload_8 {a0 a1 a2 a3 a4 a5 a6 a7 : Value} {t : List Value} {x : Nat} (C : aw_C X own cc nL D mc ms) (hd : decode cc pc = .ok (.aload 8, 2)) (k : AW X nL (pc + 2) (a0 :: a1 :: a2 :: a3 :: a4 :: a5 :: a6 :: a7 :: .ref x :: t) (.ref x :: st) L r h ca sa) : AW X nL pc (a0 :: a1 :: a2 :: a3 :: a4 :: a5 :: a6 :: a7 :: .ref x :: t) st L r h ca sa := fun H locs la hW hn hS hL => lv_aload C.x C.b hd (aw_ld (w := .ref (xd X x)) (i := 8) hL rfl rfl rfl) (k H locs la hW hn hS hL)
theorem aw_aloadN_8 {a0 a1 a2 a3 a4 a5 a6 a7 : Value} {t : List Value} (C : aw_C X own cc nL D mc ms) (hd : decode cc pc = .ok (.aload 8, 2)) (k : AW X nL (pc + 2) (a0 :: a1 :: a2 :: a3 :: a4 :: a5 :: a6 :: a7 :: .null :: t) (.null :: st) L r h ca sa) : AW X nL pc (a0 :: a1 :: a2 :: a3 :: a4 :: a5 :: a6 :: a7 :: .null :: t) st L r h ca sa := fun H locs la hW hn hS hL => lv_aloadN C.x C.b hd (aw_ld (w := .null) (i := 8) hL rfl rfl rfl) (k H locs la hW hn hS hL)
theorem aw_istore_8 {a0 a1 a2 a3 a4 a5 a6 a7 : Value} {t : List Value} {u : Value} {x : Int32} (C : aw_C X own cc nL D mc ms) (hd : decode cc pc = .ok (.istore 8, 2)) (hi : Nat.blt 8 nL = true) (hp : aw_n2 a7 = true) (k : AW X nL (pc + 2) (a0 :: a1 :: a2 :: a3 :: a4 :: a5 :: a6 :: a7 :: .int x :: t) st L r h ca sa) : AW X nL pc (a0 :: a1 :: a2 :: a3 :: a4 :: a5 :: a6 :: a7 :: u :: t) (.int x :: st) L r h ca sa := fun H locs la hW hn hS hL => lv_istore C.x C.b hd hL (Nat.le_of_ble_eq_true hi) rfl (fun lb hb => k H locs lb hW hn hS (aw_st1 (i := 8) (ls := a0 :: a1 :: a2 :: a3 :: a4 :: a5 :: a6 :: a7 :: u :: t) (v := .int x) (show aw_p2 (a0 :: a1 :: a2 :: a3 :: a4 :: a5 :: a6 :: a7 :: u :: t) 8 = true from hp) rfl hb))
theorem aw_astore_8 {a0 a1 a2 a3 a4 a5 a6 a7 : Value} {t : List Value} {u : Value} {x : Nat} (C : aw_C X own cc nL D mc ms) (hd : decode cc pc = .ok (.astore 8, 2)) (hi : Nat.blt 8 nL = true) (hp : aw_n2 a7 = true) (k : AW X nL (pc + 2) (a0 :: a1 :: a2 :: a3 :: a4 :: a5 :: a6 :: a7 :: .ref x :: t) st L r h ca sa) : AW X nL pc (a0 :: a1 :: a2 :: a3 :: a4 :: a5 :: a6 :: a7 :: u :: t) (.ref x :: st) L r h ca sa := fun H locs la hW hn hS hL => lv_astore C.x C.b hd hL (Nat.le_of_ble_eq_true hi) rfl (fun lb hb => k H locs lb hW hn hS (aw_st1 (i := 8) (ls := a0 :: a1 :: a2 :: a3 :: a4 :: a5 :: a6 :: a7 :: u :: t) (v := .ref x) (show aw_p2 (a0 :: a1 :: a2 :: a3 :: a4 :: a5 :: a6 :: a7 :: u :: t) 8 = true from hp) rfl hb))
theorem aw_astoreN_8 {a0 a1 a2 a3 a4 a5 a6 a7 : Value} {t : List Value} {u : Value} (C : aw_C X own cc nL D mc ms) (hd : decode cc pc = .ok (.astore 8, 2)) (hi : Nat.blt 8 nL = true) (hp : aw_n2 a7 = true) (k : AW X nL (pc + 2) (a0 :: a1 :: a2 :: a3 :: a4 :: a5 :: a6 :: a7 :: .null :: t) st L r h ca sa) : AW X nL pc (a0 :: a1 :: a2 :: a3 :: a4 :: a5 :: a6 :: a7 :: u :: t) (.null :: st) L r h ca sa := fun H locs la hW hn hS hL => lv_astoreN C.x C.b hd hL (Nat.le_of_ble_eq_true hi) rfl (fun lb hb => k H locs lb hW hn hS (aw_st1 (i := 8) (ls := a0 :: a1 :: a2 :: a3 :: a4 :: a5 :: a6 :: a7 :: u :: t) (v := .null) (show aw_p2 (a0 :: a1 :: a2 :: a3 :: a4 :: a5 :: a6 :: a7 :: u :: t) 8 = true from hp) rfl hb))
theorem aw_lstore_8 {a0 a1 a2 a3 a4 a5 a6 a7 : Value} {t : List Value} {u u2 : Value} {x : Int64} (C : aw_C X own cc nL D mc ms) (hd : decode cc pc = .ok (.lstore 8, 2)) (hi : Nat.blt 9 nL = true) (hp : aw_n2 a7 = true) (k : AW X nL (pc + 2) (a0 :: a1 :: a2 :: a3 :: a4 :: a5 :: a6 :: a7 :: .long x :: .retAddr 0 :: t) st L r h ca sa) : AW X nL pc (a0 :: a1 :: a2 :: a3 :: a4 :: a5 :: a6 :: a7 :: u :: u2 :: t) (.long x :: st) L r h ca sa := fun H locs la hW hn hS hL => lv_lstore C.x C.b hd hL (Nat.le_of_ble_eq_true hi) rfl (fun lb hb => k H locs lb hW hn hS (aw_st2 (i := 8) (z := 0) (ls := a0 :: a1 :: a2 :: a3 :: a4 :: a5 :: a6 :: a7 :: u :: u2 :: t) (v := .long x) (show aw_p2 (a0 :: a1 :: a2 :: a3 :: a4 :: a5 :: a6 :: a7 :: u :: u2 :: t) 8 = true from hp) rfl hb))
theorem aw_iinc_8 {a0 a1 a2 a3 a4 a5 a6 a7 : Value} {t : List Value} {x d : Int32} {n : Int} (C : aw_C X own cc nL D mc ms) (hd : decode cc pc = .ok (.iinc 8 n, 3)) (hv : Int32.ofInt n = d) (hi : Nat.blt 8 nL = true) (hp : aw_n2 a7 = true) (k : AW X nL (pc + 3) (a0 :: a1 :: a2 :: a3 :: a4 :: a5 :: a6 :: a7 :: .int (x + d) :: t) st L r h ca sa) : AW X nL pc (a0 :: a1 :: a2 :: a3 :: a4 :: a5 :: a6 :: a7 :: .int x :: t) st L r h ca sa := fun H locs la hW hn hS hL => by
  obtain ⟨q, hq⟩ := List.getElem?_of_mem (aw_lv_mem.mpr ⟨8, .int x, rfl, rfl, rfl, rfl⟩ : ((8, .int x) : Nat × Value) ∈ aw_lv (xd X) 0 (a0 :: a1 :: a2 :: a3 :: a4 :: a5 :: a6 :: a7 :: .int x :: t))
  exact lv_iinc C.x C.b hd hL hq rfl (Nat.le_of_ble_eq_true hi) rfl (fun lb hb => k H locs lb hW hn hS (aw_st1 (i := 8) (ls := a0 :: a1 :: a2 :: a3 :: a4 :: a5 :: a6 :: a7 :: .int x :: t) (v := .int (x + d)) (show aw_p2 (a0 :: a1 :: a2 :: a3 :: a4 :: a5 :: a6 :: a7 :: .int x :: t) 8 = true from hp) (by rw [← hv]; rfl) hb))
theorem aw_iload_9 {a0 a1 a2 a3 a4 a5 a6 a7 a8 : Value} {t : List Value} {x : Int32} (C : aw_C X own cc nL D mc ms) (hd : decode cc pc = .ok (.iload 9, 2)) (k : AW X nL (pc + 2) (a0 :: a1 :: a2 :: a3 :: a4 :: a5 :: a6 :: a7 :: a8 :: .int x :: t) (.int x :: st) L r h ca sa) : AW X nL pc (a0 :: a1 :: a2 :: a3 :: a4 :: a5 :: a6 :: a7 :: a8 :: .int x :: t) st L r h ca sa := fun H locs la hW hn hS hL => lv_iload C.x C.b hd (aw_ld (w := .int x) (i := 9) hL rfl rfl rfl) (k H locs la hW hn hS hL)
theorem aw_lload_9 {a0 a1 a2 a3 a4 a5 a6 a7 a8 : Value} {t : List Value} {x : Int64} (C : aw_C X own cc nL D mc ms) (hd : decode cc pc = .ok (.lload 9, 2)) (k : AW X nL (pc + 2) (a0 :: a1 :: a2 :: a3 :: a4 :: a5 :: a6 :: a7 :: a8 :: .long x :: t) (.long x :: st) L r h ca sa) : AW X nL pc (a0 :: a1 :: a2 :: a3 :: a4 :: a5 :: a6 :: a7 :: a8 :: .long x :: t) st L r h ca sa := fun H locs la hW hn hS hL => lv_lload C.x C.b hd (aw_ld (w := .long x) (i := 9) hL rfl rfl rfl) (k H locs la hW hn hS hL)
theorem aw_aload_9 {a0 a1 a2 a3 a4 a5 a6 a7 a8 : Value} {t : List Value} {x : Nat} (C : aw_C X own cc nL D mc ms) (hd : decode cc pc = .ok (.aload 9, 2)) (k : AW X nL (pc + 2) (a0 :: a1 :: a2 :: a3 :: a4 :: a5 :: a6 :: a7 :: a8 :: .ref x :: t) (.ref x :: st) L r h ca sa) : AW X nL pc (a0 :: a1 :: a2 :: a3 :: a4 :: a5 :: a6 :: a7 :: a8 :: .ref x :: t) st L r h ca sa := fun H locs la hW hn hS hL => lv_aload C.x C.b hd (aw_ld (w := .ref (xd X x)) (i := 9) hL rfl rfl rfl) (k H locs la hW hn hS hL)
theorem aw_aloadN_9 {a0 a1 a2 a3 a4 a5 a6 a7 a8 : Value} {t : List Value} (C : aw_C X own cc nL D mc ms) (hd : decode cc pc = .ok (.aload 9, 2)) (k : AW X nL (pc + 2) (a0 :: a1 :: a2 :: a3 :: a4 :: a5 :: a6 :: a7 :: a8 :: .null :: t) (.null :: st) L r h ca sa) : AW X nL pc (a0 :: a1 :: a2 :: a3 :: a4 :: a5 :: a6 :: a7 :: a8 :: .null :: t) st L r h ca sa := fun H locs la hW hn hS hL => lv_aloadN C.x C.b hd (aw_ld (w := .null) (i := 9) hL rfl rfl rfl) (k H locs la hW hn hS hL)
theorem aw_istore_9 {a0 a1 a2 a3 a4 a5 a6 a7 a8 : Value} {t : List Value} {u : Value} {x : Int32} (C : aw_C X own cc nL D mc ms) (hd : decode cc pc = .ok (.istore 9, 2)) (hi : Nat.blt 9 nL = true) (hp : aw_n2 a8 = true) (k : AW X nL (pc + 2) (a0 :: a1 :: a2 :: a3 :: a4 :: a5 :: a6 :: a7 :: a8 :: .int x :: t) st L r h ca sa) : AW X nL pc (a0 :: a1 :: a2 :: a3 :: a4 :: a5 :: a6 :: a7 :: a8 :: u :: t) (.int x :: st) L r h ca sa := fun H locs la hW hn hS hL => lv_istore C.x C.b hd hL (Nat.le_of_ble_eq_true hi) rfl (fun lb hb => k H locs lb hW hn hS (aw_st1 (i := 9) (ls := a0 :: a1 :: a2 :: a3 :: a4 :: a5 :: a6 :: a7 :: a8 :: u :: t) (v := .int x) (show aw_p2 (a0 :: a1 :: a2 :: a3 :: a4 :: a5 :: a6 :: a7 :: a8 :: u :: t) 9 = true from hp) rfl hb))
theorem aw_astore_9 {a0 a1 a2 a3 a4 a5 a6 a7 a8 : Value} {t : List Value} {u : Value} {x : Nat} (C : aw_C X own cc nL D mc ms) (hd : decode cc pc = .ok (.astore 9, 2)) (hi : Nat.blt 9 nL = true) (hp : aw_n2 a8 = true) (k : AW X nL (pc + 2) (a0 :: a1 :: a2 :: a3 :: a4 :: a5 :: a6 :: a7 :: a8 :: .ref x :: t) st L r h ca sa) : AW X nL pc (a0 :: a1 :: a2 :: a3 :: a4 :: a5 :: a6 :: a7 :: a8 :: u :: t) (.ref x :: st) L r h ca sa := fun H locs la hW hn hS hL => lv_astore C.x C.b hd hL (Nat.le_of_ble_eq_true hi) rfl (fun lb hb => k H locs lb hW hn hS (aw_st1 (i := 9) (ls := a0 :: a1 :: a2 :: a3 :: a4 :: a5 :: a6 :: a7 :: a8 :: u :: t) (v := .ref x) (show aw_p2 (a0 :: a1 :: a2 :: a3 :: a4 :: a5 :: a6 :: a7 :: a8 :: u :: t) 9 = true from hp) rfl hb))
theorem aw_astoreN_9 {a0 a1 a2 a3 a4 a5 a6 a7 a8 : Value} {t : List Value} {u : Value} (C : aw_C X own cc nL D mc ms) (hd : decode cc pc = .ok (.astore 9, 2)) (hi : Nat.blt 9 nL = true) (hp : aw_n2 a8 = true) (k : AW X nL (pc + 2) (a0 :: a1 :: a2 :: a3 :: a4 :: a5 :: a6 :: a7 :: a8 :: .null :: t) st L r h ca sa) : AW X nL pc (a0 :: a1 :: a2 :: a3 :: a4 :: a5 :: a6 :: a7 :: a8 :: u :: t) (.null :: st) L r h ca sa := fun H locs la hW hn hS hL => lv_astoreN C.x C.b hd hL (Nat.le_of_ble_eq_true hi) rfl (fun lb hb => k H locs lb hW hn hS (aw_st1 (i := 9) (ls := a0 :: a1 :: a2 :: a3 :: a4 :: a5 :: a6 :: a7 :: a8 :: u :: t) (v := .null) (show aw_p2 (a0 :: a1 :: a2 :: a3 :: a4 :: a5 :: a6 :: a7 :: a8 :: u :: t) 9 = true from hp) rfl hb))
theorem aw_lstore_9 {a0 a1 a2 a3 a4 a5 a6 a7 a8 : Value} {t : List Value} {u u2 : Value} {x : Int64} (C : aw_C X own cc nL D mc ms) (hd : decode cc pc = .ok (.lstore 9, 2)) (hi : Nat.blt 10 nL = true) (hp : aw_n2 a8 = true) (k : AW X nL (pc + 2) (a0 :: a1 :: a2 :: a3 :: a4 :: a5 :: a6 :: a7 :: a8 :: .long x :: .retAddr 0 :: t) st L r h ca sa) : AW X nL pc (a0 :: a1 :: a2 :: a3 :: a4 :: a5 :: a6 :: a7 :: a8 :: u :: u2 :: t) (.long x :: st) L r h ca sa := fun H locs la hW hn hS hL => lv_lstore C.x C.b hd hL (Nat.le_of_ble_eq_true hi) rfl (fun lb hb => k H locs lb hW hn hS (aw_st2 (i := 9) (z := 0) (ls := a0 :: a1 :: a2 :: a3 :: a4 :: a5 :: a6 :: a7 :: a8 :: u :: u2 :: t) (v := .long x) (show aw_p2 (a0 :: a1 :: a2 :: a3 :: a4 :: a5 :: a6 :: a7 :: a8 :: u :: u2 :: t) 9 = true from hp) rfl hb))
theorem aw_iinc_9 {a0 a1 a2 a3 a4 a5 a6 a7 a8 : Value} {t : List Value} {x d : Int32} {n : Int} (C : aw_C X own cc nL D mc ms) (hd : decode cc pc = .ok (.iinc 9 n, 3)) (hv : Int32.ofInt n = d) (hi : Nat.blt 9 nL = true) (hp : aw_n2 a8 = true) (k : AW X nL (pc + 3) (a0 :: a1 :: a2 :: a3 :: a4 :: a5 :: a6 :: a7 :: a8 :: .int (x + d) :: t) st L r h ca sa) : AW X nL pc (a0 :: a1 :: a2 :: a3 :: a4 :: a5 :: a6 :: a7 :: a8 :: .int x :: t) st L r h ca sa := fun H locs la hW hn hS hL => by
  obtain ⟨q, hq⟩ := List.getElem?_of_mem (aw_lv_mem.mpr ⟨9, .int x, rfl, rfl, rfl, rfl⟩ : ((9, .int x) : Nat × Value) ∈ aw_lv (xd X) 0 (a0 :: a1 :: a2 :: a3 :: a4 :: a5 :: a6 :: a7 :: a8 :: .int x :: t))
  exact lv_iinc C.x C.b hd hL hq rfl (Nat.le_of_ble_eq_true hi) rfl (fun lb hb => k H locs lb hW hn hS (aw_st1 (i := 9) (ls := a0 :: a1 :: a2 :: a3 :: a4 :: a5 :: a6 :: a7 :: a8 :: .int x :: t) (v := .int (x + d)) (show aw_p2 (a0 :: a1 :: a2 :: a3 :: a4 :: a5 :: a6 :: a7 :: a8 :: .int x :: t) 9 = true from hp) (by rw [← hv]; rfl) hb))
theorem aw_iload_10 {a0 a1 a2 a3 a4 a5 a6 a7 a8 a9 : Value} {t : List Value} {x : Int32} (C : aw_C X own cc nL D mc ms) (hd : decode cc pc = .ok (.iload 10, 2)) (k : AW X nL (pc + 2) (a0 :: a1 :: a2 :: a3 :: a4 :: a5 :: a6 :: a7 :: a8 :: a9 :: .int x :: t) (.int x :: st) L r h ca sa) : AW X nL pc (a0 :: a1 :: a2 :: a3 :: a4 :: a5 :: a6 :: a7 :: a8 :: a9 :: .int x :: t) st L r h ca sa := fun H locs la hW hn hS hL => lv_iload C.x C.b hd (aw_ld (w := .int x) (i := 10) hL rfl rfl rfl) (k H locs la hW hn hS hL)
theorem aw_lload_10 {a0 a1 a2 a3 a4 a5 a6 a7 a8 a9 : Value} {t : List Value} {x : Int64} (C : aw_C X own cc nL D mc ms) (hd : decode cc pc = .ok (.lload 10, 2)) (k : AW X nL (pc + 2) (a0 :: a1 :: a2 :: a3 :: a4 :: a5 :: a6 :: a7 :: a8 :: a9 :: .long x :: t) (.long x :: st) L r h ca sa) : AW X nL pc (a0 :: a1 :: a2 :: a3 :: a4 :: a5 :: a6 :: a7 :: a8 :: a9 :: .long x :: t) st L r h ca sa := fun H locs la hW hn hS hL => lv_lload C.x C.b hd (aw_ld (w := .long x) (i := 10) hL rfl rfl rfl) (k H locs la hW hn hS hL)
theorem aw_aload_10 {a0 a1 a2 a3 a4 a5 a6 a7 a8 a9 : Value} {t : List Value} {x : Nat} (C : aw_C X own cc nL D mc ms) (hd : decode cc pc = .ok (.aload 10, 2)) (k : AW X nL (pc + 2) (a0 :: a1 :: a2 :: a3 :: a4 :: a5 :: a6 :: a7 :: a8 :: a9 :: .ref x :: t) (.ref x :: st) L r h ca sa) : AW X nL pc (a0 :: a1 :: a2 :: a3 :: a4 :: a5 :: a6 :: a7 :: a8 :: a9 :: .ref x :: t) st L r h ca sa := fun H locs la hW hn hS hL => lv_aload C.x C.b hd (aw_ld (w := .ref (xd X x)) (i := 10) hL rfl rfl rfl) (k H locs la hW hn hS hL)
theorem aw_aloadN_10 {a0 a1 a2 a3 a4 a5 a6 a7 a8 a9 : Value} {t : List Value} (C : aw_C X own cc nL D mc ms) (hd : decode cc pc = .ok (.aload 10, 2)) (k : AW X nL (pc + 2) (a0 :: a1 :: a2 :: a3 :: a4 :: a5 :: a6 :: a7 :: a8 :: a9 :: .null :: t) (.null :: st) L r h ca sa) : AW X nL pc (a0 :: a1 :: a2 :: a3 :: a4 :: a5 :: a6 :: a7 :: a8 :: a9 :: .null :: t) st L r h ca sa := fun H locs la hW hn hS hL => lv_aloadN C.x C.b hd (aw_ld (w := .null) (i := 10) hL rfl rfl rfl) (k H locs la hW hn hS hL)
theorem aw_istore_10 {a0 a1 a2 a3 a4 a5 a6 a7 a8 a9 : Value} {t : List Value} {u : Value} {x : Int32} (C : aw_C X own cc nL D mc ms) (hd : decode cc pc = .ok (.istore 10, 2)) (hi : Nat.blt 10 nL = true) (hp : aw_n2 a9 = true) (k : AW X nL (pc + 2) (a0 :: a1 :: a2 :: a3 :: a4 :: a5 :: a6 :: a7 :: a8 :: a9 :: .int x :: t) st L r h ca sa) : AW X nL pc (a0 :: a1 :: a2 :: a3 :: a4 :: a5 :: a6 :: a7 :: a8 :: a9 :: u :: t) (.int x :: st) L r h ca sa := fun H locs la hW hn hS hL => lv_istore C.x C.b hd hL (Nat.le_of_ble_eq_true hi) rfl (fun lb hb => k H locs lb hW hn hS (aw_st1 (i := 10) (ls := a0 :: a1 :: a2 :: a3 :: a4 :: a5 :: a6 :: a7 :: a8 :: a9 :: u :: t) (v := .int x) (show aw_p2 (a0 :: a1 :: a2 :: a3 :: a4 :: a5 :: a6 :: a7 :: a8 :: a9 :: u :: t) 10 = true from hp) rfl hb))
theorem aw_astore_10 {a0 a1 a2 a3 a4 a5 a6 a7 a8 a9 : Value} {t : List Value} {u : Value} {x : Nat} (C : aw_C X own cc nL D mc ms) (hd : decode cc pc = .ok (.astore 10, 2)) (hi : Nat.blt 10 nL = true) (hp : aw_n2 a9 = true) (k : AW X nL (pc + 2) (a0 :: a1 :: a2 :: a3 :: a4 :: a5 :: a6 :: a7 :: a8 :: a9 :: .ref x :: t) st L r h ca sa) : AW X nL pc (a0 :: a1 :: a2 :: a3 :: a4 :: a5 :: a6 :: a7 :: a8 :: a9 :: u :: t) (.ref x :: st) L r h ca sa := fun H locs la hW hn hS hL => lv_astore C.x C.b hd hL (Nat.le_of_ble_eq_true hi) rfl (fun lb hb => k H locs lb hW hn hS (aw_st1 (i := 10) (ls := a0 :: a1 :: a2 :: a3 :: a4 :: a5 :: a6 :: a7 :: a8 :: a9 :: u :: t) (v := .ref x) (show aw_p2 (a0 :: a1 :: a2 :: a3 :: a4 :: a5 :: a6 :: a7 :: a8 :: a9 :: u :: t) 10 = true from hp) rfl hb))
theorem aw_astoreN_10 {a0 a1 a2 a3 a4 a5 a6 a7 a8 a9 : Value} {t : List Value} {u : Value} (C : aw_C X own cc nL D mc ms) (hd : decode cc pc = .ok (.astore 10, 2)) (hi : Nat.blt 10 nL = true) (hp : aw_n2 a9 = true) (k : AW X nL (pc + 2) (a0 :: a1 :: a2 :: a3 :: a4 :: a5 :: a6 :: a7 :: a8 :: a9 :: .null :: t) st L r h ca sa) : AW X nL pc (a0 :: a1 :: a2 :: a3 :: a4 :: a5 :: a6 :: a7 :: a8 :: a9 :: u :: t) (.null :: st) L r h ca sa := fun H locs la hW hn hS hL => lv_astoreN C.x C.b hd hL (Nat.le_of_ble_eq_true hi) rfl (fun lb hb => k H locs lb hW hn hS (aw_st1 (i := 10) (ls := a0 :: a1 :: a2 :: a3 :: a4 :: a5 :: a6 :: a7 :: a8 :: a9 :: u :: t) (v := .null) (show aw_p2 (a0 :: a1 :: a2 :: a3 :: a4 :: a5 :: a6 :: a7 :: a8 :: a9 :: u :: t) 10 = true from hp) rfl hb))
theorem aw_lstore_10 {a0 a1 a2 a3 a4 a5 a6 a7 a8 a9 : Value} {t : List Value} {u u2 : Value} {x : Int64} (C : aw_C X own cc nL D mc ms) (hd : decode cc pc = .ok (.lstore 10, 2)) (hi : Nat.blt 11 nL = true) (hp : aw_n2 a9 = true) (k : AW X nL (pc + 2) (a0 :: a1 :: a2 :: a3 :: a4 :: a5 :: a6 :: a7 :: a8 :: a9 :: .long x :: .retAddr 0 :: t) st L r h ca sa) : AW X nL pc (a0 :: a1 :: a2 :: a3 :: a4 :: a5 :: a6 :: a7 :: a8 :: a9 :: u :: u2 :: t) (.long x :: st) L r h ca sa := fun H locs la hW hn hS hL => lv_lstore C.x C.b hd hL (Nat.le_of_ble_eq_true hi) rfl (fun lb hb => k H locs lb hW hn hS (aw_st2 (i := 10) (z := 0) (ls := a0 :: a1 :: a2 :: a3 :: a4 :: a5 :: a6 :: a7 :: a8 :: a9 :: u :: u2 :: t) (v := .long x) (show aw_p2 (a0 :: a1 :: a2 :: a3 :: a4 :: a5 :: a6 :: a7 :: a8 :: a9 :: u :: u2 :: t) 10 = true from hp) rfl hb))
theorem aw_iinc_10 {a0 a1 a2 a3 a4 a5 a6 a7 a8 a9 : Value} {t : List Value} {x d : Int32} {n : Int} (C : aw_C X own cc nL D mc ms) (hd : decode cc pc = .ok (.iinc 10 n, 3)) (hv : Int32.ofInt n = d) (hi : Nat.blt 10 nL = true) (hp : aw_n2 a9 = true) (k : AW X nL (pc + 3) (a0 :: a1 :: a2 :: a3 :: a4 :: a5 :: a6 :: a7 :: a8 :: a9 :: .int (x + d) :: t) st L r h ca sa) : AW X nL pc (a0 :: a1 :: a2 :: a3 :: a4 :: a5 :: a6 :: a7 :: a8 :: a9 :: .int x :: t) st L r h ca sa := fun H locs la hW hn hS hL => by
  obtain ⟨q, hq⟩ := List.getElem?_of_mem (aw_lv_mem.mpr ⟨10, .int x, rfl, rfl, rfl, rfl⟩ : ((10, .int x) : Nat × Value) ∈ aw_lv (xd X) 0 (a0 :: a1 :: a2 :: a3 :: a4 :: a5 :: a6 :: a7 :: a8 :: a9 :: .int x :: t))
  exact lv_iinc C.x C.b hd hL hq rfl (Nat.le_of_ble_eq_true hi) rfl (fun lb hb => k H locs lb hW hn hS (aw_st1 (i := 10) (ls := a0 :: a1 :: a2 :: a3 :: a4 :: a5 :: a6 :: a7 :: a8 :: a9 :: .int x :: t) (v := .int (x + d)) (show aw_p2 (a0 :: a1 :: a2 :: a3 :: a4 :: a5 :: a6 :: a7 :: a8 :: a9 :: .int x :: t) 10 = true from hp) (by rw [← hv]; rfl) hb))
theorem aw_iload_11 {a0 a1 a2 a3 a4 a5 a6 a7 a8 a9 a10 : Value} {t : List Value} {x : Int32} (C : aw_C X own cc nL D mc ms) (hd : decode cc pc = .ok (.iload 11, 2)) (k : AW X nL (pc + 2) (a0 :: a1 :: a2 :: a3 :: a4 :: a5 :: a6 :: a7 :: a8 :: a9 :: a10 :: .int x :: t) (.int x :: st) L r h ca sa) : AW X nL pc (a0 :: a1 :: a2 :: a3 :: a4 :: a5 :: a6 :: a7 :: a8 :: a9 :: a10 :: .int x :: t) st L r h ca sa := fun H locs la hW hn hS hL => lv_iload C.x C.b hd (aw_ld (w := .int x) (i := 11) hL rfl rfl rfl) (k H locs la hW hn hS hL)
theorem aw_lload_11 {a0 a1 a2 a3 a4 a5 a6 a7 a8 a9 a10 : Value} {t : List Value} {x : Int64} (C : aw_C X own cc nL D mc ms) (hd : decode cc pc = .ok (.lload 11, 2)) (k : AW X nL (pc + 2) (a0 :: a1 :: a2 :: a3 :: a4 :: a5 :: a6 :: a7 :: a8 :: a9 :: a10 :: .long x :: t) (.long x :: st) L r h ca sa) : AW X nL pc (a0 :: a1 :: a2 :: a3 :: a4 :: a5 :: a6 :: a7 :: a8 :: a9 :: a10 :: .long x :: t) st L r h ca sa := fun H locs la hW hn hS hL => lv_lload C.x C.b hd (aw_ld (w := .long x) (i := 11) hL rfl rfl rfl) (k H locs la hW hn hS hL)
theorem aw_aload_11 {a0 a1 a2 a3 a4 a5 a6 a7 a8 a9 a10 : Value} {t : List Value} {x : Nat} (C : aw_C X own cc nL D mc ms) (hd : decode cc pc = .ok (.aload 11, 2)) (k : AW X nL (pc + 2) (a0 :: a1 :: a2 :: a3 :: a4 :: a5 :: a6 :: a7 :: a8 :: a9 :: a10 :: .ref x :: t) (.ref x :: st) L r h ca sa) : AW X nL pc (a0 :: a1 :: a2 :: a3 :: a4 :: a5 :: a6 :: a7 :: a8 :: a9 :: a10 :: .ref x :: t) st L r h ca sa := fun H locs la hW hn hS hL => lv_aload C.x C.b hd (aw_ld (w := .ref (xd X x)) (i := 11) hL rfl rfl rfl) (k H locs la hW hn hS hL)
theorem aw_aloadN_11 {a0 a1 a2 a3 a4 a5 a6 a7 a8 a9 a10 : Value} {t : List Value} (C : aw_C X own cc nL D mc ms) (hd : decode cc pc = .ok (.aload 11, 2)) (k : AW X nL (pc + 2) (a0 :: a1 :: a2 :: a3 :: a4 :: a5 :: a6 :: a7 :: a8 :: a9 :: a10 :: .null :: t) (.null :: st) L r h ca sa) : AW X nL pc (a0 :: a1 :: a2 :: a3 :: a4 :: a5 :: a6 :: a7 :: a8 :: a9 :: a10 :: .null :: t) st L r h ca sa := fun H locs la hW hn hS hL => lv_aloadN C.x C.b hd (aw_ld (w := .null) (i := 11) hL rfl rfl rfl) (k H locs la hW hn hS hL)
theorem aw_istore_11 {a0 a1 a2 a3 a4 a5 a6 a7 a8 a9 a10 : Value} {t : List Value} {u : Value} {x : Int32} (C : aw_C X own cc nL D mc ms) (hd : decode cc pc = .ok (.istore 11, 2)) (hi : Nat.blt 11 nL = true) (hp : aw_n2 a10 = true) (k : AW X nL (pc + 2) (a0 :: a1 :: a2 :: a3 :: a4 :: a5 :: a6 :: a7 :: a8 :: a9 :: a10 :: .int x :: t) st L r h ca sa) : AW X nL pc (a0 :: a1 :: a2 :: a3 :: a4 :: a5 :: a6 :: a7 :: a8 :: a9 :: a10 :: u :: t) (.int x :: st) L r h ca sa := fun H locs la hW hn hS hL => lv_istore C.x C.b hd hL (Nat.le_of_ble_eq_true hi) rfl (fun lb hb => k H locs lb hW hn hS (aw_st1 (i := 11) (ls := a0 :: a1 :: a2 :: a3 :: a4 :: a5 :: a6 :: a7 :: a8 :: a9 :: a10 :: u :: t) (v := .int x) (show aw_p2 (a0 :: a1 :: a2 :: a3 :: a4 :: a5 :: a6 :: a7 :: a8 :: a9 :: a10 :: u :: t) 11 = true from hp) rfl hb))
theorem aw_astore_11 {a0 a1 a2 a3 a4 a5 a6 a7 a8 a9 a10 : Value} {t : List Value} {u : Value} {x : Nat} (C : aw_C X own cc nL D mc ms) (hd : decode cc pc = .ok (.astore 11, 2)) (hi : Nat.blt 11 nL = true) (hp : aw_n2 a10 = true) (k : AW X nL (pc + 2) (a0 :: a1 :: a2 :: a3 :: a4 :: a5 :: a6 :: a7 :: a8 :: a9 :: a10 :: .ref x :: t) st L r h ca sa) : AW X nL pc (a0 :: a1 :: a2 :: a3 :: a4 :: a5 :: a6 :: a7 :: a8 :: a9 :: a10 :: u :: t) (.ref x :: st) L r h ca sa := fun H locs la hW hn hS hL => lv_astore C.x C.b hd hL (Nat.le_of_ble_eq_true hi) rfl (fun lb hb => k H locs lb hW hn hS (aw_st1 (i := 11) (ls := a0 :: a1 :: a2 :: a3 :: a4 :: a5 :: a6 :: a7 :: a8 :: a9 :: a10 :: u :: t) (v := .ref x) (show aw_p2 (a0 :: a1 :: a2 :: a3 :: a4 :: a5 :: a6 :: a7 :: a8 :: a9 :: a10 :: u :: t) 11 = true from hp) rfl hb))
theorem aw_astoreN_11 {a0 a1 a2 a3 a4 a5 a6 a7 a8 a9 a10 : Value} {t : List Value} {u : Value} (C : aw_C X own cc nL D mc ms) (hd : decode cc pc = .ok (.astore 11, 2)) (hi : Nat.blt 11 nL = true) (hp : aw_n2 a10 = true) (k : AW X nL (pc + 2) (a0 :: a1 :: a2 :: a3 :: a4 :: a5 :: a6 :: a7 :: a8 :: a9 :: a10 :: .null :: t) st L r h ca sa) : AW X nL pc (a0 :: a1 :: a2 :: a3 :: a4 :: a5 :: a6 :: a7 :: a8 :: a9 :: a10 :: u :: t) (.null :: st) L r h ca sa := fun H locs la hW hn hS hL => lv_astoreN C.x C.b hd hL (Nat.le_of_ble_eq_true hi) rfl (fun lb hb => k H locs lb hW hn hS (aw_st1 (i := 11) (ls := a0 :: a1 :: a2 :: a3 :: a4 :: a5 :: a6 :: a7 :: a8 :: a9 :: a10 :: u :: t) (v := .null) (show aw_p2 (a0 :: a1 :: a2 :: a3 :: a4 :: a5 :: a6 :: a7 :: a8 :: a9 :: a10 :: u :: t) 11 = true from hp) rfl hb))
theorem aw_lstore_11 {a0 a1 a2 a3 a4 a5 a6 a7 a8 a9 a10 : Value} {t : List Value} {u u2 : Value} {x : Int64} (C : aw_C X own cc nL D mc ms) (hd : decode cc pc = .ok (.lstore 11, 2)) (hi : Nat.blt 12 nL = true) (hp : aw_n2 a10 = true) (k : AW X nL (pc + 2) (a0 :: a1 :: a2 :: a3 :: a4 :: a5 :: a6 :: a7 :: a8 :: a9 :: a10 :: .long x :: .retAddr 0 :: t) st L r h ca sa) : AW X nL pc (a0 :: a1 :: a2 :: a3 :: a4 :: a5 :: a6 :: a7 :: a8 :: a9 :: a10 :: u :: u2 :: t) (.long x :: st) L r h ca sa := fun H locs la hW hn hS hL => lv_lstore C.x C.b hd hL (Nat.le_of_ble_eq_true hi) rfl (fun lb hb => k H locs lb hW hn hS (aw_st2 (i := 11) (z := 0) (ls := a0 :: a1 :: a2 :: a3 :: a4 :: a5 :: a6 :: a7 :: a8 :: a9 :: a10 :: u :: u2 :: t) (v := .long x) (show aw_p2 (a0 :: a1 :: a2 :: a3 :: a4 :: a5 :: a6 :: a7 :: a8 :: a9 :: a10 :: u :: u2 :: t) 11 = true from hp) rfl hb))
theorem aw_iinc_11 {a0 a1 a2 a3 a4 a5 a6 a7 a8 a9 a10 : Value} {t : List Value} {x d : Int32} {n : Int} (C : aw_C X own cc nL D mc ms) (hd : decode cc pc = .ok (.iinc 11 n, 3)) (hv : Int32.ofInt n = d) (hi : Nat.blt 11 nL = true) (hp : aw_n2 a10 = true) (k : AW X nL (pc + 3) (a0 :: a1 :: a2 :: a3 :: a4 :: a5 :: a6 :: a7 :: a8 :: a9 :: a10 :: .int (x + d) :: t) st L r h ca sa) : AW X nL pc (a0 :: a1 :: a2 :: a3 :: a4 :: a5 :: a6 :: a7 :: a8 :: a9 :: a10 :: .int x :: t) st L r h ca sa := fun H locs la hW hn hS hL => by
  obtain ⟨q, hq⟩ := List.getElem?_of_mem (aw_lv_mem.mpr ⟨11, .int x, rfl, rfl, rfl, rfl⟩ : ((11, .int x) : Nat × Value) ∈ aw_lv (xd X) 0 (a0 :: a1 :: a2 :: a3 :: a4 :: a5 :: a6 :: a7 :: a8 :: a9 :: a10 :: .int x :: t))
  exact lv_iinc C.x C.b hd hL hq rfl (Nat.le_of_ble_eq_true hi) rfl (fun lb hb => k H locs lb hW hn hS (aw_st1 (i := 11) (ls := a0 :: a1 :: a2 :: a3 :: a4 :: a5 :: a6 :: a7 :: a8 :: a9 :: a10 :: .int x :: t) (v := .int (x + d)) (show aw_p2 (a0 :: a1 :: a2 :: a3 :: a4 :: a5 :: a6 :: a7 :: a8 :: a9 :: a10 :: .int x :: t) 11 = true from hp) (by rw [← hv]; rfl) hb))
theorem aw_iload_12 {a0 a1 a2 a3 a4 a5 a6 a7 a8 a9 a10 a11 : Value} {t : List Value} {x : Int32} (C : aw_C X own cc nL D mc ms) (hd : decode cc pc = .ok (.iload 12, 2)) (k : AW X nL (pc + 2) (a0 :: a1 :: a2 :: a3 :: a4 :: a5 :: a6 :: a7 :: a8 :: a9 :: a10 :: a11 :: .int x :: t) (.int x :: st) L r h ca sa) : AW X nL pc (a0 :: a1 :: a2 :: a3 :: a4 :: a5 :: a6 :: a7 :: a8 :: a9 :: a10 :: a11 :: .int x :: t) st L r h ca sa := fun H locs la hW hn hS hL => lv_iload C.x C.b hd (aw_ld (w := .int x) (i := 12) hL rfl rfl rfl) (k H locs la hW hn hS hL)
theorem aw_lload_12 {a0 a1 a2 a3 a4 a5 a6 a7 a8 a9 a10 a11 : Value} {t : List Value} {x : Int64} (C : aw_C X own cc nL D mc ms) (hd : decode cc pc = .ok (.lload 12, 2)) (k : AW X nL (pc + 2) (a0 :: a1 :: a2 :: a3 :: a4 :: a5 :: a6 :: a7 :: a8 :: a9 :: a10 :: a11 :: .long x :: t) (.long x :: st) L r h ca sa) : AW X nL pc (a0 :: a1 :: a2 :: a3 :: a4 :: a5 :: a6 :: a7 :: a8 :: a9 :: a10 :: a11 :: .long x :: t) st L r h ca sa := fun H locs la hW hn hS hL => lv_lload C.x C.b hd (aw_ld (w := .long x) (i := 12) hL rfl rfl rfl) (k H locs la hW hn hS hL)
theorem aw_aload_12 {a0 a1 a2 a3 a4 a5 a6 a7 a8 a9 a10 a11 : Value} {t : List Value} {x : Nat} (C : aw_C X own cc nL D mc ms) (hd : decode cc pc = .ok (.aload 12, 2)) (k : AW X nL (pc + 2) (a0 :: a1 :: a2 :: a3 :: a4 :: a5 :: a6 :: a7 :: a8 :: a9 :: a10 :: a11 :: .ref x :: t) (.ref x :: st) L r h ca sa) : AW X nL pc (a0 :: a1 :: a2 :: a3 :: a4 :: a5 :: a6 :: a7 :: a8 :: a9 :: a10 :: a11 :: .ref x :: t) st L r h ca sa := fun H locs la hW hn hS hL => lv_aload C.x C.b hd (aw_ld (w := .ref (xd X x)) (i := 12) hL rfl rfl rfl) (k H locs la hW hn hS hL)
theorem aw_aloadN_12 {a0 a1 a2 a3 a4 a5 a6 a7 a8 a9 a10 a11 : Value} {t : List Value} (C : aw_C X own cc nL D mc ms) (hd : decode cc pc = .ok (.aload 12, 2)) (k : AW X nL (pc + 2) (a0 :: a1 :: a2 :: a3 :: a4 :: a5 :: a6 :: a7 :: a8 :: a9 :: a10 :: a11 :: .null :: t) (.null :: st) L r h ca sa) : AW X nL pc (a0 :: a1 :: a2 :: a3 :: a4 :: a5 :: a6 :: a7 :: a8 :: a9 :: a10 :: a11 :: .null :: t) st L r h ca sa := fun H locs la hW hn hS hL => lv_aloadN C.x C.b hd (aw_ld (w := .null) (i := 12) hL rfl rfl rfl) (k H locs la hW hn hS hL)
theorem aw_istore_12 {a0 a1 a2 a3 a4 a5 a6 a7 a8 a9 a10 a11 : Value} {t : List Value} {u : Value} {x : Int32} (C : aw_C X own cc nL D mc ms) (hd : decode cc pc = .ok (.istore 12, 2)) (hi : Nat.blt 12 nL = true) (hp : aw_n2 a11 = true) (k : AW X nL (pc + 2) (a0 :: a1 :: a2 :: a3 :: a4 :: a5 :: a6 :: a7 :: a8 :: a9 :: a10 :: a11 :: .int x :: t) st L r h ca sa) : AW X nL pc (a0 :: a1 :: a2 :: a3 :: a4 :: a5 :: a6 :: a7 :: a8 :: a9 :: a10 :: a11 :: u :: t) (.int x :: st) L r h ca sa := fun H locs la hW hn hS hL => lv_istore C.x C.b hd hL (Nat.le_of_ble_eq_true hi) rfl (fun lb hb => k H locs lb hW hn hS (aw_st1 (i := 12) (ls := a0 :: a1 :: a2 :: a3 :: a4 :: a5 :: a6 :: a7 :: a8 :: a9 :: a10 :: a11 :: u :: t) (v := .int x) (show aw_p2 (a0 :: a1 :: a2 :: a3 :: a4 :: a5 :: a6 :: a7 :: a8 :: a9 :: a10 :: a11 :: u :: t) 12 = true from hp) rfl hb))
theorem aw_astore_12 {a0 a1 a2 a3 a4 a5 a6 a7 a8 a9 a10 a11 : Value} {t : List Value} {u : Value} {x : Nat} (C : aw_C X own cc nL D mc ms) (hd : decode cc pc = .ok (.astore 12, 2)) (hi : Nat.blt 12 nL = true) (hp : aw_n2 a11 = true) (k : AW X nL (pc + 2) (a0 :: a1 :: a2 :: a3 :: a4 :: a5 :: a6 :: a7 :: a8 :: a9 :: a10 :: a11 :: .ref x :: t) st L r h ca sa) : AW X nL pc (a0 :: a1 :: a2 :: a3 :: a4 :: a5 :: a6 :: a7 :: a8 :: a9 :: a10 :: a11 :: u :: t) (.ref x :: st) L r h ca sa := fun H locs la hW hn hS hL => lv_astore C.x C.b hd hL (Nat.le_of_ble_eq_true hi) rfl (fun lb hb => k H locs lb hW hn hS (aw_st1 (i := 12) (ls := a0 :: a1 :: a2 :: a3 :: a4 :: a5 :: a6 :: a7 :: a8 :: a9 :: a10 :: a11 :: u :: t) (v := .ref x) (show aw_p2 (a0 :: a1 :: a2 :: a3 :: a4 :: a5 :: a6 :: a7 :: a8 :: a9 :: a10 :: a11 :: u :: t) 12 = true from hp) rfl hb))
theorem aw_astoreN_12 {a0 a1 a2 a3 a4 a5 a6 a7 a8 a9 a10 a11 : Value} {t : List Value} {u : Value} (C : aw_C X own cc nL D mc ms) (hd : decode cc pc = .ok (.astore 12, 2)) (hi : Nat.blt 12 nL = true) (hp : aw_n2 a11 = true) (k : AW X nL (pc + 2) (a0 :: a1 :: a2 :: a3 :: a4 :: a5 :: a6 :: a7 :: a8 :: a9 :: a10 :: a11 :: .null :: t) st L r h ca sa) : AW X nL pc (a0 :: a1 :: a2 :: a3 :: a4 :: a5 :: a6 :: a7 :: a8 :: a9 :: a10 :: a11 :: u :: t) (.null :: st) L r h ca sa := fun H locs la hW hn hS hL => lv_astoreN C.x C.b hd hL (Nat.le_of_ble_eq_true hi) rfl (fun lb hb => k H locs lb hW hn hS (aw_st1 (i := 12) (ls := a0 :: a1 :: a2 :: a3 :: a4 :: a5 :: a6 :: a7 :: a8 :: a9 :: a10 :: a11 :: u :: t) (v := .null) (show aw_p2 (a0 :: a1 :: a2 :: a3 :: a4 :: a5 :: a6 :: a7 :: a8 :: a9 :: a10 :: a11 :: u :: t) 12 = true from hp) rfl hb))
theorem aw_lstore_12 {a0 a1 a2 a3 a4 a5 a6 a7 a8 a9 a10 a11 : Value} {t : List Value} {u u2 : Value} {x : Int64} (C : aw_C X own cc nL D mc ms) (hd : decode cc pc = .ok (.lstore 12, 2)) (hi : Nat.blt 13 nL = true) (hp : aw_n2 a11 = true) (k : AW X nL (pc + 2) (a0 :: a1 :: a2 :: a3 :: a4 :: a5 :: a6 :: a7 :: a8 :: a9 :: a10 :: a11 :: .long x :: .retAddr 0 :: t) st L r h ca sa) : AW X nL pc (a0 :: a1 :: a2 :: a3 :: a4 :: a5 :: a6 :: a7 :: a8 :: a9 :: a10 :: a11 :: u :: u2 :: t) (.long x :: st) L r h ca sa := fun H locs la hW hn hS hL => lv_lstore C.x C.b hd hL (Nat.le_of_ble_eq_true hi) rfl (fun lb hb => k H locs lb hW hn hS (aw_st2 (i := 12) (z := 0) (ls := a0 :: a1 :: a2 :: a3 :: a4 :: a5 :: a6 :: a7 :: a8 :: a9 :: a10 :: a11 :: u :: u2 :: t) (v := .long x) (show aw_p2 (a0 :: a1 :: a2 :: a3 :: a4 :: a5 :: a6 :: a7 :: a8 :: a9 :: a10 :: a11 :: u :: u2 :: t) 12 = true from hp) rfl hb))
theorem aw_iinc_12 {a0 a1 a2 a3 a4 a5 a6 a7 a8 a9 a10 a11 : Value} {t : List Value} {x d : Int32} {n : Int} (C : aw_C X own cc nL D mc ms) (hd : decode cc pc = .ok (.iinc 12 n, 3)) (hv : Int32.ofInt n = d) (hi : Nat.blt 12 nL = true) (hp : aw_n2 a11 = true) (k : AW X nL (pc + 3) (a0 :: a1 :: a2 :: a3 :: a4 :: a5 :: a6 :: a7 :: a8 :: a9 :: a10 :: a11 :: .int (x + d) :: t) st L r h ca sa) : AW X nL pc (a0 :: a1 :: a2 :: a3 :: a4 :: a5 :: a6 :: a7 :: a8 :: a9 :: a10 :: a11 :: .int x :: t) st L r h ca sa := fun H locs la hW hn hS hL => by
  obtain ⟨q, hq⟩ := List.getElem?_of_mem (aw_lv_mem.mpr ⟨12, .int x, rfl, rfl, rfl, rfl⟩ : ((12, .int x) : Nat × Value) ∈ aw_lv (xd X) 0 (a0 :: a1 :: a2 :: a3 :: a4 :: a5 :: a6 :: a7 :: a8 :: a9 :: a10 :: a11 :: .int x :: t))
  exact lv_iinc C.x C.b hd hL hq rfl (Nat.le_of_ble_eq_true hi) rfl (fun lb hb => k H locs lb hW hn hS (aw_st1 (i := 12) (ls := a0 :: a1 :: a2 :: a3 :: a4 :: a5 :: a6 :: a7 :: a8 :: a9 :: a10 :: a11 :: .int x :: t) (v := .int (x + d)) (show aw_p2 (a0 :: a1 :: a2 :: a3 :: a4 :: a5 :: a6 :: a7 :: a8 :: a9 :: a10 :: a11 :: .int x :: t) 12 = true from hp) (by rw [← hv]; rfl) hb))
theorem aw_iload_13 {a0 a1 a2 a3 a4 a5 a6 a7 a8 a9 a10 a11 a12 : Value} {t : List Value} {x : Int32} (C : aw_C X own cc nL D mc ms) (hd : decode cc pc = .ok (.iload 13, 2)) (k : AW X nL (pc + 2) (a0 :: a1 :: a2 :: a3 :: a4 :: a5 :: a6 :: a7 :: a8 :: a9 :: a10 :: a11 :: a12 :: .int x :: t) (.int x :: st) L r h ca sa) : AW X nL pc (a0 :: a1 :: a2 :: a3 :: a4 :: a5 :: a6 :: a7 :: a8 :: a9 :: a10 :: a11 :: a12 :: .int x :: t) st L r h ca sa := fun H locs la hW hn hS hL => lv_iload C.x C.b hd (aw_ld (w := .int x) (i := 13) hL rfl rfl rfl) (k H locs la hW hn hS hL)
theorem aw_lload_13 {a0 a1 a2 a3 a4 a5 a6 a7 a8 a9 a10 a11 a12 : Value} {t : List Value} {x : Int64} (C : aw_C X own cc nL D mc ms) (hd : decode cc pc = .ok (.lload 13, 2)) (k : AW X nL (pc + 2) (a0 :: a1 :: a2 :: a3 :: a4 :: a5 :: a6 :: a7 :: a8 :: a9 :: a10 :: a11 :: a12 :: .long x :: t) (.long x :: st) L r h ca sa) : AW X nL pc (a0 :: a1 :: a2 :: a3 :: a4 :: a5 :: a6 :: a7 :: a8 :: a9 :: a10 :: a11 :: a12 :: .long x :: t) st L r h ca sa := fun H locs la hW hn hS hL => lv_lload C.x C.b hd (aw_ld (w := .long x) (i := 13) hL rfl rfl rfl) (k H locs la hW hn hS hL)
theorem aw_aload_13 {a0 a1 a2 a3 a4 a5 a6 a7 a8 a9 a10 a11 a12 : Value} {t : List Value} {x : Nat} (C : aw_C X own cc nL D mc ms) (hd : decode cc pc = .ok (.aload 13, 2)) (k : AW X nL (pc + 2) (a0 :: a1 :: a2 :: a3 :: a4 :: a5 :: a6 :: a7 :: a8 :: a9 :: a10 :: a11 :: a12 :: .ref x :: t) (.ref x :: st) L r h ca sa) : AW X nL pc (a0 :: a1 :: a2 :: a3 :: a4 :: a5 :: a6 :: a7 :: a8 :: a9 :: a10 :: a11 :: a12 :: .ref x :: t) st L r h ca sa := fun H locs la hW hn hS hL => lv_aload C.x C.b hd (aw_ld (w := .ref (xd X x)) (i := 13) hL rfl rfl rfl) (k H locs la hW hn hS hL)
theorem aw_aloadN_13 {a0 a1 a2 a3 a4 a5 a6 a7 a8 a9 a10 a11 a12 : Value} {t : List Value} (C : aw_C X own cc nL D mc ms) (hd : decode cc pc = .ok (.aload 13, 2)) (k : AW X nL (pc + 2) (a0 :: a1 :: a2 :: a3 :: a4 :: a5 :: a6 :: a7 :: a8 :: a9 :: a10 :: a11 :: a12 :: .null :: t) (.null :: st) L r h ca sa) : AW X nL pc (a0 :: a1 :: a2 :: a3 :: a4 :: a5 :: a6 :: a7 :: a8 :: a9 :: a10 :: a11 :: a12 :: .null :: t) st L r h ca sa := fun H locs la hW hn hS hL => lv_aloadN C.x C.b hd (aw_ld (w := .null) (i := 13) hL rfl rfl rfl) (k H locs la hW hn hS hL)
theorem aw_istore_13 {a0 a1 a2 a3 a4 a5 a6 a7 a8 a9 a10 a11 a12 : Value} {t : List Value} {u : Value} {x : Int32} (C : aw_C X own cc nL D mc ms) (hd : decode cc pc = .ok (.istore 13, 2)) (hi : Nat.blt 13 nL = true) (hp : aw_n2 a12 = true) (k : AW X nL (pc + 2) (a0 :: a1 :: a2 :: a3 :: a4 :: a5 :: a6 :: a7 :: a8 :: a9 :: a10 :: a11 :: a12 :: .int x :: t) st L r h ca sa) : AW X nL pc (a0 :: a1 :: a2 :: a3 :: a4 :: a5 :: a6 :: a7 :: a8 :: a9 :: a10 :: a11 :: a12 :: u :: t) (.int x :: st) L r h ca sa := fun H locs la hW hn hS hL => lv_istore C.x C.b hd hL (Nat.le_of_ble_eq_true hi) rfl (fun lb hb => k H locs lb hW hn hS (aw_st1 (i := 13) (ls := a0 :: a1 :: a2 :: a3 :: a4 :: a5 :: a6 :: a7 :: a8 :: a9 :: a10 :: a11 :: a12 :: u :: t) (v := .int x) (show aw_p2 (a0 :: a1 :: a2 :: a3 :: a4 :: a5 :: a6 :: a7 :: a8 :: a9 :: a10 :: a11 :: a12 :: u :: t) 13 = true from hp) rfl hb))
theorem aw_astore_13 {a0 a1 a2 a3 a4 a5 a6 a7 a8 a9 a10 a11 a12 : Value} {t : List Value} {u : Value} {x : Nat} (C : aw_C X own cc nL D mc ms) (hd : decode cc pc = .ok (.astore 13, 2)) (hi : Nat.blt 13 nL = true) (hp : aw_n2 a12 = true) (k : AW X nL (pc + 2) (a0 :: a1 :: a2 :: a3 :: a4 :: a5 :: a6 :: a7 :: a8 :: a9 :: a10 :: a11 :: a12 :: .ref x :: t) st L r h ca sa) : AW X nL pc (a0 :: a1 :: a2 :: a3 :: a4 :: a5 :: a6 :: a7 :: a8 :: a9 :: a10 :: a11 :: a12 :: u :: t) (.ref x :: st) L r h ca sa := fun H locs la hW hn hS hL => lv_astore C.x C.b hd hL (Nat.le_of_ble_eq_true hi) rfl (fun lb hb => k H locs lb hW hn hS (aw_st1 (i := 13) (ls := a0 :: a1 :: a2 :: a3 :: a4 :: a5 :: a6 :: a7 :: a8 :: a9 :: a10 :: a11 :: a12 :: u :: t) (v := .ref x) (show aw_p2 (a0 :: a1 :: a2 :: a3 :: a4 :: a5 :: a6 :: a7 :: a8 :: a9 :: a10 :: a11 :: a12 :: u :: t) 13 = true from hp) rfl hb))
theorem aw_astoreN_13 {a0 a1 a2 a3 a4 a5 a6 a7 a8 a9 a10 a11 a12 : Value} {t : List Value} {u : Value} (C : aw_C X own cc nL D mc ms) (hd : decode cc pc = .ok (.astore 13, 2)) (hi : Nat.blt 13 nL = true) (hp : aw_n2 a12 = true) (k : AW X nL (pc + 2) (a0 :: a1 :: a2 :: a3 :: a4 :: a5 :: a6 :: a7 :: a8 :: a9 :: a10 :: a11 :: a12 :: .null :: t) st L r h ca sa) : AW X nL pc (a0 :: a1 :: a2 :: a3 :: a4 :: a5 :: a6 :: a7 :: a8 :: a9 :: a10 :: a11 :: a12 :: u :: t) (.null :: st) L r h ca sa := fun H locs la hW hn hS hL => lv_astoreN C.x C.b hd hL (Nat.le_of_ble_eq_true hi) rfl (fun lb hb => k H locs lb hW hn hS (aw_st1 (i := 13) (ls := a0 :: a1 :: a2 :: a3 :: a4 :: a5 :: a6 :: a7 :: a8 :: a9 :: a10 :: a11 :: a12 :: u :: t) (v := .null) (show aw_p2 (a0 :: a1 :: a2 :: a3 :: a4 :: a5 :: a6 :: a7 :: a8 :: a9 :: a10 :: a11 :: a12 :: u :: t) 13 = true from hp) rfl hb))
theorem aw_iinc_13 {a0 a1 a2 a3 a4 a5 a6 a7 a8 a9 a10 a11 a12 : Value} {t : List Value} {x d : Int32} {n : Int} (C : aw_C X own cc nL D mc ms) (hd : decode cc pc = .ok (.iinc 13 n, 3)) (hv : Int32.ofInt n = d) (hi : Nat.blt 13 nL = true) (hp : aw_n2 a12 = true) (k : AW X nL (pc + 3) (a0 :: a1 :: a2 :: a3 :: a4 :: a5 :: a6 :: a7 :: a8 :: a9 :: a10 :: a11 :: a12 :: .int (x + d) :: t) st L r h ca sa) : AW X nL pc (a0 :: a1 :: a2 :: a3 :: a4 :: a5 :: a6 :: a7 :: a8 :: a9 :: a10 :: a11 :: a12 :: .int x :: t) st L r h ca sa := fun H locs la hW hn hS hL => by
  obtain ⟨q, hq⟩ := List.getElem?_of_mem (aw_lv_mem.mpr ⟨13, .int x, rfl, rfl, rfl, rfl⟩ : ((13, .int x) : Nat × Value) ∈ aw_lv (xd X) 0 (a0 :: a1 :: a2 :: a3 :: a4 :: a5 :: a6 :: a7 :: a8 :: a9 :: a10 :: a11 :: a12 :: .int x :: t))
  exact lv_iinc C.x C.b hd hL hq rfl (Nat.le_of_ble_eq_true hi) rfl (fun lb hb => k H locs lb hW hn hS (aw_st1 (i := 13) (ls := a0 :: a1 :: a2 :: a3 :: a4 :: a5 :: a6 :: a7 :: a8 :: a9 :: a10 :: a11 :: a12 :: .int x :: t) (v := .int (x + d)) (show aw_p2 (a0 :: a1 :: a2 :: a3 :: a4 :: a5 :: a6 :: a7 :: a8 :: a9 :: a10 :: a11 :: a12 :: .int x :: t) 13 = true from hp) (by rw [← hv]; rfl) hb))
end AWR
end
section
/-! fields, arrays, new cells, constants; a method's contract, its start, its ends, its calls -/
def aw_tyk (t : Nat) (ty : FieldType) : Prop := match t with
  | 0 => ty = .int
  | 1 => ty = .long
  | 2 => (∃ n, ty = .object n) ∨ ∃ u, ty = .array u
  | 3 => ty = .boolean
  | _ => False
/-- field k of class ci: its name, descriptor, kind, whether it is final -/
def aw_Fd (ci k : Nat) (Cn fn fd : String) (tk : Nat) (fin : Bool) : Prop := ∃ (T : u_T) (N : Nat) (ty : Nat → FieldType), vwCl[ci]? = some (Cn, T, N) ∧ k < N ∧ T k = (Cn, fn, fd, fin) ∧ (∀ w ∈ u_ws Cn T N, w ∈ BG) ∧ (∀ j, j < N → parseFieldDescriptor (T j).2.2.1 = some (ty j)) ∧ (∀ a, a < N → ∀ b, b < N → a ≠ b → (T a).2.1 ≠ (T b).2.1) ∧ aw_tk ci k = tk ∧ aw_tyk tk (ty k)
/-- an int, a long of a cell becomes v -/
def aw_sI (h : aw_H) (c k : Nat) (v : Int32) : aw_H := (fun d j => if d = c ∧ j = k then v else h.1 d j, h.2)
def aw_sL (h : aw_H) (c k : Nat) (v : Int64) : aw_H := (h.1, fun d j => if d = c ∧ j = k then v else h.2 d j)
def aw_sR (r : aw_R) (c k q : Nat) : aw_R := fun d j => if d = c ∧ j = k then some q else r d j
theorem aw_sI_1 (h : aw_H) (c k : Nat) (v : Int32) (d j : Nat) : (aw_sI h c k v).1 d j = if d = c ∧ j = k then v else h.1 d j := rfl
theorem aw_sI_2 (h : aw_H) (c k : Nat) (v : Int32) : (aw_sI h c k v).2 = h.2 := rfl
theorem aw_sL_1 (h : aw_H) (c k : Nat) (v : Int64) : (aw_sL h c k v).1 = h.1 := rfl
theorem aw_sL_2 (h : aw_H) (c k : Nat) (v : Int64) (d j : Nat) : (aw_sL h c k v).2 d j = if d = c ∧ j = k then v else h.2 d j := rfl
theorem aw_sI_ne {h : aw_H} {c k d : Nat} {v : Int32} (hd : d ≠ c) : (aw_sI h c k v).1 d = h.1 d := by
  funext j
  simp [aw_sI, hd]
theorem aw_sL_ne {h : aw_H} {c k d : Nat} {v : Int64} (hd : d ≠ c) : (aw_sL h c k v).2 d = h.2 d := by
  funext j
  simp [aw_sL, hd]
theorem aw_sR_ne {r : aw_R} {c k d q : Nat} (hd : d ≠ c) : aw_sR r c k q d = r d := by
  funext j
  simp [aw_sR, hd]
theorem aw_in {i : Int32} {n j : Nat} (h : vp_in i n ∧ i.toNatClampNeg = j) : j < n := by
  rw [← h.2]
  exact Nat.not_le.mp fun q => h.1 (Or.inr q)
/-- one cell is another one, the others stay -/
theorem aw_W.one {g : aw_G} {L : aw_L} {r r' : aw_R} {h h' : aw_H} {H H' : Heap} {o : Nat} {kd : Nat × Nat} (hW : aw_W g L r h H) (hn : L.length ≤ 1000) (hB : aw_B g) (ho : L[o]? = some kd) (e2 : H'.size = H.size) (e3 : ∀ q, q ≠ g.2.2.1 o → H'[q]? = H[q]?) (hc : aw_cell g r' h' H' o kd)
    (k1 : ∀ c, c ≠ o → h'.1 c = h.1 c) (k2 : ∀ c, c ≠ o → h'.2 c = h.2 c) (k3 : ∀ c, c ≠ o → r' c = r c) : aw_W g L r' h' H' := by
  refine ⟨e2.trans hW.1, fun c kd' hk => ?_⟩
  by_cases hco : c = o
  · subst hco
    cases ho.symm.trans hk
    exact hc
  · have hlo := (List.getElem?_eq_some_iff.mp ho).1
    have hlc := (List.getElem?_eq_some_iff.mp hk).1
    exact (hW.2 c kd' hk).to (e3 _ (by rw [hB c (by omega), hB o (by omega)]; omega)) (k1 c hco) (k2 c hco) (k3 c hco)
theorem aw_Aof {g : aw_G} {L : aw_L} {o : Nat} {kd : Nat × Nat} (hn : L.length ≤ 1000) (hB : aw_B g) (ho : L[o]? = some kd) : aw_A g (g.2.2.1 o) := by
  have hlo := (List.getElem?_eq_some_iff.mp ho).1
  show g.2.2.2 ≤ _
  rw [hB o (by omega)]
  omega
section AWM
variable {X : aw_X} {own : String} {cc : ByteArray} {nL D mc ms pc : Nat} {ls st : List Value} {L : aw_L} {r : aw_R} {h : aw_H} {ca sa : Nat} {o ci k ix tk : Nat} {Cn fn fd : String} {fin : Bool}
theorem aw_getf (v : Value) (C : aw_C X own cc nL D mc ms) (hd : decode cc pc = .ok (.getfield ix, 3)) (hl : Cond.fieldLink own ix Cn fn fd ∈ BG) (hF : aw_Fd ci k Cn fn fd tk fin) (ho : L[o]? = some (0, ci)) (hv : aw_fv (xd X) r h o ci k = aw_tv (xd X) v)
    (kk : AW X nL (pc + 3) ls (v :: st) L r h ca sa) : AW X nL pc ls (.ref o :: st) L r h ca sa := by
  intro H locs la hW hn hS hL
  obtain ⟨T, N, ty, hc, hk, hT, hin, hty, hnm, -, -⟩ := hF
  obtain ⟨q, hq, cell, q1, q2, q3, q4⟩ := (show ∃ q : vw_C, vwCl[ci]? = some q ∧ t_OB _ _ _ _ _ _ from hW.2 o (0, ci) ho)
  cases hc.symm.trans hq
  obtain ⟨hSl, hfc, kC, hkC, hkind⟩ := C.k.1 ci _ hc
  obtain ⟨cf, kf, fi, f, hi, hsl⟩ := hSl k hk
  have hst := (u_facts hfc hkC (u_lays C.w hin hk) hi).1
  dsimp only at hi
  rw [hT] at hi
  refine W.getf C.x C.b C.o (C.w _ hl) hi hst q1 (by rw [q3]; exact fun h => by cases h) (v := aw_tv (xd X) v) ?_ rfl rfl hd (kk H locs la hW hn hS hL)
  rw [hsl, q4 k hk]
  exact congrArg some hv
theorem aw_getI (C : aw_C X own cc nL D mc ms) (hd : decode cc pc = .ok (.getfield ix, 3)) (hl : Cond.fieldLink own ix Cn fn fd ∈ BG) (hF : aw_Fd ci k Cn fn fd 0 fin) (ho : L[o]? = some (0, ci)) (kk : AW X nL (pc + 3) ls (.int (h.1 o k) :: st) L r h ca sa) : AW X nL pc ls (.ref o :: st) L r h ca sa :=
  aw_getf _ C hd hl hF ho (by obtain ⟨-, -, -, -, -, -, -, -, -, e, -⟩ := hF; simp only [aw_fv, e]; rfl) kk
theorem aw_getZ (C : aw_C X own cc nL D mc ms) (hd : decode cc pc = .ok (.getfield ix, 3)) (hl : Cond.fieldLink own ix Cn fn fd ∈ BG) (hF : aw_Fd ci k Cn fn fd 3 fin) (ho : L[o]? = some (0, ci)) (kk : AW X nL (pc + 3) ls (.int (h.1 o k) :: st) L r h ca sa) : AW X nL pc ls (.ref o :: st) L r h ca sa :=
  aw_getf _ C hd hl hF ho (by obtain ⟨-, -, -, -, -, -, -, -, -, e, -⟩ := hF; simp only [aw_fv, e]; rfl) kk
theorem aw_getL (C : aw_C X own cc nL D mc ms) (hd : decode cc pc = .ok (.getfield ix, 3)) (hl : Cond.fieldLink own ix Cn fn fd ∈ BG) (hF : aw_Fd ci k Cn fn fd 1 fin) (ho : L[o]? = some (0, ci)) (kk : AW X nL (pc + 3) ls (.long (h.2 o k) :: st) L r h ca sa) : AW X nL pc ls (.ref o :: st) L r h ca sa :=
  aw_getf _ C hd hl hF ho (by obtain ⟨-, -, -, -, -, -, -, -, -, e, -⟩ := hF; simp only [aw_fv, e]; rfl) kk
theorem aw_getR {q : Nat} (C : aw_C X own cc nL D mc ms) (hd : decode cc pc = .ok (.getfield ix, 3)) (hl : Cond.fieldLink own ix Cn fn fd ∈ BG) (hF : aw_Fd ci k Cn fn fd 2 fin) (ho : L[o]? = some (0, ci)) (hr : r o k = some q) (kk : AW X nL (pc + 3) ls (.ref q :: st) L r h ca sa) : AW X nL pc ls (.ref o :: st) L r h ca sa :=
  aw_getf _ C hd hl hF ho (by obtain ⟨-, -, -, -, -, -, -, -, -, e, -⟩ := hF; simp only [aw_fv, e, hr]; rfl) kk
/-- a field that isn't final; or a final one where it is made -/
theorem aw_putf {r' : aw_R} {h' : aw_H} (v : Value) (C : aw_C X own cc nL D mc ms) (hd : decode cc pc = .ok (.putfield ix, 3)) (hl : Cond.fieldLink own ix Cn fn fd ∈ BG) (hF : aw_Fd ci k Cn fn fd tk fin) (hfin : fin = false ∨ (fin = true ∧ Cn = own ∧ (xt X).name = "<init>")) (ho : L[o]? = some (0, ci))
    (hnar : ∀ ty, aw_tyk tk ty → narrow ty (aw_tv (xd X) v) = aw_tv (xd X) v ∧ fits ty (aw_tv (xd X) v) = true) (hk1 : aw_tk ci k = tk → aw_fv (xd X) r' h' o ci k = aw_tv (xd X) v) (hk2 : ∀ j, j ≠ k → aw_fv (xd X) r' h' o ci j = aw_fv (xd X) r h o ci j)
    (k1 : ∀ c, c ≠ o → h'.1 c = h.1 c) (k2 : ∀ c, c ≠ o → h'.2 c = h.2 c) (k3 : ∀ c, c ≠ o → r' c = r c)
    (kk : AW X nL (pc + 3) ls st L r' h' ca sa) : AW X nL pc ls (v :: .ref o :: st) L r h ca sa := by
  intro H locs la hW hn hS hL
  obtain ⟨T, N, ty, hc, hk, hT, hin, hty, hnm, htk, htt⟩ := hF
  obtain ⟨q, hq, cell, q1, q2, q3, q4⟩ := (show ∃ q : vw_C, vwCl[ci]? = some q ∧ t_OB _ _ _ _ _ _ from hW.2 o (0, ci) ho)
  cases hc.symm.trans hq
  obtain ⟨hSl, hfc, kC, hkC, hkind⟩ := C.k.1 ci _ hc
  obtain ⟨cf, kf, fi, f, hi, hsl⟩ := hSl k hk
  have hst := (u_facts hfc hkC (u_lays C.w hin hk) hi).1
  have hlay := C.w _ (hin _ (u_in_lay hk))
  have hap : ∀ x y, x < N → y < N → x ≠ y → (xg X).1.2 ci x ≠ (xg X).1.2 ci y := va_apart (D := (xg X).1) (cl := vwCl) (tys := []) (own := own) C.w hin ty hty hnm ⟨C.k.1, fun k q h => by simp at h⟩ hc
  have hdk := hty k hk
  unfold u_lay at hlay
  dsimp only at hi hlay hdk
  rw [hT] at hi hlay hdk
  have done : ∀ H' : Heap, H'[(xg X).2.2.1 o]? = some (cell.setSlot f.slot (aw_tv (xd X) v)) → H'.size = H.size → (∀ q, q ≠ (xg X).2.2.1 o → H'[q]? = H[q]?) → W (xp X) (xl X) (xe X) (xR X) (xs X) (xm X) (xa X) (xb X) (xt X) (xc X) H' (locs ++ [⟨(xg X).2.2.1 o, f.slot⟩]) ca sa (xQ X) (F0 (xm X) (pc + 3) la (st.map (aw_tv (xd X)))) := by
    intro H' e1 e2 e3
    rw [hsl] at e1
    refine kk H' _ la (hW.one hn C.d ho e2 e3 ⟨_, hc, t_OB.to (V := updV (fun j => aw_fv (xd X) r h o ci j) k (aw_tv (xd X) v)) ⟨_, e1, q2, q3, t_set q4 hap hk _⟩ (fun j _ => ?_)⟩ k1 k2 k3) hn (hS.put e2 e3 (aw_Aof hn C.d ho)) hL
    by_cases hj : j = k
    · subst hj
      simp only [updV, if_pos]
      exact (hk1 htk).symm
    · simp only [updV, if_neg hj]
      exact (hk2 j hj).symm
  obtain ⟨hna, hfi⟩ := hnar _ htt
  rcases hfin with hf | ⟨hf, hown, hname⟩
  · rw [if_neg (fun q => by have q' : fin = true := q; rw [hf] at q'; cases q')] at hlay
    have h6 := u_store hfc hkC hkind hlay hi hdk hna hfi
    exact W.putK C.x C.b (f := f) ⟨C.o, C.w _ hl, ⟨_, _, _, hi⟩, hst⟩ (by rw [q2]; exact h6) q1 q3 (by rw [hsl]; exact k2_hasslot (q4 k hk)) rfl rfl hd done
  · rw [if_pos hf] at hlay
    have hcf : (xm X).cls = cf := by
      obtain ⟨_, _, c', _, _, _, -, -, hf', -, -, -, hown2, -⟩ := Cond.laysFinal_spec hlay
      have e1 : c' = cf := by have := hi.symm.trans hf'; simp at this; exact this.1.symm
      have hown2 : (xs X).vm.findClass own = some c' := by rw [← hown]; exact hown2
      rw [← e1]; exact Option.some.inj (C.o.symm.trans hown2)
    have h6 := u_fits hfc hkC hkind (Or.inr hlay) hi hdk hna hfi
    exact W.putFinK C.x C.b C.o (C.w _ hl) hi hst hcf hname (by rw [q2]; exact h6) q1 q3 (by rw [hsl]; exact k2_hasslot (q4 k hk)) rfl rfl hd done
theorem aw_fv_sI {ad : Nat → Nat} {v : Int32} {j : Nat} (hj : j ≠ k) : aw_fv ad r (aw_sI h o k v) o ci j = aw_fv ad r h o ci j := by
  simp [aw_fv, aw_sI, hj]
theorem aw_fv_sL {ad : Nat → Nat} {v : Int64} {j : Nat} (hj : j ≠ k) : aw_fv ad r (aw_sL h o k v) o ci j = aw_fv ad r h o ci j := by
  simp [aw_fv, aw_sL, hj]
theorem aw_putI {v : Int32} (C : aw_C X own cc nL D mc ms) (hd : decode cc pc = .ok (.putfield ix, 3)) (hl : Cond.fieldLink own ix Cn fn fd ∈ BG) (hF : aw_Fd ci k Cn fn fd 0 false) (ho : L[o]? = some (0, ci)) (kk : AW X nL (pc + 3) ls st L r (aw_sI h o k v) ca sa) : AW X nL pc ls (.int v :: .ref o :: st) L r h ca sa :=
  aw_putf _ C hd hl hF (Or.inl rfl) ho (fun ty ht => by cases (show ty = .int from ht); exact ⟨rfl, rfl⟩) (fun e => by simp [aw_fv, e, aw_sI, aw_tv]) (fun j hj => aw_fv_sI hj) (fun c hc => aw_sI_ne hc) (fun _ _ => rfl) (fun _ _ => rfl) kk
theorem aw_putZ {v : Int32} (hv : v = 0 ∨ v = 1) (C : aw_C X own cc nL D mc ms) (hd : decode cc pc = .ok (.putfield ix, 3)) (hl : Cond.fieldLink own ix Cn fn fd ∈ BG) (hF : aw_Fd ci k Cn fn fd 3 false) (ho : L[o]? = some (0, ci)) (kk : AW X nL (pc + 3) ls st L r (aw_sI h o k v) ca sa) : AW X nL pc ls (.int v :: .ref o :: st) L r h ca sa :=
  aw_putf _ C hd hl hF (Or.inl rfl) ho (fun ty ht => by cases (show ty = .boolean from ht); rcases hv with rfl | rfl <;> exact ⟨rfl, rfl⟩) (fun e => by simp [aw_fv, e, aw_sI, aw_tv]) (fun j hj => aw_fv_sI hj) (fun c hc => aw_sI_ne hc) (fun _ _ => rfl) (fun _ _ => rfl) kk
theorem aw_putL {v : Int64} (C : aw_C X own cc nL D mc ms) (hd : decode cc pc = .ok (.putfield ix, 3)) (hl : Cond.fieldLink own ix Cn fn fd ∈ BG) (hF : aw_Fd ci k Cn fn fd 1 false) (ho : L[o]? = some (0, ci)) (kk : AW X nL (pc + 3) ls st L r (aw_sL h o k v) ca sa) : AW X nL pc ls (.long v :: .ref o :: st) L r h ca sa :=
  aw_putf _ C hd hl hF (Or.inl rfl) ho (fun ty ht => by cases (show ty = .long from ht); exact ⟨rfl, rfl⟩) (fun e => by simp [aw_fv, e, aw_sL, aw_tv]) (fun j hj => aw_fv_sL hj) (fun _ _ => rfl) (fun c hc => aw_sL_ne hc) (fun _ _ => rfl) kk
theorem aw_putR {q : Nat} (hi : (xt X).name = "<init>") (hown : Cn = own) (C : aw_C X own cc nL D mc ms) (hd : decode cc pc = .ok (.putfield ix, 3)) (hl : Cond.fieldLink own ix Cn fn fd ∈ BG) (hF : aw_Fd ci k Cn fn fd 2 true) (ho : L[o]? = some (0, ci)) (kk : AW X nL (pc + 3) ls st L (aw_sR r o k q) h ca sa) : AW X nL pc ls (.ref q :: .ref o :: st) L r h ca sa :=
  aw_putf _ C hd hl hF (Or.inr ⟨rfl, hown, hi⟩) ho (fun ty ht => by rcases (show (∃ n, ty = .object n) ∨ ∃ u, ty = .array u from ht) with ⟨n, rfl⟩ | ⟨u, rfl⟩ <;> exact ⟨rfl, rfl⟩) (fun e => by simp [aw_fv, e, aw_sR, aw_tv, va_rf]) (fun j hj => by simp [aw_fv, aw_sR, hj]) (fun _ _ => rfl) (fun _ _ => rfl) (fun c hc => aw_sR_ne hc) kk
/-! arrays -/
theorem aw_iald {n j : Nat} {i : Int32} (C : aw_C X own cc nL D mc ms) (hd : decode cc pc = .ok (.iaload, 1)) (ho : L[o]? = some (1, n)) (hj : vp_in i n ∧ i.toNatClampNeg = j) (kk : AW X nL (pc + 1) ls (.int (h.1 o j) :: st) L r h ca sa) : AW X nL pc ls (.int i :: .ref o :: st) L r h ca sa := by
  intro H locs la hW hn hS hL
  have hlt := aw_in hj
  obtain ⟨hin, rfl⟩ := hj
  exact W.iald (v := .int (h.1 o i.toNatClampNeg)) C.x C.b (show H[(xg X).2.2.1 o]? = some (arrV _ n _) from hW.2 o (1, n) ho) ((C.k.2.1 1 (by decide) (by decide)).1 n _) (fun q => by cases q) (by rw [arrV_size]; exact hin) (by rw [arrV_read _ _ hlt]) rfl rfl hd (kk H locs la hW hn hS hL)
theorem aw_lald {n j : Nat} {i : Int32} (C : aw_C X own cc nL D mc ms) (hd : decode cc pc = .ok (.laload, 1)) (ho : L[o]? = some (2, n)) (hj : vp_in i n ∧ i.toNatClampNeg = j) (kk : AW X nL (pc + 1) ls (.long (h.2 o j) :: st) L r h ca sa) : AW X nL pc ls (.int i :: .ref o :: st) L r h ca sa := by
  intro H locs la hW hn hS hL
  have hlt := aw_in hj
  obtain ⟨hin, rfl⟩ := hj
  exact W.lald (v := .long (h.2 o i.toNatClampNeg)) C.x C.b (show H[(xg X).2.2.1 o]? = some (arrV _ n _) from hW.2 o (2, n) ho) ((C.k.2.1 2 (by decide) (by decide)).1 n _) (fun q => by cases q) (by rw [arrV_size]; exact hin) (by rw [arrV_read _ _ hlt]) rfl rfl hd (kk H locs la hW hn hS hL)
theorem aw_aald {n j t q : Nat} {i : Int32} (C : aw_C X own cc nL D mc ms) (hd : decode cc pc = .ok (.aaload, 1)) (ht : t < 2) (ho : L[o]? = some (t + 3, n)) (hj : vp_in i n ∧ i.toNatClampNeg = j) (hr : r o j = some q) (kk : AW X nL (pc + 1) ls (.ref q :: st) L r h ca sa) : AW X nL pc ls (.int i :: .ref o :: st) L r h ca sa := by
  intro H locs la hW hn hS hL
  have hlt := aw_in hj
  obtain ⟨hin, rfl⟩ := hj
  have hc : H[(xg X).2.2.1 o]? = some (arrV ((xg X).2.1 (t + 3)) n (fun j => va_rf ((r o j).map (xg X).2.2.1))) := hW.2 o (t + 3, n) ho
  have hty : (aw_ty (t + 3)).isReference = true := by
    rcases (show t = 0 ∨ t = 1 by omega) with rfl | rfl <;> rfl
  exact W.aald (v := .ref (xd X q)) (ty := aw_ty (t + 3)) C.x C.b hc ((C.k.2.1 (t + 3) (by omega) (by omega)).1 n _) hty (fun q => by cases q) (by rw [arrV_size]; exact hin) (by rw [arrV_read _ _ hlt, hr]; rfl) rfl rfl hd (kk H locs la hW hn hS hL)
theorem aw_alen {n t : Nat} {v : Int32} (C : aw_C X own cc nL D mc ms) (hd : decode cc pc = .ok (.arraylength, 1)) (ht : t < 2) (ho : L[o]? = some (t + 1, n)) (hv : Int32.ofNat n = v) (kk : AW X nL (pc + 1) ls (.int v :: st) L r h ca sa) : AW X nL pc ls (.ref o :: st) L r h ca sa := by
  intro H locs la hW hn hS hL
  subst hv
  rcases (show t = 0 ∨ t = 1 by omega) with rfl | rfl
  · exact W.alen (n := Int32.ofNat n) C.x C.b (show H[(xg X).2.2.1 o]? = some (arrV _ n _) from hW.2 o (1, n) ho) ((C.k.2.1 1 (by decide) (by decide)).1 n _) (by rw [arrV_size] <;> rfl) rfl rfl hd (kk H locs la hW hn hS hL)
  · exact W.alen (n := Int32.ofNat n) C.x C.b (show H[(xg X).2.2.1 o]? = some (arrV _ n _) from hW.2 o (2, n) ho) ((C.k.2.1 2 (by decide) (by decide)).1 n _) (by rw [arrV_size] <;> rfl) rfl rfl hd (kk H locs la hW hn hS hL)
theorem aw_iast {n j : Nat} {i x : Int32} (C : aw_C X own cc nL D mc ms) (hd : decode cc pc = .ok (.iastore, 1)) (ho : L[o]? = some (1, n)) (hj : vp_in i n ∧ i.toNatClampNeg = j) (kk : AW X nL (pc + 1) ls st L r (aw_sI h o j x) ca sa) : AW X nL pc ls (.int x :: .int i :: .ref o :: st) L r h ca sa := by
  intro H locs la hW hn hS hL
  obtain ⟨hin, rfl⟩ := hj
  refine W.iast C.x C.b (show H[(xg X).2.2.1 o]? = some (arrV _ n _) from hW.2 o (1, n) ho) ((C.k.2.1 1 (by decide) (by decide)).1 n _) (fun q => by cases q) (by rw [arrV_size]; exact hin) rfl rfl hd fun H' e z oq => ?_
  refine kk H' _ la (hW.one hn C.d ho z oq ?_ (fun c hc => aw_sI_ne hc) (fun _ _ => rfl) (fun _ _ => rfl)) hn (hS.put z oq (aw_Aof hn C.d ho)) hL
  show H'[(xg X).2.2.1 o]? = some _
  rw [e, arrV_store]
  congr 2
  funext q
  by_cases hq : q = i.toNatClampNeg
  · simp [updV, aw_sI, hq]
  · simp [updV, aw_sI, hq]
theorem aw_last {n j : Nat} {i : Int32} {x : Int64} (C : aw_C X own cc nL D mc ms) (hd : decode cc pc = .ok (.lastore, 1)) (ho : L[o]? = some (2, n)) (hj : vp_in i n ∧ i.toNatClampNeg = j) (kk : AW X nL (pc + 1) ls st L r (aw_sL h o j x) ca sa) : AW X nL pc ls (.long x :: .int i :: .ref o :: st) L r h ca sa := by
  intro H locs la hW hn hS hL
  obtain ⟨hin, rfl⟩ := hj
  refine W.last C.x C.b (show H[(xg X).2.2.1 o]? = some (arrV _ n _) from hW.2 o (2, n) ho) ((C.k.2.1 2 (by decide) (by decide)).1 n _) (fun q => by cases q) (by rw [arrV_size]; exact hin) rfl rfl hd fun H' e z oq => ?_
  refine kk H' _ la (hW.one hn C.d ho z oq ?_ (fun _ _ => rfl) (fun c hc => aw_sL_ne hc) (fun _ _ => rfl)) hn (hS.put z oq (aw_Aof hn C.d ho)) hL
  show H'[(xg X).2.2.1 o]? = some _
  rw [e, arrV_store]
  congr 2
  funext q
  by_cases hq : q = i.toNatClampNeg
  · simp [updV, aw_sL, hq]
  · simp [updV, aw_sL, hq]
theorem aw_aast {n j q cq : Nat} {i : Int32} {t : Nat} {T : u_T} {N : Nat} (C : aw_C X own cc nL D mc ms) (hd : decode cc pc = .ok (.aastore, 1)) (ht : (t = 0 ∧ Cn = RX3) ∨ (t = 1 ∧ Cn = RX1)) (ho : L[o]? = some (t + 3, n)) (hq : L[q]? = some (0, cq)) (hcq : vwCl[cq]? = some (Cn, T, N)) (hj : vp_in i n ∧ i.toNatClampNeg = j) (kk : AW X nL (pc + 1) ls st L (aw_sR r o j q) h ca sa) : AW X nL pc ls (.ref q :: .int i :: .ref o :: st) L r h ca sa := by
  intro H locs la hW hn hS hL
  have hlt := aw_in hj
  obtain ⟨hin, rfl⟩ := hj
  have hc : H[(xg X).2.2.1 o]? = some (arrV ((xg X).2.1 (t + 3)) n (fun j => va_rf ((r o j).map (xg X).2.2.1))) := hW.2 o (t + 3, n) ho
  obtain ⟨q', hq', cellV, g1, g2, g3, -⟩ := (show ∃ q : vw_C, vwCl[cq]? = some q ∧ t_OB _ _ _ _ _ _ from hW.2 q (0, cq) hq)
  cases hcq.symm.trans hq'
  obtain ⟨-, hfc, kC, hkC, hkind⟩ := C.k.1 cq _ hcq
  have hty : aw_ty (t + 3) = .object Cn := by
    rcases ht with ⟨rfl, rfl⟩ | ⟨rfl, rfl⟩ <;> rfl
  obtain ⟨hAr, hRA⟩ := C.k.2.1 (t + 3) (by omega) (by rcases ht with ⟨rfl, -⟩ | ⟨rfl, -⟩ <;> omega)
  rw [hty] at hRA hAr
  obtain ⟨kA, comp, k1, k2, k3, -⟩ := hRA
  have hcomp : comp = (xg X).1.1 cq := Option.some.inj (k3.symm.trans hfc)
  subst hcomp
  refine W.aast C.x C.b hc (fun q h => by cases h) (fun h => by cases h) k1 k2 rfl hkC ⟨fun q => hin (Or.inl q), by rw [arrV_size]; exact hlt⟩ g1 (fun q h => by rw [g3] at h; cases h) (by rw [g2]; exact hkC) (by rw [g2]; exact va_assign ⟨hfc, kC, hkC, hkind⟩) rfl rfl hd fun H' e z oq => ?_
  refine kk H' _ la (hW.one hn C.d ho z oq ?_ (fun _ _ => rfl) (fun _ _ => rfl) (fun c hc => aw_sR_ne hc)) hn (hS.put z oq (aw_Aof hn C.d ho)) hL
  show H'[(xg X).2.2.1 o]? = some _
  rw [e, arrV_store]
  congr 2
  funext z
  by_cases hz : z = i.toNatClampNeg
  · simp [updV, aw_sR, hz, va_rf]
  · simp [updV, aw_sR, hz]
/-! new cells -/
def aw_zI (h : aw_H) (c : Nat) : aw_H := (fun d j => if d = c then 0 else h.1 d j, fun d j => if d = c then 0 else h.2 d j)
def aw_zR (r : aw_R) (c : Nat) : aw_R := fun d j => if d = c then none else r d j
theorem aw_W.new {g : aw_G} {L : aw_L} {r : aw_R} {h : aw_H} {H H' : Heap} {kd : Nat × Nat} (hW : aw_W g L r h H) (hn : L.length < 1000) (hB : aw_B g) (e2 : H'.size = H.size + 1) (e3 : ∀ q, q < H.size → H'[q]? = H[q]?) (hc : aw_cell g (aw_zR r L.length) (aw_zI h L.length) H' L.length kd) : aw_W g (L ++ [kd]) (aw_zR r L.length) (aw_zI h L.length) H' := by
  refine ⟨by rw [e2, hW.1, List.length_append]; rfl, fun c kd' hk => ?_⟩
  by_cases hl : c < L.length
  · rw [List.getElem?_append_left hl] at hk
    have hne : c ≠ L.length := Nat.ne_of_lt hl
    have h1 := hW.2 c kd' hk
    exact h1.to (e3 _ h1.lt) (by funext j; simp [aw_zI, hne]) (by funext j; simp [aw_zI, hne]) (by funext j; simp [aw_zR, hne])
  · rw [List.getElem?_append_right (by omega)] at hk
    have hz : c - L.length < 1 := (List.getElem?_eq_some_iff.mp hk).1
    have hc0 : c = L.length := by omega
    subst hc0
    rw [Nat.sub_self] at hk
    cases hk
    exact hc
theorem aw_newo {T : u_T} {N : Nat} {ty : Nat → FieldType} (C : aw_C X own cc nL D mc ms) (hd : decode cc pc = .ok (.new ix, 3)) (hcl : Cond.classLink own ix Cn ∈ BG) (hins : Cond.instantiable Cn N ∈ BG) (hini : Cond.initialized Cn ∈ BG) (hc : vwCl[ci]? = some (Cn, T, N)) (hin : ∀ w ∈ u_ws Cn T N, w ∈ BG) (hty : ∀ j, j < N → parseFieldDescriptor (T j).2.2.1 = some (ty j)) (htk : ∀ j, j < N → aw_tyk (aw_tk ci j) (ty j)) (hn : Nat.blt L.length 1000 = true) (hca : Nat.ble (ca + 1) mc = true) (hsa : Nat.ble (sa + N) ms = true)
    (kk : AW X nL (pc + 3) ls (.ref L.length :: st) (L ++ [(0, ci)]) (aw_zR r L.length) (aw_zI h L.length) (ca + 1) (sa + N)) : AW X nL pc ls st L r h ca sa := by
  intro H locs la hW hn' hS hL
  have hn : L.length < 1000 := Nat.le_of_ble_eq_true hn
  obtain ⟨-, -, hRc, hRs⟩ := C.2.2.2.2.2.2.2
  have hKn := C.k.1 ci _ hc
  refine W.newcK C.x C.b C.o (C.w _ hcl) (C.w _ hins) (C.w _ hini) rfl hd (by rw [hRc]; exact Nat.le_of_ble_eq_true hca) (by rw [hRs]; exact Nat.le_of_ble_eq_true hsa) hKn.2.1 rfl fun H1 kC hkC e1 z1 o1 => ?_
  have hb : (xg X).2.2.1 L.length = H.size := by rw [C.d _ hn, hW.1]
  have ob := u_born (H := H1) (o := H.size) ty C.w hin hKn hkC e1 hty
  have hcell : aw_cell (xg X) (aw_zR r L.length) (aw_zI h L.length) H1 L.length (0, ci) := by
    refine ⟨_, hc, ?_⟩
    rw [hb]
    refine ob.to (fun j hj => ?_)
    have ht := htk j hj
    have hz : aw_fv (xg X).2.2.1 (aw_zR r L.length) (aw_zI h L.length) L.length ci j = match aw_tk ci j with
        | 1 => .long 0
        | 2 => .null
        | _ => .int 0 := by
      simp only [aw_fv, aw_zR, aw_zI, if_pos]
      rfl
    show defaultValue (ty j) = aw_fv (xg X).2.2.1 (aw_zR r L.length) (aw_zI h L.length) L.length ci j
    rw [hz]
    generalize aw_tk ci j = t at ht ⊢
    match t, ht with
    | 0, ht => rw [show ty j = .int from ht]; rfl
    | 1, ht => rw [show ty j = .long from ht]; rfl
    | 2, ht => rcases (show (∃ n, ty j = .object n) ∨ ∃ u, ty j = .array u from ht) with ⟨n, e⟩ | ⟨u, e⟩ <;> (rw [e]; rfl)
    | 3, ht => rw [show ty j = .boolean from ht]; rfl
    | t + 4, ht => exact absurd ht (fun q => q)
  have key := kk H1 locs la (hW.new hn C.d z1 o1 hcell) (by rw [List.length_append]; exact hn) ⟨Nat.le_trans hS.1 (by omega), fun q h1 h2 => (o1 q (Nat.lt_of_lt_of_le h1 hS.1)).trans (hS.2.1 q h1 h2), hS.2.2⟩ hL
  rw [List.map_cons, show aw_tv (xd X) (.ref L.length) = .ref H.size from congrArg Value.ref hb] at key
  exact key
end AWM
end
section
section AWN
variable {X : aw_X} {own : String} {cc : ByteArray} {nL D mc ms pc : Nat} {ls st : List Value} {L : aw_L} {r : aw_R} {h : aw_H} {ca sa : Nat} {o ci k ix tk : Nat} {Cn fn fd : String} {fin : Bool}
theorem aw_newI {n : Int32} {N : Nat} (C : aw_C X own cc nL D mc ms) (hd : decode cc pc = .ok (.newarray .int, 2)) (ha : Cond.arrayClass .int ∈ BG) (hN : vp_in n 1000 ∧ n.toNatClampNeg = N) (hn : Nat.blt L.length 1000 = true) (hca : Nat.ble (ca + 1) mc = true) (hsa : Nat.ble (sa + N) ms = true)
    (kk : AW X nL (pc + 2) ls (.ref L.length :: st) (L ++ [(1, N)]) (aw_zR r L.length) (aw_zI h L.length) (ca + 1) (sa + N)) : AW X nL pc ls (.int n :: st) L r h ca sa := by
  intro H locs la hW hn' hS hL
  have hn : L.length < 1000 := Nat.le_of_ble_eq_true hn
  have hlt := aw_in hN
  obtain ⟨hin, rfl⟩ := hN
  obtain ⟨-, -, hRc, hRs⟩ := C.2.2.2.2.2.2.2
  refine W.newa C.x C.b (atype := .int) (C.w _ ha) rfl hd rfl (fun q => hin (Or.inl q)) (by show _ * 4 ≤ _; omega) (by rw [hRc]; exact Nat.le_of_ble_eq_true hca) (by rw [hRs]; exact Nat.le_of_ble_eq_true hsa) fun cA kA comp f1 f2 f3 => ?_
  have hcA : cA = (xg X).2.1 1 := Option.some.inj (f1.symm.trans (C.k.2.1 1 (by decide) (by decide)).2)
  subst hcA
  generalize hH1 : H.push ({ cls := _, slots := _, vm := .none } : Cell) = H1
  have z1 : H1.size = H.size + 1 := by rw [← hH1, Array.size_push]
  have e1 : H1[H.size]? = some (arrV ((xg X).2.1 1) n.toNatClampNeg (fun _ => .int 0)) := by rw [← hH1, Array.getElem?_push_size, ← arrV_new]; rfl
  have o1 : ∀ q : Nat, q < H.size → H1[q]? = H[q]? := fun q hq => by rw [← hH1, Array.getElem?_push, if_neg (Nat.ne_of_lt hq)]
  have hb : (xg X).2.2.1 L.length = H.size := by rw [C.d _ hn, hW.1]
  have key := kk H1 locs la (hW.new (kd := (1, n.toNatClampNeg)) hn C.d z1 o1 (show H1[(xg X).2.2.1 L.length]? = some _ by rw [hb, e1]; congr 2; funext j; simp [aw_zI])) (by rw [List.length_append]; exact hn) ⟨Nat.le_trans hS.1 (by omega), fun q h1 h2 => (o1 q (Nat.lt_of_lt_of_le h1 hS.1)).trans (hS.2.1 q h1 h2), hS.2.2⟩ hL
  rw [List.map_cons, show aw_tv (xd X) (.ref L.length) = .ref H.size from congrArg Value.ref hb] at key
  exact key
theorem aw_newL {n : Int32} {N : Nat} (C : aw_C X own cc nL D mc ms) (hd : decode cc pc = .ok (.newarray .long, 2)) (ha : Cond.arrayClass .long ∈ BG) (hN : vp_in n 1000 ∧ n.toNatClampNeg = N) (hn : Nat.blt L.length 1000 = true) (hca : Nat.ble (ca + 1) mc = true) (hsa : Nat.ble (sa + N) ms = true)
    (kk : AW X nL (pc + 2) ls (.ref L.length :: st) (L ++ [(2, N)]) (aw_zR r L.length) (aw_zI h L.length) (ca + 1) (sa + N)) : AW X nL pc ls (.int n :: st) L r h ca sa := by
  intro H locs la hW hn' hS hL
  have hn : L.length < 1000 := Nat.le_of_ble_eq_true hn
  have hlt := aw_in hN
  obtain ⟨hin, rfl⟩ := hN
  obtain ⟨-, -, hRc, hRs⟩ := C.2.2.2.2.2.2.2
  refine W.newa C.x C.b (atype := .long) (C.w _ ha) rfl hd rfl (fun q => hin (Or.inl q)) (by show _ * 8 ≤ _; omega) (by rw [hRc]; exact Nat.le_of_ble_eq_true hca) (by rw [hRs]; exact Nat.le_of_ble_eq_true hsa) fun cA kA comp f1 f2 f3 => ?_
  have hcA : cA = (xg X).2.1 2 := Option.some.inj (f1.symm.trans (C.k.2.1 2 (by decide) (by decide)).2)
  subst hcA
  generalize hH1 : H.push ({ cls := _, slots := _, vm := .none } : Cell) = H1
  have z1 : H1.size = H.size + 1 := by rw [← hH1, Array.size_push]
  have e1 : H1[H.size]? = some (arrV ((xg X).2.1 2) n.toNatClampNeg (fun _ => .long 0)) := by rw [← hH1, Array.getElem?_push_size, ← arrV_new]; rfl
  have o1 : ∀ q : Nat, q < H.size → H1[q]? = H[q]? := fun q hq => by rw [← hH1, Array.getElem?_push, if_neg (Nat.ne_of_lt hq)]
  have hb : (xg X).2.2.1 L.length = H.size := by rw [C.d _ hn, hW.1]
  have key := kk H1 locs la (hW.new (kd := (2, n.toNatClampNeg)) hn C.d z1 o1 (show H1[(xg X).2.2.1 L.length]? = some _ by rw [hb, e1]; congr 2; funext j; simp [aw_zI])) (by rw [List.length_append]; exact hn) ⟨Nat.le_trans hS.1 (by omega), fun q h1 h2 => (o1 q (Nat.lt_of_lt_of_le h1 hS.1)).trans (hS.2.1 q h1 h2), hS.2.2⟩ hL
  rw [List.map_cons, show aw_tv (xd X) (.ref L.length) = .ref H.size from congrArg Value.ref hb] at key
  exact key
theorem aw_newA {n : Int32} {N t : Nat} (C : aw_C X own cc nL D mc ms) (hd : decode cc pc = .ok (.anewarray ix, 3)) (ht : (t = 0 ∧ Cn = RX3) ∨ (t = 1 ∧ Cn = RX1)) (hcl : Cond.classLink own ix Cn ∈ BG) (hN : vp_in n 1000 ∧ n.toNatClampNeg = N) (hn : Nat.blt L.length 1000 = true) (hca : Nat.ble (ca + 1) mc = true) (hsa : Nat.ble (sa + N) ms = true)
    (kk : AW X nL (pc + 3) ls (.ref L.length :: st) (L ++ [(t + 3, N)]) (aw_zR r L.length) (aw_zI h L.length) (ca + 1) (sa + N)) : AW X nL pc ls (.int n :: st) L r h ca sa := by
  intro H locs la hW hn' hS hL
  have hn : L.length < 1000 := Nat.le_of_ble_eq_true hn
  have hlt := aw_in hN
  obtain ⟨hin, rfl⟩ := hN
  obtain ⟨-, -, hRc, hRs⟩ := C.2.2.2.2.2.2.2
  have hAO : va_AO Cn (xs X) := by
    rcases ht with ⟨-, rfl⟩ | ⟨-, rfl⟩
    · exact C.k.2.2.2.1.1
    · exact C.k.2.2.2.1.2
  have hty : aw_ty (t + 3) = .object Cn := by
    rcases ht with ⟨rfl, rfl⟩ | ⟨rfl, rfl⟩ <;> rfl
  have hRA := (C.k.2.1 (t + 3) (by omega) (by rcases ht with ⟨rfl, -⟩ | ⟨rfl, -⟩ <;> omega)).2
  rw [hty] at hRA
  obtain ⟨kA', comp', k1, k2, k3, k4⟩ := hRA
  refine W.anew C.x C.b C.o (C.w _ hcl) (va_AO.use hAO) rfl hd rfl (fun q => hin (Or.inl q)) (by omega) (by rw [hRc]; exact Nat.le_of_ble_eq_true hca) (by rw [hRs]; exact Nat.le_of_ble_eq_true hsa) fun cA kA comp f1 f2 f3 f4 => ?_
  have hcA : cA = (xg X).2.1 (t + 3) := Option.some.inj (f1.symm.trans k4)
  subst hcA
  generalize hH1 : H.push ({ cls := _, slots := _, vm := .none } : Cell) = H1
  have z1 : H1.size = H.size + 1 := by rw [← hH1, Array.size_push]
  have e1 : H1[H.size]? = some (arrV ((xg X).2.1 (t + 3)) n.toNatClampNeg (fun _ => .null)) := by rw [← hH1, Array.getElem?_push_size, ← arrV_new]
  have o1 : ∀ q : Nat, q < H.size → H1[q]? = H[q]? := fun q hq => by rw [← hH1, Array.getElem?_push, if_neg (Nat.ne_of_lt hq)]
  have hb : (xg X).2.2.1 L.length = H.size := by rw [C.d _ hn, hW.1]
  have key := kk H1 locs la (hW.new (kd := (t + 3, n.toNatClampNeg)) hn C.d z1 o1 (show H1[(xg X).2.2.1 L.length]? = some _ by rw [hb, e1]; congr 2; funext j; simp [aw_zR, va_rf])) (by rw [List.length_append]; exact hn) ⟨Nat.le_trans hS.1 (by omega), fun q h1 h2 => (o1 q (Nat.lt_of_lt_of_le h1 hS.1)).trans (hS.2.1 q h1 h2), hS.2.2⟩ hL
  rw [List.map_cons, show aw_tv (xd X) (.ref L.length) = .ref H.size from congrArg Value.ref hb] at key
  exact key
theorem aw_cats (ad : Nat → Nat) (st : List Value) : ((st.map (aw_tv ad)).map fun v => v.category) = st.map fun v => v.category := by
  rw [List.map_map]
  exact List.map_congr_left (fun v _ => aw_tv_cat ad v)
/-- Object's constructor -/
theorem aw_oinit (C : aw_C X own cc nL D mc ms) (hd : decode cc pc = .ok (.invokespecial ix, 3)) (hl : Cond.methodLink own ix objectInit ∈ BG) (hi : Cond.instanceMethod objectInit ∈ BG) (hc : Cond.code objectInit ⟨#[0xb1]⟩ 1 none ∈ BG) (hD : Nat.ble 1 D = true) (hw : Nat.ble (st.map fun v => v.category).sum 8 = true)
    (kk : AW X nL (pc + 3) ls st L r h ca sa) : AW X nL pc ls (.ref o :: st) L r h ca sa := by
  intro H locs la hW hn hS hL
  obtain ⟨hRf, hRl, -, -⟩ := C.2.2.2.2.2.2.2
  have hD := Nat.le_of_ble_eq_true hD
  have hw := Nat.le_of_ble_eq_true hw
  exact W.objInit C.x C.b C.o (C.w _ hl) (C.w _ hi) (C.w _ hc) rfl (by rw [C.l]; exact hL.1) rfl hd (by omega) (by rw [aw_cats]; show 2 * 0 + _ + 12 ≤ _; omega) (kk H locs la hW hn hS hL)
/-! the constants -/
theorem aw_gets {t : Nat} (C : aw_C X own cc nL D mc ms) (hd : decode cc pc = .ok (.getstatic ix, 3)) (ht : t < 3) (hl : Cond.fieldLink own ix RX5 (aw_rn t) "[I" ∈ BG) (kk : AW X nL (pc + 3) ls (.ref (1200 + t) :: st) L r h ca sa) : AW X nL pc ls st L r h ca sa :=
  fun H locs la hW hn hS hL => va_gets C.x C.b (C.c.2.1 t ht).2 hS C.o (C.w _ hl) (fun _ q => q) hd (kk H locs la hW hn hS hL)
theorem aw_getsN {t : Nat} (C : aw_C X own cc nL D mc ms) (hd : decode cc pc = .ok (.getstatic ix, 3)) (ht : t < 3) (hl : Cond.fieldLinkNest own ix RX5 (aw_rn t) "[I" RX5 ∈ NW) (kk : AW X nL (pc + 3) ls (.ref (1200 + t) :: st) L r h ca sa) : AW X nL pc ls st L r h ca sa :=
  fun H locs la hW hn hS hL => va_getsN C.x C.b (C.c.2.1 t ht).2 hS C.o (va_Nw.use rfl (C.k.2.2.1 _ hl)) (fun _ q => q) hd (kk H locs la hW hn hS hL)
theorem aw_tald {t j : Nat} {i : Int32} (C : aw_C X own cc nL D mc ms) (hd : decode cc pc = .ok (.iaload, 1)) (ht : t < 3) (hj : vp_in i (aw_rl t) ∧ i.toNatClampNeg = j) (kk : AW X nL (pc + 1) ls (.int (aw_ro t j) :: st) L r h ca sa) : AW X nL pc ls (.int i :: .ref (1200 + t) :: st) L r h ca sa :=
  fun H locs la hW hn hS hL => va_ti C.x C.b (C.c.2.1 t ht).1 hS hj.1 (v := .int (aw_ro t j)) (by rw [hj.2]) hd (kk H locs la hW hn hS hL)
theorem aw_ldcS {i : Nat} (C : aw_C X own cc nL D mc ms) (hd : decode cc pc = .ok (.ldc ix, 2)) (hi : i < 7) (h1 : aw_so i = own) (h2 : aw_si i = ix) (kk : AW X nL (pc + 2) ls (.ref (1000 + i) :: st) L r h ca sa) : AW X nL pc ls st L r h ca sa := by
  intro H locs la hW hn hS hL
  have hz := C.k.2.2.2.2 i hi
  rw [h1, h2] at hz
  exact va_ldcS C.x C.b C.o hz hd (kk H locs la hW hn hS hL)
theorem aw_skv {i : Nat} (C : aw_C X own cc nL D mc ms) (hd : decode cc pc = .ok (.getfield ix, 3)) (hi : i < 7) (hl : Cond.fieldLink own ix RJ0 "value" "[B" ∈ BG) (kk : AW X nL (pc + 3) ls (.ref (1100 + i) :: st) L r h ca sa) : AW X nL pc ls (.ref (1000 + i) :: st) L r h ca sa :=
  fun H locs la hW hn hS hL => vk_getf C.x C.b (C.c.1.1 i hi).2.2.1 hS C.o (C.w _ hl) (fun _ q => q) hd (kk H locs la hW hn hS hL)
theorem aw_skc {i : Nat} (C : aw_C X own cc nL D mc ms) (hd : decode cc pc = .ok (.getfield ix, 3)) (hi : i < 7) (hl : Cond.fieldLink own ix RJ0 "coder" "B" ∈ BG) (kk : AW X nL (pc + 3) ls (.int 0 :: st) L r h ca sa) : AW X nL pc ls (.ref (1000 + i) :: st) L r h ca sa :=
  fun H locs la hW hn hS hL => vk_getf C.x C.b (C.c.1.1 i hi).2.1 hS C.o (C.w _ hl) (fun _ q => q) hd (kk H locs la hW hn hS hL)
theorem aw_skl {i : Nat} (C : aw_C X own cc nL D mc ms) (hd : decode cc pc = .ok (.arraylength, 1)) (hi : i < 7) (kk : AW X nL (pc + 1) ls (.int (Int32.ofNat (aw_sl.getD i 0)) :: st) L r h ca sa) : AW X nL pc ls (.ref (1100 + i) :: st) L r h ca sa :=
  fun H locs la hW hn hS hL => va_tlen C.x C.b (C.c.1.1 i hi).2.2.2 hS rfl hd (kk H locs la hW hn hS hL)
theorem aw_skb {i j : Nat} {x : Int32} (C : aw_C X own cc nL D mc ms) (hd : decode cc pc = .ok (.baload, 1)) (hi : i < 7) (hj : vp_in x (aw_sl.getD i 0) ∧ x.toNatClampNeg = j) (kk : AW X nL (pc + 1) ls (.int ((aw_sb.getD i []).getD j 0) :: st) L r h ca sa) : AW X nL pc ls (.int x :: .ref (1100 + i) :: st) L r h ca sa :=
  fun H locs la hW hn hS hL => va_tb C.x C.b (C.c.1.1 i hi).2.2.2 hS hj.1 (v := .int ((aw_sb.getD i []).getD j 0)) (by rw [hj.2]) hd (kk H locs la hW hn hS hL)
theorem aw_getcs (C : aw_C X own cc nL D mc ms) (hd : decode cc pc = .ok (.getstatic ix, 3)) (hl : Cond.fieldLink own ix RJ0 "COMPACT_STRINGS" "Z" ∈ BG) (kk : AW X nL (pc + 3) ls (.int 1 :: st) L r h ca sa) : AW X nL pc ls st L r h ca sa :=
  fun H locs la hW hn hS hL => va_gets C.x C.b C.c.2.2.1 hS C.o (C.w _ hl) (fun _ q => q) hd (kk H locs la hW hn hS hL)
theorem aw_getfm (C : aw_C X own cc nL D mc ms) (hd : decode cc pc = .ok (.getstatic ix, 3)) (hl : Cond.fieldLink own ix RJ3 aw_fm aw_fd ∈ BG) (k0 : AW X nL (pc + 3) ls (.null :: st) L r h ca sa) (k1 : AW X nL (pc + 3) ls (.ref 1300 :: st) L r h ca sa) : AW X nL pc ls st L r h ca sa := by
  intro H locs la hW hn hS hL
  rcases C.c.2.2.2 with hz | hz
  · exact va_gets C.x C.b hz hS C.o (C.w _ hl) (fun _ q => q) hd (k0 H locs la hW hn hS hL)
  · exact va_gets C.x C.b hz hS C.o (C.w _ hl) (fun _ q => q) hd (k1 H locs la hW hn hS hL)
/-! contracts -/
def aw_rm (d mc ms : Nat) : Room := { frames := d, cells := mc, slots := ms, locals := 39 * d }
def aw_Pc (g : aw_G) (as : List Value) (L : aw_L) (r : aw_R) (h : aw_H) : Array Value → State → Prop := fun a U => a = (as.map (aw_tv g.2.2.1)).toArray ∧ aw_S g L r h U
def aw_Qc (g : aw_G) (post : Option Value → aw_L → aw_R → aw_H → Prop) : Array Value → State → Outcome → State → Prop := fun _ st oc t => ∃ (v : Option Value) (L' : aw_L) (r' : aw_R) (h' : aw_H), post v L' r' h' ∧ oc = .returned (v.map (aw_tv g.2.2.1)) ∧ aw_W g L' r' h' t.heap ∧ L'.length ≤ 1000 ∧ st.heap.size ≤ t.heap.size ∧ ∀ q : Nat, q < st.heap.size → ¬ aw_A g q → t.heap[q]? = st.heap[q]?
theorem aw_blind (g : aw_G) (as : List Value) (L : aw_L) (r : aw_R) (h : aw_H) : FrameBlind (aw_Pc g as L r h) := fun a U g' mk ⟨h1, h2, h3, h4, h5⟩ => ⟨h1, h2, aw_K.same (u := U) (U := U.calling g' mk a) rfl h3, aw_O.to (u := U) (U := U.calling g' mk a) (Vm.Alike.refl U.vm) (fun _ _ _ => rfl) h4, h5⟩
/-- method y, of depth d, over the world L r h, with the arguments as: it returns, and post says what -/
def Ct (d mc ms : Nat) (y : MethodName) (cc : ByteArray) (ml : Nat) (ret : Option FieldType) (as : List Value) (L : aw_L) (r : aw_R) (h : aw_H) (post : Option Value → aw_L → aw_R → aw_H → Prop) : Prop :=
  ∀ (l : Launch) (g : aw_G), Met l y (Cond.code y cc ml ret :: BG) (aw_rm d mc ms) (aw_Pc g as L r h) (aw_Qc g post) mc ms (aw_A g)
def aw_E (X : aw_X) (ret : Option FieldType) (post : Option Value → aw_L → aw_R → aw_H → Prop) (mc ms : Nat) : Prop := xQ X = MQ (xb X) (aw_Qc (xg X) post) (xa X) (xs X) mc ms (aw_A (xg X)) ∧ (xt X).sig.returnType = ret
theorem aw_len : ∀ as : List Value, (lg_sl as).length = (aw_al as).length
  | [] => rfl
  | v :: t => by
    have ih := aw_len t
    have e : lg_sl (v :: t) = (if v.category = 2 then [.val v, .second] else [.val v]) ++ lg_sl t := rfl
    rw [e, aw_al]
    cases v <;> simp [aw_n2, Value.category, ih] <;> omega
theorem aw_lenM (ad : Nat → Nat) : ∀ as : List Value, (lg_sl (as.map (aw_tv ad))).length = (lg_sl as).length
  | [] => rfl
  | v :: t => by
    have ih := aw_lenM ad t
    have e : ∀ (v : Value) (t : List Value), lg_sl (v :: t) = (if v.category = 2 then [.val v, .second] else [.val v]) ++ lg_sl t := fun _ _ => rfl
    rw [List.map_cons, e, e, aw_tv_cat, List.length_append, List.length_append, ih]
    split <;> rfl
theorem Ct.of {d mc ms : Nat} {y : MethodName} {cc : ByteArray} {ml : Nat} {ret : Option FieldType} {as ls0 : List Value} {L : aw_L} {r : aw_R} {h : aw_H} {post : Option Value → aw_L → aw_R → aw_H → Prop} (hy : plainName y.cls = true) (hls : ls0 = aw_al as ++ List.replicate (ml - (aw_al as).length) (.retAddr 0)) (hlen : Nat.ble (aw_al as).length ml = true)
    (body : ∀ X, aw_C X y.cls cc ml d mc ms → aw_E X ret post mc ms → (xt X).name = y.name → AW X ml 0 ls0 [] L r h 0 0) : Ct d mc ms y cc ml ret as L r h post := by
  intro l g
  refine Met.ofW hy rfl ?_
  intro p e s m args below meth c s₁ B hml hv
  obtain ⟨rfl, hW, hK, hO, hB, hn⟩ := hv
  have hts := atoms_spec (ws := Cond.code y cc ml ret :: BG) B.pre
  have hown : s.vm.findClass y.cls = some m.cls := findClass_of_methodNamed B.named
  have key := body (p, l, e, (headSpec (Cond.code y cc ml ret :: BG) (aw_rm d mc ms)).room, s, m, (as.map (aw_tv g.2.2.1)).toArray, below, meth, c, MQ below (aw_Qc g post) (as.map (aw_tv g.2.2.1)).toArray s mc ms (aw_A g), g) ⟨B.exec, B.bytes, hml, hown, fun w hw => hts w (List.mem_cons_of_mem _ hw), B.notSynchronized, ⟨by rw [hW.1]; exact Nat.le_add_right _ _, hK, hO, hB⟩, ⟨Nat.le_refl d, Nat.le_refl _, rfl, rfl⟩⟩ ⟨rfl, B.returns⟩ (name_of_methodNamed B.named B.method).1
  have hle := Nat.le_of_ble_eq_true hlen
  have hl := lv_entry (as.map (aw_tv g.2.2.1)) (n := ml) (by rw [aw_lenM, aw_len]; exact hle)
  rw [lg_entry_eq]
  refine key s.heap [] _ hW hn va_S.rf (lv_mono hl fun q hq => ?_)
  rw [hls] at hq
  exact aw_al_mem hq
section AWE
variable {post : Option Value → aw_L → aw_R → aw_H → Prop}
theorem aw_end {H : Heap} {locs : List Loc} (v : Option Value) (hS : va_S (aw_A (xg X)) (xs X).heap H locs) (hW : aw_W (xg X) L r h H) (hn : L.length ≤ 1000) (hp : post v L r h) (t : State) (ht : t.heap = H) : aw_Qc (xg X) post (xa X) (xs X) (.returned (v.map (aw_tv (xg X).2.2.1))) t :=
  ⟨v, L, r, h, hp, rfl, by rw [ht]; exact hW, hn, by rw [ht]; exact hS.1, fun q h1 h2 => by rw [ht]; exact hS.2.1 q h1 h2⟩
theorem aw_iret {v : Int32} (C : aw_C X own cc nL D mc ms) (E : aw_E X (some .int) post mc ms) (hd : decode cc pc = .ok (.ireturn, 1)) (hca : Nat.ble ca mc = true) (hsa : Nat.ble sa ms = true) (hp : post (some (.int v)) L r h) : AW X nL pc ls [.int v] L r h ca sa := by
  intro H locs la hW hn hS hL
  rw [E.1]
  exact W.widen (Nat.le_of_ble_eq_true hca) (Nat.le_of_ble_eq_true hsa) (W.iret (v := v) C.x C.b E.2 (fun t ht _ => aw_end (some (.int v)) hS hW hn hp t ht) hS.2.2 hd C.2.2.2.2.2.1)
theorem aw_lret {v : Int64} (C : aw_C X own cc nL D mc ms) (E : aw_E X (some .long) post mc ms) (hd : decode cc pc = .ok (.lreturn, 1)) (hca : Nat.ble ca mc = true) (hsa : Nat.ble sa ms = true) (hp : post (some (.long v)) L r h) : AW X nL pc ls [.long v] L r h ca sa := by
  intro H locs la hW hn hS hL
  rw [E.1]
  exact W.widen (Nat.le_of_ble_eq_true hca) (Nat.le_of_ble_eq_true hsa) (W.lret (v := v) C.x C.b E.2 (fun t ht _ => aw_end (some (.long v)) hS hW hn hp t ht) hS.2.2 hd C.2.2.2.2.2.1)
theorem aw_vret (C : aw_C X own cc nL D mc ms) (E : aw_E X none post mc ms) (hd : decode cc pc = .ok (.return_, 1)) (hca : Nat.ble ca mc = true) (hsa : Nat.ble sa ms = true) (hp : post none L r h) : AW X nL pc ls [] L r h ca sa := by
  intro H locs la hW hn hS hL
  rw [E.1]
  exact W.widen (Nat.le_of_ble_eq_true hca) (Nat.le_of_ble_eq_true hsa) (W.vret C.x C.b E.2 (fun t ht _ => aw_end none hS hW hn hp t ht) hS.2.2 hd C.2.2.2.2.2.1)
theorem aw_zret {v : Int32} {ty : FieldType} (C : aw_C X own cc nL D mc ms) (E : aw_E X (some ty) post mc ms) (hv : narrow ty (.int v) = .int v) (hd : decode cc pc = .ok (.ireturn, 1)) (hca : Nat.ble ca mc = true) (hsa : Nat.ble sa ms = true) (hp : post (some (.int v)) L r h) : AW X nL pc ls [.int v] L r h ca sa := by
  intro H locs la hW hn hS hL
  rw [E.1]
  exact W.widen (Nat.le_of_ble_eq_true hca) (Nat.le_of_ble_eq_true hsa) (W.zret (v := v) C.x C.b E.2 hv (fun t ht _ => aw_end (some (.int v)) hS hW hn hp t ht) hS.2.2 hd C.2.2.2.2.2.1)
theorem aw_aretR {q : Nat} {cn : String} (C : aw_C X own cc nL D mc ms) (E : aw_E X (some (.object cn)) post mc ms) (hd : decode cc pc = .ok (.areturn, 1)) (hca : Nat.ble ca mc = true) (hsa : Nat.ble sa ms = true) (hp : post (some (.ref q)) L r h) : AW X nL pc ls [.ref q] L r h ca sa := by
  intro H locs la hW hn hS hL
  rw [E.1]
  exact W.widen (Nat.le_of_ble_eq_true hca) (Nat.le_of_ble_eq_true hsa) (W.aret C.x C.b E.2 (Or.inl ⟨cn, rfl⟩) (Or.inr ⟨_, rfl⟩) (fun t ht _ => aw_end (some (.ref q)) hS hW hn hp t ht) hS.2.2 hd C.2.2.2.2.2.1)
theorem aw_aretN {cn : String} (C : aw_C X own cc nL D mc ms) (E : aw_E X (some (.object cn)) post mc ms) (hd : decode cc pc = .ok (.areturn, 1)) (hca : Nat.ble ca mc = true) (hsa : Nat.ble sa ms = true) (hp : post (some .null) L r h) : AW X nL pc ls [.null] L r h ca sa := by
  intro H locs la hW hn hS hL
  rw [E.1]
  exact W.widen (Nat.le_of_ble_eq_true hca) (Nat.le_of_ble_eq_true hsa) (W.aret C.x C.b E.2 (Or.inl ⟨cn, rfl⟩) (Or.inl rfl) (fun t ht _ => aw_end (some .null) hS hW hn hp t ht) hS.2.2 hd C.2.2.2.2.2.1)
end AWE
end AWN
end
section
/-! CALLS: by the callee's contract -/
/-- what a call needs of method y: its code, its class, n parameters -/
def aw_Y (y : MethodName) (bytes : ByteArray) (ml : Nat) (ret : Option FieldType) (n : Nat) : Prop := Cond.code y bytes ml ret ∈ BG ∧ Cond.initialized y.cls ∈ BG ∧ (y.cls ≠ "java/lang/invoke/MethodHandle" ∧ y.cls ≠ "java/lang/invoke/VarHandle") ∧ (parseMethodDescriptor y.desc).map (fun d => d.parameters.length) = some n ∧ ml ≤ 20
theorem bg_good {w : Cond} (h : w ∈ BG) : (w.onTables && w.keeps) = true ∨ ∃ ty, w = .arrayClass ty := good_of_word (List.mem_filter.mp h).2
theorem bg_ws {w0 : Cond} (h : w0 ∈ BG) : ∀ w ∈ (w0 :: BG), w ∈ BG ∧ ((w.onTables && w.keeps) = true ∨ ∃ ty, w = .arrayClass ty) := fun w hw => by
  rcases List.mem_cons.mp hw with rfl | hw
  · exact ⟨h, bg_good h⟩
  · exact ⟨hw, bg_good hw⟩
section AWK
variable {X : aw_X} {own : String} {cc : ByteArray} {nL D mc ms pc : Nat} {ls st : List Value} {L : aw_L} {r : aw_R} {h : aw_H} {ca sa : Nat} {ix o ci d mc' ms' ml n : Nat} {y : MethodName} {bytes : ByteArray} {ret : Option FieldType} {post : Option Value → aw_L → aw_R → aw_H → Prop}
theorem aw_pre {H : Heap} {locs : List Loc} {as : List Value} (C : aw_C X own cc nL D mc ms) (hW : aw_W (xg X) L r h H) (hn : L.length ≤ 1000) (hS : va_S (aw_A (xg X)) (xs X).heap H locs) (U : State) (hU : U.heap = H) (hw : (xs X).WarmedH U.vm) : aw_Pc (xg X) as L r h (as.map (aw_tv (xg X).2.2.1)).toArray U :=
  ⟨rfl, by rw [hU]; exact hW, C.k.warm hw, by rw [hU]; exact aw_O.to hw.alike hS.2.1 C.c, C.d, hn⟩
theorem aw_cont {H : Heap} {locs : List Loc} {la : Array Slot} {st0 : List Value} {a : Array Value} (hr : va_Run (xp X) (xl X) (xe X) (xR X) (xs X) (xm X) (xa X) (xb X) (xt X) (xc X) H locs ca sa mc' ms' (F0 (xm X) pc la st0) (st.map (aw_tv (xd X))) (aw_Qc (xg X) post a) (aw_A (xg X)))
    (hS : va_S (aw_A (xg X)) (xs X).heap H locs) (hL : lv_has la nL (aw_lv (xd X) 0 ls)) (kk : ∀ (v : Option Value) (L' : aw_L) (r' : aw_R) (h' : aw_H), post v L' r' h' → AW X nL (pc + 3) ls (v.toList ++ st) L' r' h' (ca + mc') (sa + ms')) :
    W (xp X) (xl X) (xe X) (xR X) (xs X) (xm X) (xa X) (xb X) (xt X) (xc X) H locs ca sa (xQ X) (F0 (xm X) pc la st0) := by
  intro T hT XX
  obtain ⟨v, st₀, t, T', L0, h0, X', hL0, e1, e2, ⟨v1, L', r', h', hp, hv, hW', hn', hsz, hf⟩, go⟩ := hr T hT XX
  cases hv
  rw [h0] at hsz hf
  obtain ⟨t2, a1, b1⟩ := kk v1 L' r' h' hp T'.heap (locs ++ L0) la (by rw [e1]; exact hW') hn' ⟨Nat.le_trans hS.1 (by rw [e1]; exact hsz), fun q h1 h2 => by rw [e1, hf q (Nat.lt_of_lt_of_le h1 hS.1) h2]; exact hS.2.1 q h1 h2, fun q hq => by
      rcases List.mem_append.mp hq with hq | hq
      · exact hS.2.2 q hq
      · exact hL0 q hq⟩ hL T' rfl X'
  refine ⟨t2, go t2 ?_, b1⟩
  cases v1 <;> exact a1
theorem aw_cb {rest : List Value} (C : aw_C X own cc nL D mc ms) (hy : aw_Y y bytes ml ret n) (hl : Cond.methodLink own ix y ∈ BG) (hD : Nat.blt d D = true) : CallB (xR X) (xs X) (xa X) own ix y bytes ml ret (Cond.code y bytes ml ret :: BG) (aw_rm d mc' ms') mc' ms' n := by
  obtain ⟨hc, hi, hne, hp, hml⟩ := hy
  obtain ⟨hRf, hRl, -, -⟩ := C.2.2.2.2.2.2.2
  have hD : d + 1 ≤ D := Nat.le_of_ble_eq_true hD
  refine ⟨rfl, rfl, ?_, ?_, pay_in C.w (bg_ws hc), List.mem_cons_self, C.w _ hc, C.w _ hi, hne, fun sig hs => ?_, C.w _ hl⟩
  · show d + 1 ≤ _
    omega
  · show 8 + (ml + 11) + 39 * d ≤ _
    have h1 : 39 * (d + 1) ≤ 39 * D := Nat.mul_le_mul_left 39 hD
    omega
  · rw [hs] at hp
    exact (Option.some.inj hp).symm
theorem aw_cn {rest : List Value} (C : aw_C X own cc nL D mc ms) (hy : aw_Y y bytes ml ret n) (hl : Cond.methodLinkNest own ix y RX5 ∈ NW) (hD : Nat.blt d D = true) : va_CN (xR X) (xs X) (xa X) own ix y RX5 bytes ml ret (Cond.code y bytes ml ret :: BG) (aw_rm d mc' ms') mc' ms' n := by
  obtain ⟨hc, hi, hne, hp, hml⟩ := hy
  obtain ⟨hRf, hRl, -, -⟩ := C.2.2.2.2.2.2.2
  have hD : d + 1 ≤ D := Nat.le_of_ble_eq_true hD
  refine ⟨⟨rfl, rfl, ?_, ?_, pay_in C.w (bg_ws hc), List.mem_cons_self⟩, C.w _ hc, C.w _ hi, hne, fun sig hs => ?_, va_Nw.use rfl (C.k.2.2.1 _ hl)⟩
  · show d + 1 ≤ _
    omega
  · show 8 + (ml + 11) + 39 * d ≤ _
    have h1 : 39 * (d + 1) ≤ 39 * D := Nat.mul_le_mul_left 39 hD
    omega
  · rw [hs] at hp
    exact (Option.some.inj hp).symm
theorem aw_fit (C : aw_C X own cc nL D mc ms) (h1 : Nat.ble (ca + mc') mc = true) (h2 : Nat.ble (sa + ms') ms = true) : ca + mc' ≤ (xR X).cells ∧ sa + ms' ≤ (xR X).slots := by
  obtain ⟨-, -, hRc, hRs⟩ := C.2.2.2.2.2.2.2
  rw [hRc, hRs]
  exact ⟨Nat.le_of_ble_eq_true h1, Nat.le_of_ble_eq_true h2⟩
theorem aw_mapR (f : Value → Value) (as : List Value) (st : List Value) : (as.reverse ++ st).map f = (as.map f).reverse ++ st.map f := by rw [List.map_append, List.map_reverse]
theorem aw_rst {pc' : Nat} {la : Array Slot} {st0 : List Value} (ad : Nat → Nat) (hw : Nat.ble (st.map fun v => v.category).sum 8 = true) : 2 * (F0 (xm X) pc' la st0).monitorRoom + ((st.map (aw_tv ad)).map fun v => v.category).sum ≤ 8 := lv_room (by rw [aw_cats]; exact Nat.le_of_ble_eq_true hw)
theorem aw_callS {as : List Value} (C : aw_C X own cc nL D mc ms) (hd : decode cc pc = .ok (.invokestatic ix, 3)) (hy : aw_Y y bytes ml ret n) (hl : Cond.methodLink own ix y ∈ BG) (hs : Cond.static y ∈ BG) (hD : Nat.blt d D = true) (hw : Nat.ble (st.map fun v => v.category).sum 8 = true) (hn : as.length = n) (h1 : Nat.ble (ca + mc') mc = true) (h2 : Nat.ble (sa + ms') ms = true) (hM : Ct d mc' ms' y bytes ml ret as L r h post)
    (kk : ∀ (v : Option Value) (L' : aw_L) (r' : aw_R) (h' : aw_H), post v L' r' h' → AW X nL (pc + 3) ls (v.toList ++ st) L' r' h' (ca + mc') (sa + ms')) : AW X nL pc ls (as.reverse ++ st) L r h ca sa := by
  intro H locs la hW hln hS hL
  rw [aw_mapR]
  exact aw_cont (va_runS (As := as.map (aw_tv (xd X))) ⟨C.x, C.b, C.l, C.o, C.w⟩ (hM (xl X) (xg X)) ⟨aw_cb (rest := st) C hy hl hD, C.w _ hs⟩ ⟨aw_blind _ _ _ _ _, aw_pre C hW hln hS⟩ rfl (by rw [List.length_map]; exact hn) hL.1 rfl (aw_rst _ hw) hd (aw_fit C h1 h2)) hS hL kk
theorem aw_callSN {as : List Value} (C : aw_C X own cc nL D mc ms) (hd : decode cc pc = .ok (.invokestatic ix, 3)) (hy : aw_Y y bytes ml ret n) (hl : Cond.methodLinkNest own ix y RX5 ∈ NW) (hs : Cond.static y ∈ BG) (hD : Nat.blt d D = true) (hw : Nat.ble (st.map fun v => v.category).sum 8 = true) (hn : as.length = n) (h1 : Nat.ble (ca + mc') mc = true) (h2 : Nat.ble (sa + ms') ms = true) (hM : Ct d mc' ms' y bytes ml ret as L r h post)
    (kk : ∀ (v : Option Value) (L' : aw_L) (r' : aw_R) (h' : aw_H), post v L' r' h' → AW X nL (pc + 3) ls (v.toList ++ st) L' r' h' (ca + mc') (sa + ms')) : AW X nL pc ls (as.reverse ++ st) L r h ca sa := by
  intro H locs la hW hln hS hL
  rw [aw_mapR]
  exact aw_cont (va_runSN (As := as.map (aw_tv (xd X))) ⟨C.x, C.b, C.l, C.o, C.w⟩ (hM (xl X) (xg X)) ⟨aw_cn (rest := st) C hy hl hD, C.w _ hs, trivial⟩ ⟨aw_blind _ _ _ _ _, aw_pre C hW hln hS⟩ rfl (by rw [List.length_map]; exact hn) hL.1 rfl (aw_rst _ hw) hd (aw_fit C h1 h2)) hS hL kk
/-- an object that is of the method's class -/
def aw_Rv (X : aw_X) (y : MethodName) (L : aw_L) (r : aw_R) (h : aw_H) (o : Nat) : Prop := ∀ (H : Heap) (locs : List Loc), aw_W (xg X) L r h H → va_S (aw_A (xg X)) (xs X).heap H locs → ∃ cellB : Cell, H[xd X o]? = some cellB ∧ cellB.vm.isStatics = false ∧ (xs X).vm.findClass y.cls = some cellB.cls
theorem aw_rv {T : u_T} {N : Nat} (C : aw_C X own cc nL D mc ms) (ho : L[o]? = some (0, ci)) (hc : vwCl[ci]? = some (y.cls, T, N)) : aw_Rv X y L r h o := by
  intro H locs hW hS
  obtain ⟨q, hq, cell, q1, q2, q3, -⟩ := (show ∃ q : vw_C, vwCl[ci]? = some q ∧ t_OB _ _ _ _ _ _ from hW.2 o (0, ci) ho)
  cases hc.symm.trans hq
  obtain ⟨-, hfc, -⟩ := C.k.1 ci _ hc
  exact ⟨cell, q1, by rw [q3]; rfl, by rw [q2]; exact hfc⟩
theorem aw_rvS {i : Nat} (C : aw_C X own cc nL D mc ms) (hi : i < 7) (hy : y.cls = RJ0) : aw_Rv X y L r h (1000 + i) := by
  intro H locs hW hS
  obtain ⟨cell, h1, h2, h3⟩ := vk_recv C.c.1 hi hS
  exact ⟨cell, h1, h2, by rw [hy]; exact h3⟩
theorem aw_callV {as : List Value} (C : aw_C X own cc nL D mc ms) (hd : decode cc pc = .ok (.invokevirtual ix, 3)) (hy : aw_Y y bytes ml ret n) (hl : Cond.methodLink own ix y ∈ BG) (hi : Cond.instanceMethod y ∈ BG) (hv : Cond.selects y.cls y y ∈ BG) (hrv : aw_Rv X y L r h o) (hD : Nat.blt d D = true) (hw : Nat.ble (st.map fun v => v.category).sum 8 = true) (hn : as.length = n) (h1 : Nat.ble (ca + mc') mc = true) (h2 : Nat.ble (sa + ms') ms = true) (hM : Ct d mc' ms' y bytes ml ret (.ref o :: as) L r h post)
    (kk : ∀ (v : Option Value) (L' : aw_L) (r' : aw_R) (h' : aw_H), post v L' r' h' → AW X nL (pc + 3) ls (v.toList ++ st) L' r' h' (ca + mc') (sa + ms')) : AW X nL pc ls (as.reverse ++ .ref o :: st) L r h ca sa := by
  intro H locs la hW hln hS hL
  rw [aw_mapR]
  exact aw_cont (va_runV (As := as.map (aw_tv (xd X))) (C := y.cls) ⟨C.x, C.b, C.l, C.o, C.w⟩ (hM (xl X) (xg X)) ⟨aw_cb (rest := st) C hy hl hD, C.w _ hi, C.w _ hv⟩ ⟨aw_blind _ _ _ _ _, hrv H locs hW hS, aw_pre (as := .ref o :: as) C hW hln hS⟩ rfl (by rw [List.length_map]; exact hn) hL.1 rfl (aw_rst _ hw) hd (aw_fit C h1 h2)) hS hL kk
theorem aw_callI {as : List Value} (C : aw_C X own cc nL D mc ms) (hd : decode cc pc = .ok (.invokespecial ix, 3)) (hy : aw_Y y bytes ml none n) (hl : Cond.methodLink own ix y ∈ BG) (hi : Cond.instanceMethod y ∈ BG) (hnm : y.name = "<init>") (hD : Nat.blt d D = true) (hw : Nat.ble (st.map fun v => v.category).sum 8 = true) (hn : as.length = n) (h1 : Nat.ble (ca + mc') mc = true) (h2 : Nat.ble (sa + ms') ms = true) (hM : Ct d mc' ms' y bytes ml none (.ref o :: as) L r h post)
    (kk : ∀ (v : Option Value) (L' : aw_L) (r' : aw_R) (h' : aw_H), post v L' r' h' → AW X nL (pc + 3) ls (v.toList ++ st) L' r' h' (ca + mc') (sa + ms')) : AW X nL pc ls (as.reverse ++ .ref o :: st) L r h ca sa := by
  intro H locs la hW hln hS hL
  rw [aw_mapR]
  exact aw_cont (va_runI (As := as.map (aw_tv (xd X))) ⟨C.x, C.b, C.l, C.o, C.w⟩ (hM (xl X) (xg X)) ⟨aw_cb (rest := st) C hy hl hD, hnm, C.w _ hi⟩ ⟨aw_blind _ _ _ _ _, aw_pre (as := .ref o :: as) C hW hln hS⟩ rfl (by rw [List.length_map]; exact hn) hL.1 rfl (aw_rst _ hw) hd (aw_fit C h1 h2)) hS hL kk
theorem aw_callIN {as : List Value} (C : aw_C X own cc nL D mc ms) (hd : decode cc pc = .ok (.invokespecial ix, 3)) (hy : aw_Y y bytes ml none n) (hl : Cond.methodLinkNest own ix y RX5 ∈ NW) (hi : Cond.instanceMethod y ∈ BG) (hnm : y.name = "<init>") (hD : Nat.blt d D = true) (hw : Nat.ble (st.map fun v => v.category).sum 8 = true) (hn : as.length = n) (h1 : Nat.ble (ca + mc') mc = true) (h2 : Nat.ble (sa + ms') ms = true) (hM : Ct d mc' ms' y bytes ml none (.ref o :: as) L r h post)
    (kk : ∀ (v : Option Value) (L' : aw_L) (r' : aw_R) (h' : aw_H), post v L' r' h' → AW X nL (pc + 3) ls (v.toList ++ st) L' r' h' (ca + mc') (sa + ms')) : AW X nL pc ls (as.reverse ++ .ref o :: st) L r h ca sa := by
  intro H locs la hW hln hS hL
  rw [aw_mapR]
  exact aw_cont (va_runIN (As := as.map (aw_tv (xd X))) ⟨C.x, C.b, C.l, C.o, C.w⟩ (hM (xl X) (xg X)) ⟨aw_cn (rest := st) C hy hl hD, hnm, C.w _ hi⟩ ⟨aw_blind _ _ _ _ _, aw_pre (as := .ref o :: as) C hW hln hS⟩ rfl (by rw [List.length_map]; exact hn) hL.1 rfl (aw_rst _ hw) hd (aw_fit C h1 h2)) hS hL kk
/-- System.arraycopy of one part of the ints (or longs) of a cell into another (or the same) -/
def aw_cI (h : aw_H) (a b sp dp n : Nat) : aw_H := (fun c => if c = b then va_cpy (h.1 a) (h.1 b) sp dp n else h.1 c, h.2)
def aw_cL (h : aw_H) (a b sp dp n : Nat) : aw_H := (h.1, fun c => if c = b then va_cpy (h.2 a) (h.2 b) sp dp n else h.2 c)
theorem aw_copy_int {a b n0 n1 : Nat} {sp dp n : Int32} (C : aw_C X own cc nL D mc ms) (hd : decode cc pc = .ok (.invokestatic ix, 3)) (hl : Cond.methodLink own ix arraycopyName ∈ BG) (hnat : Cond.native arraycopyName ∈ BG) (hstat : Cond.static arraycopyName ∈ BG) (hini : Cond.initialized "java/lang/System" ∈ BG) (hD : Nat.ble 1 D = true) (hw : Nat.ble (st.map fun v => v.category).sum 8 = true)
    (ha : L[a]? = some (1, n0)) (hb : L[b]? = some (1, n1)) (h1 : ¬ sp < 0) (h2 : ¬ dp < 0) (h3 : ¬ n < 0) (h4 : sp.toNatClampNeg + n.toNatClampNeg ≤ n0) (h5 : dp.toNatClampNeg + n.toNatClampNeg ≤ n1)
    (kk : AW X nL (pc + 3) ls st L r (aw_cI h a b sp.toNatClampNeg dp.toNatClampNeg n.toNatClampNeg) ca sa) : AW X nL pc ls (.int n :: .int dp :: .ref b :: .int sp :: .ref a :: st) L r h ca sa := by
  have nn : ∀ z : Int32, ¬ z < 0 → z.toInt = (z.toNatClampNeg : Int) := by
    intro z hz
    have hz0 : (0 : Int) ≤ z.toInt := by
      have := Int32.not_lt.mp hz
      simpa using Int32.le_iff_toInt_le.mp this
    show z.toInt = ((z.toInt.toNat : Nat) : Int)
    omega
  intro H locs la hW hln hS hL
  intro T hT XX
  obtain ⟨hRf, hRl, -, -⟩ := C.2.2.2.2.2.2.2
  have hD := Nat.le_of_ble_eq_true hD
  have hw := Nat.le_of_ble_eq_true hw
  have hc0 : H[(xg X).2.2.1 a]? = some (arrV ((xg X).2.1 1) n0 (fun j => .int (h.1 a j))) := hW.2 a (1, n0) ha
  have hc1 : H[(xg X).2.2.1 b]? = some (arrV ((xg X).2.1 1) n1 (fun j => .int (h.1 b j))) := hW.2 b (1, n1) hb
  obtain ⟨-, k0, hk0, cm0, hkk0⟩ := (C.k.2.1 1 (by decide) (by decide)).1 n0 (fun j => .int (h.1 a j))
  obtain ⟨vm', X', step⟩ := XX.arraycopy C.x C.o (C.w _ hl) (C.w _ hnat) (C.w _ hstat) (C.w _ hini) (src := (xg X).2.2.1 a) (dst := (xg X).2.2.1 b) (cs := arrV ((xg X).2.1 1) n0 (fun j => .int (h.1 a j))) (cd := arrV ((xg X).2.1 1) n1 (fun j => .int (h.1 b j))) (srcPos := sp) (destPos := dp) (n := n) (by rw [hT]; exact hc0) (by rw [hT]; exact hc1)
    (fun _ h => by cases h) (fun _ h => by cases h) (fun h => by cases h) (fun h => by cases h) hk0 hk0 hkk0 hkk0 (by simp [refKind, aw_ty]) h1 h2 h3
    (by rw [nn sp h1, nn n h3, arrV_size]; omega)
    (by rw [nn dp h2, nn n h3, arrV_size]; omega)
    (fun vm₁ _ i hi => by
      have e : (arrV ((xg X).2.1 1) n0 (fun j => .int (h.1 a j))).slots.getD (sp.toNatClampNeg + i) .null = .int (h.1 a (sp.toNatClampNeg + i)) := by
        rw [Array.getD_eq_getD_getElem?, arrV_read _ _ (by omega)]
        rfl
      refine ⟨?_, ?_⟩
      · rw [e]
        rfl
      · rw [e]
        exact trivial)
    (g := F0 (xm X) pc la (.int n :: .int dp :: .ref ((xg X).2.2.1 b) :: .int sp :: .ref ((xg X).2.2.1 a) :: st.map (aw_tv (xd X)))) rfl (by rw [C.l]; exact hL.1) (rest := st.map (aw_tv (xd X))) rfl (by rw [C.b]; exact hd) (by omega) (by
      rw [aw_cats]
      have e9 : nativeFrameWords "java/lang/System" "arraycopy" 5 + 11 ≤ 31 := by decide +kernel
      show 2 * 0 + _ + _ ≤ _
      omega)
  have e1 : copied (arrV ((xg X).2.1 1) n0 (fun j => .int (h.1 a j))) (arrV ((xg X).2.1 1) n1 (fun j => .int (h.1 b j))) sp dp n = arrV ((xg X).2.1 1) n1 (fun j => .int (va_cpy (h.1 a) (h.1 b) sp.toNatClampNeg dp.toNatClampNeg n.toNatClampNeg j)) := va_copied (fun z => .int z) _ _ (h.1 a) (h.1 b) h4
  rw [e1] at X' step
  have hlt : (xg X).2.2.1 b < H.size := (Array.getElem?_eq_some_iff.mp hc1).1
  generalize hcell : arrV ((xg X).2.1 1) n1 (fun j => .int (va_cpy (h.1 a) (h.1 b) sp.toNatClampNeg dp.toNatClampNeg n.toNatClampNeg j)) = cell at X' step
  have hheap : ((T.setVm vm').setCell ((xg X).2.2.1 b) cell).heap = H.setIfInBounds ((xg X).2.2.1 b) cell := by rw [← hT]; rfl
  have oq : ∀ q : Nat, q ≠ (xg X).2.2.1 b → (H.setIfInBounds ((xg X).2.2.1 b) cell)[q]? = H[q]? := fun q hq => by simp [Array.getElem?_setIfInBounds, Ne.symm hq]
  obtain ⟨t, a1, b1⟩ := kk (H.setIfInBounds ((xg X).2.2.1 b) cell) _ la (hW.one hln C.d hb (by simp) oq (show (H.setIfInBounds ((xg X).2.2.1 b) cell)[(xg X).2.2.1 b]? = some _ by
      rw [Array.getElem?_setIfInBounds_self_of_lt hlt, ← hcell]
      simp [aw_cI]) (fun c hc => by simp [aw_cI, hc]) (fun c hc => by simp [aw_cI, hc]) (fun _ _ => rfl)) hln ⟨by simp; exact hS.1, fun q g1 g2 => by
      rw [oq q (fun e => g2 (by rw [e]; exact aw_Aof hln C.d hb))]
      exact hS.2.1 q g1 g2, fun q hq => by
      rcases List.mem_append.mp hq with hq | hq
      · exact hS.2.2 q hq
      · obtain ⟨z, -, hz⟩ := List.mem_map.mp hq
        rw [← hz]
        exact aw_Aof hln C.d hb⟩ hL _ hheap X'
  exact ⟨t, step t a1, b1⟩
theorem aw_copy_long {a b n0 n1 : Nat} {sp dp n : Int32} (C : aw_C X own cc nL D mc ms) (hd : decode cc pc = .ok (.invokestatic ix, 3)) (hl : Cond.methodLink own ix arraycopyName ∈ BG) (hnat : Cond.native arraycopyName ∈ BG) (hstat : Cond.static arraycopyName ∈ BG) (hini : Cond.initialized "java/lang/System" ∈ BG) (hD : Nat.ble 1 D = true) (hw : Nat.ble (st.map fun v => v.category).sum 8 = true)
    (ha : L[a]? = some (2, n0)) (hb : L[b]? = some (2, n1)) (h1 : ¬ sp < 0) (h2 : ¬ dp < 0) (h3 : ¬ n < 0) (h4 : sp.toNatClampNeg + n.toNatClampNeg ≤ n0) (h5 : dp.toNatClampNeg + n.toNatClampNeg ≤ n1)
    (kk : AW X nL (pc + 3) ls st L r (aw_cL h a b sp.toNatClampNeg dp.toNatClampNeg n.toNatClampNeg) ca sa) : AW X nL pc ls (.int n :: .int dp :: .ref b :: .int sp :: .ref a :: st) L r h ca sa := by
  have nn : ∀ z : Int32, ¬ z < 0 → z.toInt = (z.toNatClampNeg : Int) := by
    intro z hz
    have hz0 : (0 : Int) ≤ z.toInt := by
      have := Int32.not_lt.mp hz
      simpa using Int32.le_iff_toInt_le.mp this
    show z.toInt = ((z.toInt.toNat : Nat) : Int)
    omega
  intro H locs la hW hln hS hL
  intro T hT XX
  obtain ⟨hRf, hRl, -, -⟩ := C.2.2.2.2.2.2.2
  have hD := Nat.le_of_ble_eq_true hD
  have hw := Nat.le_of_ble_eq_true hw
  have hc0 : H[(xg X).2.2.1 a]? = some (arrV ((xg X).2.1 2) n0 (fun j => .long (h.2 a j))) := hW.2 a (2, n0) ha
  have hc1 : H[(xg X).2.2.1 b]? = some (arrV ((xg X).2.1 2) n1 (fun j => .long (h.2 b j))) := hW.2 b (2, n1) hb
  obtain ⟨-, k0, hk0, cm0, hkk0⟩ := (C.k.2.1 2 (by decide) (by decide)).1 n0 (fun j => .long (h.2 a j))
  obtain ⟨vm', X', step⟩ := XX.arraycopy C.x C.o (C.w _ hl) (C.w _ hnat) (C.w _ hstat) (C.w _ hini) (src := (xg X).2.2.1 a) (dst := (xg X).2.2.1 b) (cs := arrV ((xg X).2.1 2) n0 (fun j => .long (h.2 a j))) (cd := arrV ((xg X).2.1 2) n1 (fun j => .long (h.2 b j))) (srcPos := sp) (destPos := dp) (n := n) (by rw [hT]; exact hc0) (by rw [hT]; exact hc1)
    (fun _ h => by cases h) (fun _ h => by cases h) (fun h => by cases h) (fun h => by cases h) hk0 hk0 hkk0 hkk0 (by simp [refKind, aw_ty]) h1 h2 h3
    (by rw [nn sp h1, nn n h3, arrV_size]; omega)
    (by rw [nn dp h2, nn n h3, arrV_size]; omega)
    (fun vm₁ _ i hi => by
      have e : (arrV ((xg X).2.1 2) n0 (fun j => .long (h.2 a j))).slots.getD (sp.toNatClampNeg + i) .null = .long (h.2 a (sp.toNatClampNeg + i)) := by
        rw [Array.getD_eq_getD_getElem?, arrV_read _ _ (by omega)]
        rfl
      refine ⟨?_, ?_⟩
      · rw [e]
        rfl
      · rw [e]
        exact trivial)
    (g := F0 (xm X) pc la (.int n :: .int dp :: .ref ((xg X).2.2.1 b) :: .int sp :: .ref ((xg X).2.2.1 a) :: st.map (aw_tv (xd X)))) rfl (by rw [C.l]; exact hL.1) (rest := st.map (aw_tv (xd X))) rfl (by rw [C.b]; exact hd) (by omega) (by
      rw [aw_cats]
      have e9 : nativeFrameWords "java/lang/System" "arraycopy" 5 + 11 ≤ 31 := by decide +kernel
      show 2 * 0 + _ + _ ≤ _
      omega)
  have e1 : copied (arrV ((xg X).2.1 2) n0 (fun j => .long (h.2 a j))) (arrV ((xg X).2.1 2) n1 (fun j => .long (h.2 b j))) sp dp n = arrV ((xg X).2.1 2) n1 (fun j => .long (va_cpy (h.2 a) (h.2 b) sp.toNatClampNeg dp.toNatClampNeg n.toNatClampNeg j)) := va_copied (fun z => .long z) _ _ (h.2 a) (h.2 b) h4
  rw [e1] at X' step
  have hlt : (xg X).2.2.1 b < H.size := (Array.getElem?_eq_some_iff.mp hc1).1
  generalize hcell : arrV ((xg X).2.1 2) n1 (fun j => .long (va_cpy (h.2 a) (h.2 b) sp.toNatClampNeg dp.toNatClampNeg n.toNatClampNeg j)) = cell at X' step
  have hheap : ((T.setVm vm').setCell ((xg X).2.2.1 b) cell).heap = H.setIfInBounds ((xg X).2.2.1 b) cell := by rw [← hT]; rfl
  have oq : ∀ q : Nat, q ≠ (xg X).2.2.1 b → (H.setIfInBounds ((xg X).2.2.1 b) cell)[q]? = H[q]? := fun q hq => by simp [Array.getElem?_setIfInBounds, Ne.symm hq]
  obtain ⟨t, a1, b1⟩ := kk (H.setIfInBounds ((xg X).2.2.1 b) cell) _ la (hW.one hln C.d hb (by simp) oq (show (H.setIfInBounds ((xg X).2.2.1 b) cell)[(xg X).2.2.1 b]? = some _ by
      rw [Array.getElem?_setIfInBounds_self_of_lt hlt, ← hcell]
      simp [aw_cL]) (fun c hc => by simp [aw_cL, hc]) (fun c hc => by simp [aw_cL, hc]) (fun _ _ => rfl)) hln ⟨by simp; exact hS.1, fun q g1 g2 => by
      rw [oq q (fun e => g2 (by rw [e]; exact aw_Aof hln C.d hb))]
      exact hS.2.1 q g1 g2, fun q hq => by
      rcases List.mem_append.mp hq with hq | hq
      · exact hS.2.2 q hq
      · obtain ⟨z, -, hz⟩ := List.mem_map.mp hq
        rw [← hz]
        exact aw_Aof hln C.d hb⟩ hL _ hheap X'
  exact ⟨t, step t a1, b1⟩
/-! the same, by the number of arguments -/
theorem aw_S0 (C : aw_C X own cc nL D mc ms) (hd : decode cc pc = .ok (.invokestatic ix, 3)) (hy : aw_Y y bytes ml ret 0) (hl : Cond.methodLink own ix y ∈ BG) (hs : Cond.static y ∈ BG) (hD : Nat.blt d D = true) (hw : Nat.ble (st.map fun v => v.category).sum 8 = true) (h1 : Nat.ble (ca + mc') mc = true) (h2 : Nat.ble (sa + ms') ms = true) (hM : Ct d mc' ms' y bytes ml ret [] L r h post) (kk : ∀ (v : Option Value) (L' : aw_L) (r' : aw_R) (h' : aw_H), post v L' r' h' → AW X nL (pc + 3) ls (v.toList ++ st) L' r' h' (ca + mc') (sa + ms')) : AW X nL pc ls (st) L r h ca sa := aw_callS (as := []) C hd hy hl hs hD hw rfl h1 h2 hM kk
theorem aw_N0 (C : aw_C X own cc nL D mc ms) (hd : decode cc pc = .ok (.invokestatic ix, 3)) (hy : aw_Y y bytes ml ret 0) (hl : Cond.methodLinkNest own ix y RX5 ∈ NW) (hs : Cond.static y ∈ BG) (hD : Nat.blt d D = true) (hw : Nat.ble (st.map fun v => v.category).sum 8 = true) (h1 : Nat.ble (ca + mc') mc = true) (h2 : Nat.ble (sa + ms') ms = true) (hM : Ct d mc' ms' y bytes ml ret [] L r h post) (kk : ∀ (v : Option Value) (L' : aw_L) (r' : aw_R) (h' : aw_H), post v L' r' h' → AW X nL (pc + 3) ls (v.toList ++ st) L' r' h' (ca + mc') (sa + ms')) : AW X nL pc ls (st) L r h ca sa := aw_callSN (as := []) C hd hy hl hs hD hw rfl h1 h2 hM kk
theorem aw_V0 (C : aw_C X own cc nL D mc ms) (hd : decode cc pc = .ok (.invokevirtual ix, 3)) (hy : aw_Y y bytes ml ret 0) (hl : Cond.methodLink own ix y ∈ BG) (hi : Cond.instanceMethod y ∈ BG) (hv : Cond.selects y.cls y y ∈ BG) (hrv : aw_Rv X y L r h o) (hD : Nat.blt d D = true) (hw : Nat.ble (st.map fun v => v.category).sum 8 = true) (h1 : Nat.ble (ca + mc') mc = true) (h2 : Nat.ble (sa + ms') ms = true) (hM : Ct d mc' ms' y bytes ml ret (.ref o :: []) L r h post) (kk : ∀ (v : Option Value) (L' : aw_L) (r' : aw_R) (h' : aw_H), post v L' r' h' → AW X nL (pc + 3) ls (v.toList ++ st) L' r' h' (ca + mc') (sa + ms')) : AW X nL pc ls (.ref o :: st) L r h ca sa := aw_callV (as := []) C hd hy hl hi hv hrv hD hw rfl h1 h2 hM kk
theorem aw_I0 (C : aw_C X own cc nL D mc ms) (hd : decode cc pc = .ok (.invokespecial ix, 3)) (hy : aw_Y y bytes ml none 0) (hl : Cond.methodLink own ix y ∈ BG) (hi : Cond.instanceMethod y ∈ BG) (hnm : y.name = "<init>") (hD : Nat.blt d D = true) (hw : Nat.ble (st.map fun v => v.category).sum 8 = true) (h1 : Nat.ble (ca + mc') mc = true) (h2 : Nat.ble (sa + ms') ms = true) (hM : Ct d mc' ms' y bytes ml none [.ref o] L r h post) (kk : ∀ (v : Option Value) (L' : aw_L) (r' : aw_R) (h' : aw_H), post v L' r' h' → AW X nL (pc + 3) ls (v.toList ++ st) L' r' h' (ca + mc') (sa + ms')) : AW X nL pc ls (.ref o :: st) L r h ca sa := aw_callI (as := []) C hd hy hl hi hnm hD hw rfl h1 h2 hM kk
theorem aw_J0 (C : aw_C X own cc nL D mc ms) (hd : decode cc pc = .ok (.invokespecial ix, 3)) (hy : aw_Y y bytes ml none 0) (hl : Cond.methodLinkNest own ix y RX5 ∈ NW) (hi : Cond.instanceMethod y ∈ BG) (hnm : y.name = "<init>") (hD : Nat.blt d D = true) (hw : Nat.ble (st.map fun v => v.category).sum 8 = true) (h1 : Nat.ble (ca + mc') mc = true) (h2 : Nat.ble (sa + ms') ms = true) (hM : Ct d mc' ms' y bytes ml none [.ref o] L r h post) (kk : ∀ (v : Option Value) (L' : aw_L) (r' : aw_R) (h' : aw_H), post v L' r' h' → AW X nL (pc + 3) ls (v.toList ++ st) L' r' h' (ca + mc') (sa + ms')) : AW X nL pc ls (.ref o :: st) L r h ca sa := aw_callIN (as := []) C hd hy hl hi hnm hD hw rfl h1 h2 hM kk
theorem aw_S1 {a1 : Value} (C : aw_C X own cc nL D mc ms) (hd : decode cc pc = .ok (.invokestatic ix, 3)) (hy : aw_Y y bytes ml ret 1) (hl : Cond.methodLink own ix y ∈ BG) (hs : Cond.static y ∈ BG) (hD : Nat.blt d D = true) (hw : Nat.ble (st.map fun v => v.category).sum 8 = true) (h1 : Nat.ble (ca + mc') mc = true) (h2 : Nat.ble (sa + ms') ms = true) (hM : Ct d mc' ms' y bytes ml ret [a1] L r h post) (kk : ∀ (v : Option Value) (L' : aw_L) (r' : aw_R) (h' : aw_H), post v L' r' h' → AW X nL (pc + 3) ls (v.toList ++ st) L' r' h' (ca + mc') (sa + ms')) : AW X nL pc ls (a1 :: st) L r h ca sa := aw_callS (as := [a1]) C hd hy hl hs hD hw rfl h1 h2 hM kk
theorem aw_N1 {a1 : Value} (C : aw_C X own cc nL D mc ms) (hd : decode cc pc = .ok (.invokestatic ix, 3)) (hy : aw_Y y bytes ml ret 1) (hl : Cond.methodLinkNest own ix y RX5 ∈ NW) (hs : Cond.static y ∈ BG) (hD : Nat.blt d D = true) (hw : Nat.ble (st.map fun v => v.category).sum 8 = true) (h1 : Nat.ble (ca + mc') mc = true) (h2 : Nat.ble (sa + ms') ms = true) (hM : Ct d mc' ms' y bytes ml ret [a1] L r h post) (kk : ∀ (v : Option Value) (L' : aw_L) (r' : aw_R) (h' : aw_H), post v L' r' h' → AW X nL (pc + 3) ls (v.toList ++ st) L' r' h' (ca + mc') (sa + ms')) : AW X nL pc ls (a1 :: st) L r h ca sa := aw_callSN (as := [a1]) C hd hy hl hs hD hw rfl h1 h2 hM kk
theorem aw_V1 {a1 : Value} (C : aw_C X own cc nL D mc ms) (hd : decode cc pc = .ok (.invokevirtual ix, 3)) (hy : aw_Y y bytes ml ret 1) (hl : Cond.methodLink own ix y ∈ BG) (hi : Cond.instanceMethod y ∈ BG) (hv : Cond.selects y.cls y y ∈ BG) (hrv : aw_Rv X y L r h o) (hD : Nat.blt d D = true) (hw : Nat.ble (st.map fun v => v.category).sum 8 = true) (h1 : Nat.ble (ca + mc') mc = true) (h2 : Nat.ble (sa + ms') ms = true) (hM : Ct d mc' ms' y bytes ml ret (.ref o :: [a1]) L r h post) (kk : ∀ (v : Option Value) (L' : aw_L) (r' : aw_R) (h' : aw_H), post v L' r' h' → AW X nL (pc + 3) ls (v.toList ++ st) L' r' h' (ca + mc') (sa + ms')) : AW X nL pc ls (a1 :: .ref o :: st) L r h ca sa := aw_callV (as := [a1]) C hd hy hl hi hv hrv hD hw rfl h1 h2 hM kk
theorem aw_S2 {a1 a2 : Value} (C : aw_C X own cc nL D mc ms) (hd : decode cc pc = .ok (.invokestatic ix, 3)) (hy : aw_Y y bytes ml ret 2) (hl : Cond.methodLink own ix y ∈ BG) (hs : Cond.static y ∈ BG) (hD : Nat.blt d D = true) (hw : Nat.ble (st.map fun v => v.category).sum 8 = true) (h1 : Nat.ble (ca + mc') mc = true) (h2 : Nat.ble (sa + ms') ms = true) (hM : Ct d mc' ms' y bytes ml ret [a1, a2] L r h post) (kk : ∀ (v : Option Value) (L' : aw_L) (r' : aw_R) (h' : aw_H), post v L' r' h' → AW X nL (pc + 3) ls (v.toList ++ st) L' r' h' (ca + mc') (sa + ms')) : AW X nL pc ls (a2 :: a1 :: st) L r h ca sa := aw_callS (as := [a1, a2]) C hd hy hl hs hD hw rfl h1 h2 hM kk
theorem aw_N2 {a1 a2 : Value} (C : aw_C X own cc nL D mc ms) (hd : decode cc pc = .ok (.invokestatic ix, 3)) (hy : aw_Y y bytes ml ret 2) (hl : Cond.methodLinkNest own ix y RX5 ∈ NW) (hs : Cond.static y ∈ BG) (hD : Nat.blt d D = true) (hw : Nat.ble (st.map fun v => v.category).sum 8 = true) (h1 : Nat.ble (ca + mc') mc = true) (h2 : Nat.ble (sa + ms') ms = true) (hM : Ct d mc' ms' y bytes ml ret [a1, a2] L r h post) (kk : ∀ (v : Option Value) (L' : aw_L) (r' : aw_R) (h' : aw_H), post v L' r' h' → AW X nL (pc + 3) ls (v.toList ++ st) L' r' h' (ca + mc') (sa + ms')) : AW X nL pc ls (a2 :: a1 :: st) L r h ca sa := aw_callSN (as := [a1, a2]) C hd hy hl hs hD hw rfl h1 h2 hM kk
theorem aw_V2 {a1 a2 : Value} (C : aw_C X own cc nL D mc ms) (hd : decode cc pc = .ok (.invokevirtual ix, 3)) (hy : aw_Y y bytes ml ret 2) (hl : Cond.methodLink own ix y ∈ BG) (hi : Cond.instanceMethod y ∈ BG) (hv : Cond.selects y.cls y y ∈ BG) (hrv : aw_Rv X y L r h o) (hD : Nat.blt d D = true) (hw : Nat.ble (st.map fun v => v.category).sum 8 = true) (h1 : Nat.ble (ca + mc') mc = true) (h2 : Nat.ble (sa + ms') ms = true) (hM : Ct d mc' ms' y bytes ml ret (.ref o :: [a1, a2]) L r h post) (kk : ∀ (v : Option Value) (L' : aw_L) (r' : aw_R) (h' : aw_H), post v L' r' h' → AW X nL (pc + 3) ls (v.toList ++ st) L' r' h' (ca + mc') (sa + ms')) : AW X nL pc ls (a2 :: a1 :: .ref o :: st) L r h ca sa := aw_callV (as := [a1, a2]) C hd hy hl hi hv hrv hD hw rfl h1 h2 hM kk
theorem aw_S3 {a1 a2 a3 : Value} (C : aw_C X own cc nL D mc ms) (hd : decode cc pc = .ok (.invokestatic ix, 3)) (hy : aw_Y y bytes ml ret 3) (hl : Cond.methodLink own ix y ∈ BG) (hs : Cond.static y ∈ BG) (hD : Nat.blt d D = true) (hw : Nat.ble (st.map fun v => v.category).sum 8 = true) (h1 : Nat.ble (ca + mc') mc = true) (h2 : Nat.ble (sa + ms') ms = true) (hM : Ct d mc' ms' y bytes ml ret [a1, a2, a3] L r h post) (kk : ∀ (v : Option Value) (L' : aw_L) (r' : aw_R) (h' : aw_H), post v L' r' h' → AW X nL (pc + 3) ls (v.toList ++ st) L' r' h' (ca + mc') (sa + ms')) : AW X nL pc ls (a3 :: a2 :: a1 :: st) L r h ca sa := aw_callS (as := [a1, a2, a3]) C hd hy hl hs hD hw rfl h1 h2 hM kk
theorem aw_N3 {a1 a2 a3 : Value} (C : aw_C X own cc nL D mc ms) (hd : decode cc pc = .ok (.invokestatic ix, 3)) (hy : aw_Y y bytes ml ret 3) (hl : Cond.methodLinkNest own ix y RX5 ∈ NW) (hs : Cond.static y ∈ BG) (hD : Nat.blt d D = true) (hw : Nat.ble (st.map fun v => v.category).sum 8 = true) (h1 : Nat.ble (ca + mc') mc = true) (h2 : Nat.ble (sa + ms') ms = true) (hM : Ct d mc' ms' y bytes ml ret [a1, a2, a3] L r h post) (kk : ∀ (v : Option Value) (L' : aw_L) (r' : aw_R) (h' : aw_H), post v L' r' h' → AW X nL (pc + 3) ls (v.toList ++ st) L' r' h' (ca + mc') (sa + ms')) : AW X nL pc ls (a3 :: a2 :: a1 :: st) L r h ca sa := aw_callSN (as := [a1, a2, a3]) C hd hy hl hs hD hw rfl h1 h2 hM kk
theorem aw_V3 {a1 a2 a3 : Value} (C : aw_C X own cc nL D mc ms) (hd : decode cc pc = .ok (.invokevirtual ix, 3)) (hy : aw_Y y bytes ml ret 3) (hl : Cond.methodLink own ix y ∈ BG) (hi : Cond.instanceMethod y ∈ BG) (hv : Cond.selects y.cls y y ∈ BG) (hrv : aw_Rv X y L r h o) (hD : Nat.blt d D = true) (hw : Nat.ble (st.map fun v => v.category).sum 8 = true) (h1 : Nat.ble (ca + mc') mc = true) (h2 : Nat.ble (sa + ms') ms = true) (hM : Ct d mc' ms' y bytes ml ret (.ref o :: [a1, a2, a3]) L r h post) (kk : ∀ (v : Option Value) (L' : aw_L) (r' : aw_R) (h' : aw_H), post v L' r' h' → AW X nL (pc + 3) ls (v.toList ++ st) L' r' h' (ca + mc') (sa + ms')) : AW X nL pc ls (a3 :: a2 :: a1 :: .ref o :: st) L r h ca sa := aw_callV (as := [a1, a2, a3]) C hd hy hl hi hv hrv hD hw rfl h1 h2 hM kk
theorem aw_S4 {a1 a2 a3 a4 : Value} (C : aw_C X own cc nL D mc ms) (hd : decode cc pc = .ok (.invokestatic ix, 3)) (hy : aw_Y y bytes ml ret 4) (hl : Cond.methodLink own ix y ∈ BG) (hs : Cond.static y ∈ BG) (hD : Nat.blt d D = true) (hw : Nat.ble (st.map fun v => v.category).sum 8 = true) (h1 : Nat.ble (ca + mc') mc = true) (h2 : Nat.ble (sa + ms') ms = true) (hM : Ct d mc' ms' y bytes ml ret [a1, a2, a3, a4] L r h post) (kk : ∀ (v : Option Value) (L' : aw_L) (r' : aw_R) (h' : aw_H), post v L' r' h' → AW X nL (pc + 3) ls (v.toList ++ st) L' r' h' (ca + mc') (sa + ms')) : AW X nL pc ls (a4 :: a3 :: a2 :: a1 :: st) L r h ca sa := aw_callS (as := [a1, a2, a3, a4]) C hd hy hl hs hD hw rfl h1 h2 hM kk
theorem aw_N4 {a1 a2 a3 a4 : Value} (C : aw_C X own cc nL D mc ms) (hd : decode cc pc = .ok (.invokestatic ix, 3)) (hy : aw_Y y bytes ml ret 4) (hl : Cond.methodLinkNest own ix y RX5 ∈ NW) (hs : Cond.static y ∈ BG) (hD : Nat.blt d D = true) (hw : Nat.ble (st.map fun v => v.category).sum 8 = true) (h1 : Nat.ble (ca + mc') mc = true) (h2 : Nat.ble (sa + ms') ms = true) (hM : Ct d mc' ms' y bytes ml ret [a1, a2, a3, a4] L r h post) (kk : ∀ (v : Option Value) (L' : aw_L) (r' : aw_R) (h' : aw_H), post v L' r' h' → AW X nL (pc + 3) ls (v.toList ++ st) L' r' h' (ca + mc') (sa + ms')) : AW X nL pc ls (a4 :: a3 :: a2 :: a1 :: st) L r h ca sa := aw_callSN (as := [a1, a2, a3, a4]) C hd hy hl hs hD hw rfl h1 h2 hM kk
theorem aw_V4 {a1 a2 a3 a4 : Value} (C : aw_C X own cc nL D mc ms) (hd : decode cc pc = .ok (.invokevirtual ix, 3)) (hy : aw_Y y bytes ml ret 4) (hl : Cond.methodLink own ix y ∈ BG) (hi : Cond.instanceMethod y ∈ BG) (hv : Cond.selects y.cls y y ∈ BG) (hrv : aw_Rv X y L r h o) (hD : Nat.blt d D = true) (hw : Nat.ble (st.map fun v => v.category).sum 8 = true) (h1 : Nat.ble (ca + mc') mc = true) (h2 : Nat.ble (sa + ms') ms = true) (hM : Ct d mc' ms' y bytes ml ret (.ref o :: [a1, a2, a3, a4]) L r h post) (kk : ∀ (v : Option Value) (L' : aw_L) (r' : aw_R) (h' : aw_H), post v L' r' h' → AW X nL (pc + 3) ls (v.toList ++ st) L' r' h' (ca + mc') (sa + ms')) : AW X nL pc ls (a4 :: a3 :: a2 :: a1 :: .ref o :: st) L r h ca sa := aw_callV (as := [a1, a2, a3, a4]) C hd hy hl hi hv hrv hD hw rfl h1 h2 hM kk
theorem aw_S5 {a1 a2 a3 a4 a5 : Value} (C : aw_C X own cc nL D mc ms) (hd : decode cc pc = .ok (.invokestatic ix, 3)) (hy : aw_Y y bytes ml ret 5) (hl : Cond.methodLink own ix y ∈ BG) (hs : Cond.static y ∈ BG) (hD : Nat.blt d D = true) (hw : Nat.ble (st.map fun v => v.category).sum 8 = true) (h1 : Nat.ble (ca + mc') mc = true) (h2 : Nat.ble (sa + ms') ms = true) (hM : Ct d mc' ms' y bytes ml ret [a1, a2, a3, a4, a5] L r h post) (kk : ∀ (v : Option Value) (L' : aw_L) (r' : aw_R) (h' : aw_H), post v L' r' h' → AW X nL (pc + 3) ls (v.toList ++ st) L' r' h' (ca + mc') (sa + ms')) : AW X nL pc ls (a5 :: a4 :: a3 :: a2 :: a1 :: st) L r h ca sa := aw_callS (as := [a1, a2, a3, a4, a5]) C hd hy hl hs hD hw rfl h1 h2 hM kk
theorem aw_N5 {a1 a2 a3 a4 a5 : Value} (C : aw_C X own cc nL D mc ms) (hd : decode cc pc = .ok (.invokestatic ix, 3)) (hy : aw_Y y bytes ml ret 5) (hl : Cond.methodLinkNest own ix y RX5 ∈ NW) (hs : Cond.static y ∈ BG) (hD : Nat.blt d D = true) (hw : Nat.ble (st.map fun v => v.category).sum 8 = true) (h1 : Nat.ble (ca + mc') mc = true) (h2 : Nat.ble (sa + ms') ms = true) (hM : Ct d mc' ms' y bytes ml ret [a1, a2, a3, a4, a5] L r h post) (kk : ∀ (v : Option Value) (L' : aw_L) (r' : aw_R) (h' : aw_H), post v L' r' h' → AW X nL (pc + 3) ls (v.toList ++ st) L' r' h' (ca + mc') (sa + ms')) : AW X nL pc ls (a5 :: a4 :: a3 :: a2 :: a1 :: st) L r h ca sa := aw_callSN (as := [a1, a2, a3, a4, a5]) C hd hy hl hs hD hw rfl h1 h2 hM kk
theorem aw_V5 {a1 a2 a3 a4 a5 : Value} (C : aw_C X own cc nL D mc ms) (hd : decode cc pc = .ok (.invokevirtual ix, 3)) (hy : aw_Y y bytes ml ret 5) (hl : Cond.methodLink own ix y ∈ BG) (hi : Cond.instanceMethod y ∈ BG) (hv : Cond.selects y.cls y y ∈ BG) (hrv : aw_Rv X y L r h o) (hD : Nat.blt d D = true) (hw : Nat.ble (st.map fun v => v.category).sum 8 = true) (h1 : Nat.ble (ca + mc') mc = true) (h2 : Nat.ble (sa + ms') ms = true) (hM : Ct d mc' ms' y bytes ml ret (.ref o :: [a1, a2, a3, a4, a5]) L r h post) (kk : ∀ (v : Option Value) (L' : aw_L) (r' : aw_R) (h' : aw_H), post v L' r' h' → AW X nL (pc + 3) ls (v.toList ++ st) L' r' h' (ca + mc') (sa + ms')) : AW X nL pc ls (a5 :: a4 :: a3 :: a2 :: a1 :: .ref o :: st) L r h ca sa := aw_callV (as := [a1, a2, a3, a4, a5]) C hd hy hl hi hv hrv hD hw rfl h1 h2 hM kk
theorem aw_V6 {a1 a2 a3 a4 a5 a6 : Value} (C : aw_C X own cc nL D mc ms) (hd : decode cc pc = .ok (.invokevirtual ix, 3)) (hy : aw_Y y bytes ml ret 6) (hl : Cond.methodLink own ix y ∈ BG) (hi : Cond.instanceMethod y ∈ BG) (hv : Cond.selects y.cls y y ∈ BG) (hrv : aw_Rv X y L r h o) (hD : Nat.blt d D = true) (hw : Nat.ble (st.map fun v => v.category).sum 8 = true) (h1 : Nat.ble (ca + mc') mc = true) (h2 : Nat.ble (sa + ms') ms = true) (hM : Ct d mc' ms' y bytes ml ret (.ref o :: [a1, a2, a3, a4, a5, a6]) L r h post) (kk : ∀ (v : Option Value) (L' : aw_L) (r' : aw_R) (h' : aw_H), post v L' r' h' → AW X nL (pc + 3) ls (v.toList ++ st) L' r' h' (ca + mc') (sa + ms')) : AW X nL pc ls (a6 :: a5 :: a4 :: a3 :: a2 :: a1 :: .ref o :: st) L r h ca sa := aw_callV (as := [a1, a2, a3, a4, a5, a6]) C hd hy hl hi hv hrv hD hw rfl h1 h2 hM kk
theorem aw_V7 {a1 a2 a3 a4 a5 a6 a7 : Value} (C : aw_C X own cc nL D mc ms) (hd : decode cc pc = .ok (.invokevirtual ix, 3)) (hy : aw_Y y bytes ml ret 7) (hl : Cond.methodLink own ix y ∈ BG) (hi : Cond.instanceMethod y ∈ BG) (hv : Cond.selects y.cls y y ∈ BG) (hrv : aw_Rv X y L r h o) (hD : Nat.blt d D = true) (hw : Nat.ble (st.map fun v => v.category).sum 8 = true) (h1 : Nat.ble (ca + mc') mc = true) (h2 : Nat.ble (sa + ms') ms = true) (hM : Ct d mc' ms' y bytes ml ret (.ref o :: [a1, a2, a3, a4, a5, a6, a7]) L r h post) (kk : ∀ (v : Option Value) (L' : aw_L) (r' : aw_R) (h' : aw_H), post v L' r' h' → AW X nL (pc + 3) ls (v.toList ++ st) L' r' h' (ca + mc') (sa + ms')) : AW X nL pc ls (a7 :: a6 :: a5 :: a4 :: a3 :: a2 :: a1 :: .ref o :: st) L r h ca sa := aw_callV (as := [a1, a2, a3, a4, a5, a6, a7]) C hd hy hl hi hv hrv hD hw rfl h1 h2 hM kk
end AWK
end
