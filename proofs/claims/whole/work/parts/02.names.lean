/-- the words that stand under every warmer table -/
def lw_g : List Cond := lw_tbl.filter goodWord
abbrev R_SB : String := "SliceBlocks"
abbrev R_BL : String := "SliceBlocks$Blocks"
abbrev R_DR : String := "SliceBlocks$Draws"
abbrev R_NE : String := "SliceBlocks$Nets"
abbrev R_OR : String := "SliceBlocks$Order"
abbrev R_PI : String := "SliceBlocks$Pins"
abbrev R_PL : String := "SliceBlocks$Plan"
abbrev R_SE : String := "SliceBlocks$Search"
abbrev R_SL : String := "SliceBlocks$ShapeList"
abbrev R_TH : String := "SliceBlocks$Thing"
abbrev R_MO : String := "SliceBlocksModel"
abbrev R_LA : String := "SliceBlocksLaw"
abbrev R_JObj : String := "java/lang/Object"
abbrev R_JThr : String := "java/lang/Throwable"
abbrev R_JExc : String := "java/lang/Exception"
abbrev R_JRun : String := "java/lang/RuntimeException"
abbrev R_JISE : String := "java/lang/IllegalStateException"
abbrev R_JIAE : String := "java/lang/IllegalArgumentException"
abbrev R_JIOB : String := "java/lang/IndexOutOfBoundsException"
abbrev R_JMath : String := "java/lang/Math"
abbrev R_JSys : String := "java/lang/System"
abbrev y_SB_init : MethodName := ⟨R_SB, "<init>", "(J)V"⟩
abbrev b_SB_init : ByteArray := prog_1_method_1_code
abbrev y_SB_block : MethodName := ⟨R_SB, "block", "(JJZ)I"⟩
abbrev b_SB_block : ByteArray := prog_1_method_2_code
abbrev y_SB_fix : MethodName := ⟨R_SB, "fix", "(IJJ)Z"⟩
abbrev b_SB_fix : ByteArray := prog_1_method_3_code
abbrev y_SB_net : MethodName := ⟨R_SB, "net", "(II)I"⟩
abbrev b_SB_net : ByteArray := prog_1_method_4_code
abbrev y_SB_slice : MethodName := ⟨R_SB, "slice", "(IIZ)I"⟩
abbrev b_SB_slice : ByteArray := prog_1_method_5_code
abbrev y_SB_shapes : MethodName := ⟨R_SB, "shapes", "(I)I"⟩
abbrev b_SB_shapes : ByteArray := prog_1_method_6_code
abbrev y_SB_shape : MethodName := ⟨R_SB, "shape", "(III)J"⟩
abbrev b_SB_shape : ByteArray := prog_1_method_7_code
abbrev y_SB_least : MethodName := ⟨R_SB, "least", "(I)J"⟩
abbrev b_SB_least : ByteArray := prog_1_method_8_code
abbrev y_SB_pair : MethodName := ⟨R_SB, "pair", "(I)I"⟩
abbrev b_SB_pair : ByteArray := prog_1_method_9_code
abbrev y_SB_at : MethodName := ⟨R_SB, "at", "(II)J"⟩
abbrev b_SB_at : ByteArray := prog_1_method_10_code
abbrev y_SB_turned : MethodName := ⟨R_SB, "turned", "(I)Z"⟩
abbrev b_SB_turned : ByteArray := prog_1_method_11_code
abbrev y_SB_overlap : MethodName := ⟨R_SB, "overlap", "()Z"⟩
abbrev b_SB_overlap : ByteArray := prog_1_method_12_code
abbrev y_SB_wire : MethodName := ⟨R_SB, "wire", "()J"⟩
abbrev b_SB_wire : ByteArray := prog_1_method_13_code
abbrev y_SB_pin : MethodName := ⟨R_SB, "pin", "(III)I"⟩
abbrev b_SB_pin : ByteArray := prog_1_method_14_code
abbrev y_SB_outline : MethodName := ⟨R_SB, "outline", "(JJ)Z"⟩
abbrev b_SB_outline : ByteArray := prog_1_method_15_code
abbrev y_SB_appendThing : MethodName := ⟨R_SB, "appendThing", "(LSliceBlocks$Thing;)I"⟩
abbrev b_SB_appendThing : ByteArray := prog_1_method_16_code
abbrev y_SB_findThing : MethodName := ⟨R_SB, "findThing", "(I)LSliceBlocks$Thing;"⟩
abbrev b_SB_findThing : ByteArray := prog_1_method_17_code
abbrev y_SB_findBlock : MethodName := ⟨R_SB, "findBlock", "(I)I"⟩
abbrev b_SB_findBlock : ByteArray := prog_1_method_18_code
abbrev y_SB_isWithin : MethodName := ⟨R_SB, "isWithin", "(JJJ)Z"⟩
abbrev b_SB_isWithin : ByteArray := prog_1_method_19_code
abbrev y_MO_init : MethodName := ⟨R_MO, "<init>", "(J)V"⟩
abbrev b_MO_init : ByteArray := prog_12_method_1_code
abbrev y_MO_thrown : MethodName := ⟨R_MO, "thrown", "()I"⟩
abbrev b_MO_thrown : ByteArray := prog_12_method_2_code
abbrev y_MO_draw : MethodName := ⟨R_MO, "draw", "(I)I"⟩
abbrev b_MO_draw : ByteArray := prog_12_method_3_code
abbrev y_MO_settle : MethodName := ⟨R_MO, "settle", "(II)V"⟩
abbrev b_MO_settle : ByteArray := prog_12_method_4_code
abbrev y_MO_block : MethodName := ⟨R_MO, "block", "(JJZ)I"⟩
abbrev b_MO_block : ByteArray := prog_12_method_5_code
abbrev y_MO_isThing : MethodName := ⟨R_MO, "isThing", "(I)Z"⟩
abbrev b_MO_isThing : ByteArray := prog_12_method_6_code
abbrev y_MO_blockOf : MethodName := ⟨R_MO, "blockOf", "(I)I"⟩
abbrev b_MO_blockOf : ByteArray := prog_12_method_7_code
abbrev y_MO_slice : MethodName := ⟨R_MO, "slice", "(IIZ)I"⟩
abbrev b_MO_slice : ByteArray := prog_12_method_8_code
abbrev y_MO_shapes : MethodName := ⟨R_MO, "shapes", "(I)I"⟩
abbrev b_MO_shapes : ByteArray := prog_12_method_9_code
abbrev y_MO_shape : MethodName := ⟨R_MO, "shape", "(III)J"⟩
abbrev b_MO_shape : ByteArray := prog_12_method_10_code
abbrev y_MO_least : MethodName := ⟨R_MO, "least", "(I)J"⟩
abbrev b_MO_least : ByteArray := prog_12_method_11_code
abbrev y_MO_wide : MethodName := ⟨R_MO, "wide", "(II)J"⟩
abbrev b_MO_wide : ByteArray := prog_12_method_12_code
abbrev y_MO_high : MethodName := ⟨R_MO, "high", "(II)J"⟩
abbrev b_MO_high : ByteArray := prog_12_method_13_code
abbrev y_MO_place : MethodName := ⟨R_MO, "place", "([III)I"⟩
abbrev b_MO_place : ByteArray := prog_12_method_14_code
abbrev y_MO_isLaid : MethodName := ⟨R_MO, "isLaid", "(I)Z"⟩
abbrev b_MO_isLaid : ByteArray := prog_12_method_15_code
abbrev y_MO_edge : MethodName := ⟨R_MO, "edge", "(IZ)J"⟩
abbrev b_MO_edge : ByteArray := prog_12_method_16_code
abbrev y_MO_area : MethodName := ⟨R_MO, "area", "(I)J"⟩
abbrev b_MO_area : ByteArray := prog_12_method_17_code
abbrev y_MO_far : MethodName := ⟨R_MO, "far", "(JJ)J"⟩
abbrev b_MO_far : ByteArray := prog_12_method_18_code
abbrev y_MO_wireOf : MethodName := ⟨R_MO, "wireOf", "(I)J"⟩
abbrev b_MO_wireOf : ByteArray := prog_12_method_19_code
abbrev y_MO_copy : MethodName := ⟨R_MO, "copy", "(II)V"⟩
abbrev b_MO_copy : ByteArray := prog_12_method_20_code
abbrev y_MO_fix : MethodName := ⟨R_MO, "fix", "(IJJ)Z"⟩
abbrev b_MO_fix : ByteArray := prog_12_method_21_code
abbrev y_MO_degree : MethodName := ⟨R_MO, "degree", "(I)I"⟩
abbrev b_MO_degree : ByteArray := prog_12_method_22_code
abbrev y_MO_net : MethodName := ⟨R_MO, "net", "(II)I"⟩
abbrev b_MO_net : ByteArray := prog_12_method_23_code
abbrev y_MO_exchange : MethodName := ⟨R_MO, "exchange", "([III)V"⟩
abbrev b_MO_exchange : ByteArray := prog_12_method_24_code
abbrev y_MO_change : MethodName := ⟨R_MO, "change", "(III)V"⟩
abbrev b_MO_change : ByteArray := prog_12_method_25_code
abbrev y_MO_pair : MethodName := ⟨R_MO, "pair", "(I)I"⟩
abbrev b_MO_pair : ByteArray := prog_12_method_26_code
abbrev y_MO_at : MethodName := ⟨R_MO, "at", "(II)J"⟩
abbrev b_MO_at : ByteArray := prog_12_method_27_code
abbrev y_MO_turned : MethodName := ⟨R_MO, "turned", "(I)Z"⟩
abbrev b_MO_turned : ByteArray := prog_12_method_28_code
abbrev y_MO_overlap : MethodName := ⟨R_MO, "overlap", "()Z"⟩
abbrev b_MO_overlap : ByteArray := prog_12_method_29_code
abbrev y_MO_wire : MethodName := ⟨R_MO, "wire", "()J"⟩
abbrev b_MO_wire : ByteArray := prog_12_method_30_code
abbrev y_MO_outline : MethodName := ⟨R_MO, "outline", "(JJ)Z"⟩
abbrev b_MO_outline : ByteArray := prog_12_method_31_code
abbrev y_MO_weigh : MethodName := ⟨R_MO, "weigh", "(III)V"⟩
abbrev b_MO_weigh : ByteArray := prog_12_method_32_code
abbrev y_MO_sum : MethodName := ⟨R_MO, "sum", "(I)J"⟩
abbrev b_MO_sum : ByteArray := prog_12_method_33_code
abbrev y_MO_match : MethodName := ⟨R_MO, "match", "(I)I"⟩
abbrev b_MO_match : ByteArray := prog_12_method_34_code
abbrev y_MO_pin : MethodName := ⟨R_MO, "pin", "(III)I"⟩
abbrev b_MO_pin : ByteArray := prog_12_method_35_code
abbrev y_BL_init : MethodName := ⟨R_BL, "<init>", "()V"⟩
abbrev b_BL_init : ByteArray := prog_2_method_1_code
abbrev y_BL_append : MethodName := ⟨R_BL, "append", "(IIZ)I"⟩
abbrev b_BL_append : ByteArray := prog_2_method_2_code
abbrev y_BL_tell : MethodName := ⟨R_BL, "tell", "(IZII)V"⟩
abbrev b_BL_tell : ByteArray := prog_2_method_3_code
abbrev y_DR_init : MethodName := ⟨R_DR, "<init>", "(J)V"⟩
abbrev b_DR_init : ByteArray := prog_3_method_1_code
abbrev y_DR_next : MethodName := ⟨R_DR, "next", "(I)I"⟩
abbrev b_DR_next : ByteArray := prog_3_method_2_code
abbrev y_NE_init : MethodName := ⟨R_NE, "<init>", "()V"⟩
abbrev b_NE_init : ByteArray := prog_4_method_1_code
abbrev y_NE_isFull : MethodName := ⟨R_NE, "isFull", "(I)Z"⟩
abbrev b_NE_isFull : ByteArray := prog_4_method_2_code
abbrev y_NE_append : MethodName := ⟨R_NE, "append", "(II)I"⟩
abbrev b_NE_append : ByteArray := prog_4_method_3_code
abbrev y_NE_otherEnd : MethodName := ⟨R_NE, "otherEnd", "(II)I"⟩
abbrev b_NE_otherEnd : ByteArray := prog_4_method_4_code
abbrev y_NE_lengthIn : MethodName := ⟨R_NE, "lengthIn", "(LSliceBlocks$Plan;)J"⟩
abbrev b_NE_lengthIn : ByteArray := prog_4_method_5_code
abbrev y_OR_init : MethodName := ⟨R_OR, "<init>", "()V"⟩
abbrev b_OR_init : ByteArray := prog_5_method_1_code
abbrev y_OR_append : MethodName := ⟨R_OR, "append", "(I)V"⟩
abbrev b_OR_append : ByteArray := prog_5_method_2_code
abbrev y_OR_exchange : MethodName := ⟨R_OR, "exchange", "(II)V"⟩
abbrev b_OR_exchange : ByteArray := prog_5_method_3_code
abbrev y_OR_copy : MethodName := ⟨R_OR, "copy", "(LSliceBlocks$Order;)V"⟩
abbrev b_OR_copy : ByteArray := prog_5_method_4_code
abbrev y_PI_init : MethodName := ⟨R_PI, "<init>", "(LSliceBlocks$Plan;LSliceBlocks$Nets;)V"⟩
abbrev b_PI_init : ByteArray := prog_6_method_1_code
abbrev y_PI_match : MethodName := ⟨R_PI, "match", "(I)V"⟩
abbrev b_PI_match : ByteArray := prog_6_method_2_code
abbrev y_PI_netAt : MethodName := ⟨R_PI, "netAt", "(II)I"⟩
abbrev b_PI_netAt : ByteArray := prog_6_method_3_code
abbrev y_PI_gather : MethodName := ⟨R_PI, "gather", "(I)V"⟩
abbrev b_PI_gather : ByteArray := prog_6_method_4_code
abbrev y_PI_leastCost : MethodName := ⟨R_PI, "leastCost", "(II)I"⟩
abbrev b_PI_leastCost : ByteArray := prog_6_method_5_code
abbrev y_PI_costWith : MethodName := ⟨R_PI, "costWith", "(III)I"⟩
abbrev b_PI_costWith : ByteArray := prog_6_method_6_code
abbrev y_PI_choose : MethodName := ⟨R_PI, "choose", "()V"⟩
abbrev b_PI_choose : ByteArray := prog_6_method_7_code
abbrev y_PL_init : MethodName := ⟨R_PL, "<init>", "(LSliceBlocks$Blocks;)V"⟩
abbrev b_PL_init : ByteArray := prog_7_method_1_code
abbrev y_PL_append : MethodName := ⟨R_PL, "append", "(I)V"⟩
abbrev b_PL_append : ByteArray := prog_7_method_2_code
abbrev y_PL_copy : MethodName := ⟨R_PL, "copy", "(LSliceBlocks$Plan;)V"⟩
abbrev b_PL_copy : ByteArray := prog_7_method_3_code
abbrev y_PL_move : MethodName := ⟨R_PL, "move", "(III)V"⟩
abbrev b_PL_move : ByteArray := prog_7_method_4_code
abbrev y_PL_turnIfAllowed : MethodName := ⟨R_PL, "turnIfAllowed", "(I)V"⟩
abbrev b_PL_turnIfAllowed : ByteArray := prog_7_method_5_code
abbrev y_PL_fixIfStillPlan : MethodName := ⟨R_PL, "fixIfStillPlan", "(III)Z"⟩
abbrev b_PL_fixIfStillPlan : ByteArray := prog_7_method_6_code
abbrev y_PL_layOut : MethodName := ⟨R_PL, "layOut", "()Z"⟩
abbrev b_PL_layOut : ByteArray := prog_7_method_7_code
abbrev y_PL_layAlong : MethodName := ⟨R_PL, "layAlong", "(ILSliceBlocks$Order;LSliceBlocks$Order;)Z"⟩
abbrev b_PL_layAlong : ByteArray := prog_7_method_8_code
abbrev y_PL_sizeOf : MethodName := ⟨R_PL, "sizeOf", "(II)I"⟩
abbrev b_PL_sizeOf : ByteArray := prog_7_method_9_code
abbrev y_PL_blockCount : MethodName := ⟨R_PL, "blockCount", "()I"⟩
abbrev b_PL_blockCount : ByteArray := prog_7_method_10_code
abbrev y_PL_area : MethodName := ⟨R_PL, "area", "()J"⟩
abbrev b_PL_area : ByteArray := prog_7_method_11_code
abbrev y_PL_haveRoomInCommon : MethodName := ⟨R_PL, "haveRoomInCommon", "(II)Z"⟩
abbrev b_PL_haveRoomInCommon : ByteArray := prog_7_method_12_code
abbrev y_PL_middleOf : MethodName := ⟨R_PL, "middleOf", "(II)I"⟩
abbrev b_PL_middleOf : ByteArray := prog_7_method_13_code
abbrev y_PL_gapOfMiddles : MethodName := ⟨R_PL, "gapOfMiddles", "(II)I"⟩
abbrev b_PL_gapOfMiddles : ByteArray := prog_7_method_14_code
abbrev y_PL_gapOfSide : MethodName := ⟨R_PL, "gapOfSide", "(III)I"⟩
abbrev b_PL_gapOfSide : ByteArray := prog_7_method_15_code
abbrev y_SE_init : MethodName := ⟨R_SE, "<init>", "(LSliceBlocks$Plan;LSliceBlocks$Plan;LSliceBlocks$Nets;LSliceBlocks$Draws;)V"⟩
abbrev b_SE_init : ByteArray := prog_8_method_1_code
abbrev y_SE_run : MethodName := ⟨R_SE, "run", "(I)V"⟩
abbrev b_SE_run : ByteArray := prog_8_method_2_code
abbrev y_SE_attempt : MethodName := ⟨R_SE, "attempt", "(IIIJ)V"⟩
abbrev b_SE_attempt : ByteArray := prog_8_method_3_code
abbrev y_SE_keepIfBetter : MethodName := ⟨R_SE, "keepIfBetter", "()V"⟩
abbrev b_SE_keepIfBetter : ByteArray := prog_8_method_4_code
abbrev y_SL_init : MethodName := ⟨R_SL, "<init>", "(I)V"⟩
abbrev b_SL_init : ByteArray := prog_9_method_1_code
abbrev y_SL_ofBlock : MethodName := ⟨R_SL, "ofBlock", "(IIZ)LSliceBlocks$ShapeList;"⟩
abbrev b_SL_ofBlock : ByteArray := prog_9_method_2_code
abbrev y_SL_ofSlice : MethodName := ⟨R_SL, "ofSlice", "(LSliceBlocks$ShapeList;LSliceBlocks$ShapeList;Z)LSliceBlocks$ShapeList;"⟩
abbrev b_SL_ofSlice : ByteArray := prog_9_method_3_code
abbrev y_SL_leastArea : MethodName := ⟨R_SL, "leastArea", "()J"⟩
abbrev b_SL_leastArea : ByteArray := prog_9_method_4_code
abbrev y_SL_offer : MethodName := ⟨R_SL, "offer", "(II)V"⟩
abbrev b_SL_offer : ByteArray := prog_9_method_5_code
abbrev y_SL_hasMatchFor : MethodName := ⟨R_SL, "hasMatchFor", "(II)Z"⟩
abbrev b_SL_hasMatchFor : ByteArray := prog_9_method_6_code
abbrev y_SL_dropMatchedBy : MethodName := ⟨R_SL, "dropMatchedBy", "(II)V"⟩
abbrev b_SL_dropMatchedBy : ByteArray := prog_9_method_7_code
abbrev y_SL_insert : MethodName := ⟨R_SL, "insert", "(II)V"⟩
abbrev b_SL_insert : ByteArray := prog_9_method_8_code
abbrev y_TH_init : MethodName := ⟨R_TH, "<init>", "(ILSliceBlocks$ShapeList;)V"⟩
abbrev b_TH_init : ByteArray := prog_10_method_1_code
abbrev y_LA_cell : MethodName := ⟨R_LA, "cell", "([II)I"⟩
abbrev b_LA_cell : ByteArray := method_2_code
abbrev y_LA_block : MethodName := ⟨R_LA, "block", "(LSliceBlocks;JJZ[J)I"⟩
abbrev b_LA_block : ByteArray := method_3_code
abbrev y_LA_fix : MethodName := ⟨R_LA, "fix", "(LSliceBlocks;IJJ[J)I"⟩
abbrev b_LA_fix : ByteArray := method_4_code
abbrev y_LA_net : MethodName := ⟨R_LA, "net", "(LSliceBlocks;II[J)I"⟩
abbrev b_LA_net : ByteArray := method_5_code
abbrev y_LA_slice : MethodName := ⟨R_LA, "slice", "(LSliceBlocks;IIZ[J)I"⟩
abbrev b_LA_slice : ByteArray := method_6_code
abbrev y_LA_shapes : MethodName := ⟨R_LA, "shapes", "(LSliceBlocks;I[J)I"⟩
abbrev b_LA_shapes : ByteArray := method_7_code
abbrev y_LA_shape : MethodName := ⟨R_LA, "shape", "(LSliceBlocks;III[J)I"⟩
abbrev b_LA_shape : ByteArray := method_8_code
abbrev y_LA_least : MethodName := ⟨R_LA, "least", "(LSliceBlocks;I[J)I"⟩
abbrev b_LA_least : ByteArray := method_9_code
abbrev y_LA_pair : MethodName := ⟨R_LA, "pair", "(LSliceBlocks;I[J)I"⟩
abbrev b_LA_pair : ByteArray := method_10_code
abbrev y_LA_at : MethodName := ⟨R_LA, "at", "(LSliceBlocks;II[J)I"⟩
abbrev b_LA_at : ByteArray := method_11_code
abbrev y_LA_turned : MethodName := ⟨R_LA, "turned", "(LSliceBlocks;I[J)I"⟩
abbrev b_LA_turned : ByteArray := method_12_code
abbrev y_LA_pin : MethodName := ⟨R_LA, "pin", "(LSliceBlocks;III[J)I"⟩
abbrev b_LA_pin : ByteArray := method_13_code
abbrev y_LA_outline : MethodName := ⟨R_LA, "outline", "(LSliceBlocks;JJ[J)I"⟩
abbrev b_LA_outline : ByteArray := method_14_code
abbrev y_LA_law : MethodName := ⟨R_LA, "law", "([I)Z"⟩
abbrev b_LA_law : ByteArray := code
def F_SB : u_T := fun k => match k with
  | 0 => (R_SB, "things", "[LSliceBlocks$Thing;", true)
  | 1 => (R_SB, "thingCount", "I", false)
  | 2 => (R_SB, "blocks", "LSliceBlocks$Blocks;", true)
  | 3 => (R_SB, "nets", "LSliceBlocks$Nets;", true)
  | 4 => (R_SB, "kept", "LSliceBlocks$Plan;", true)
  | 5 => (R_SB, "search", "LSliceBlocks$Search;", true)
  | _ => (R_SB, "pins", "LSliceBlocks$Pins;", true)
def t_SB : Nat → FieldType := fun k => match k with
  | 0 => .array (.object "SliceBlocks$Thing")
  | 1 => .int
  | 2 => .object "SliceBlocks$Blocks"
  | 3 => .object "SliceBlocks$Nets"
  | 4 => .object "SliceBlocks$Plan"
  | 5 => .object "SliceBlocks$Search"
  | _ => .object "SliceBlocks$Pins"
theorem n_SB : ∀ a, a < 7 → ∀ b, b < 7 → a ≠ b → (F_SB a).2.1 ≠ (F_SB b).2.1 := by decide +kernel
theorem to_SB : ∀ k, k < 7 → parseFieldDescriptor (F_SB k).2.2.1 = some (t_SB k) := by decide +kernel
def F_BL : u_T := fun k => match k with
  | 0 => (R_BL, "sizes", "[[I", true)
  | 1 => (R_BL, "told", "[[I", true)
  | 2 => (R_BL, "mayTurn", "[Z", true)
  | 3 => (R_BL, "isFixed", "[Z", true)
  | _ => (R_BL, "count", "I", false)
def t_BL : Nat → FieldType := fun k => match k with
  | 0 => .array (.array (.int))
  | 1 => .array (.array (.int))
  | 2 => .array (.boolean)
  | 3 => .array (.boolean)
  | _ => .int
theorem n_BL : ∀ a, a < 5 → ∀ b, b < 5 → a ≠ b → (F_BL a).2.1 ≠ (F_BL b).2.1 := by decide +kernel
theorem to_BL : ∀ k, k < 5 → parseFieldDescriptor (F_BL k).2.2.1 = some (t_BL k) := by decide +kernel
def F_DR : u_T := fun k => match k with
  | _ => (R_DR, "state", "J", false)
def t_DR : Nat → FieldType := fun k => match k with
  | _ => .long
theorem n_DR : ∀ a, a < 1 → ∀ b, b < 1 → a ≠ b → (F_DR a).2.1 ≠ (F_DR b).2.1 := by decide +kernel
theorem to_DR : ∀ k, k < 1 → parseFieldDescriptor (F_DR k).2.2.1 = some (t_DR k) := by decide +kernel
def F_NE : u_T := fun k => match k with
  | 0 => (R_NE, "firstEnds", "[I", true)
  | 1 => (R_NE, "secondEnds", "[I", true)
  | 2 => (R_NE, "countOf", "[I", true)
  | _ => (R_NE, "count", "I", false)
def t_NE : Nat → FieldType := fun k => match k with
  | 0 => .array (.int)
  | 1 => .array (.int)
  | 2 => .array (.int)
  | _ => .int
theorem n_NE : ∀ a, a < 4 → ∀ b, b < 4 → a ≠ b → (F_NE a).2.1 ≠ (F_NE b).2.1 := by decide +kernel
theorem to_NE : ∀ k, k < 4 → parseFieldDescriptor (F_NE k).2.2.1 = some (t_NE k) := by decide +kernel
def F_OR : u_T := fun k => match k with
  | 0 => (R_OR, "blockAt", "[I", true)
  | 1 => (R_OR, "placeOf", "[I", true)
  | _ => (R_OR, "count", "I", false)
def t_OR : Nat → FieldType := fun k => match k with
  | 0 => .array (.int)
  | 1 => .array (.int)
  | _ => .int
theorem n_OR : ∀ a, a < 3 → ∀ b, b < 3 → a ≠ b → (F_OR a).2.1 ≠ (F_OR b).2.1 := by decide +kernel
theorem to_OR : ∀ k, k < 3 → parseFieldDescriptor (F_OR k).2.2.1 = some (t_OR k) := by decide +kernel
def F_PI : u_T := fun k => match k with
  | 0 => (R_PI, "plan", "LSliceBlocks$Plan;", true)
  | 1 => (R_PI, "nets", "LSliceBlocks$Nets;", true)
  | 2 => (R_PI, "netNumbers", "[I", true)
  | 3 => (R_PI, "sides", "[I", true)
  | 4 => (R_PI, "costs", "[[I", true)
  | 5 => (R_PI, "leastCosts", "[[I", true)
  | _ => (R_PI, "count", "I", false)
def t_PI : Nat → FieldType := fun k => match k with
  | 0 => .object "SliceBlocks$Plan"
  | 1 => .object "SliceBlocks$Nets"
  | 2 => .array (.int)
  | 3 => .array (.int)
  | 4 => .array (.array (.int))
  | 5 => .array (.array (.int))
  | _ => .int
theorem n_PI : ∀ a, a < 7 → ∀ b, b < 7 → a ≠ b → (F_PI a).2.1 ≠ (F_PI b).2.1 := by decide +kernel
theorem to_PI : ∀ k, k < 7 → parseFieldDescriptor (F_PI k).2.2.1 = some (t_PI k) := by decide +kernel
def F_PL : u_T := fun k => match k with
  | 0 => (R_PL, "blocks", "LSliceBlocks$Blocks;", true)
  | 1 => (R_PL, "first", "LSliceBlocks$Order;", true)
  | 2 => (R_PL, "second", "LSliceBlocks$Order;", true)
  | 3 => (R_PL, "isTurned", "[Z", true)
  | 4 => (R_PL, "starts", "[[I", true)
  | 5 => (R_PL, "ends", "[[I", true)
  | _ => (R_PL, "extents", "[I", true)
def t_PL : Nat → FieldType := fun k => match k with
  | 0 => .object "SliceBlocks$Blocks"
  | 1 => .object "SliceBlocks$Order"
  | 2 => .object "SliceBlocks$Order"
  | 3 => .array (.boolean)
  | 4 => .array (.array (.int))
  | 5 => .array (.array (.int))
  | _ => .array (.int)
theorem n_PL : ∀ a, a < 7 → ∀ b, b < 7 → a ≠ b → (F_PL a).2.1 ≠ (F_PL b).2.1 := by decide +kernel
theorem to_PL : ∀ k, k < 7 → parseFieldDescriptor (F_PL k).2.2.1 = some (t_PL k) := by decide +kernel
def F_SE : u_T := fun k => match k with
  | 0 => (R_SE, "kept", "LSliceBlocks$Plan;", true)
  | 1 => (R_SE, "atHand", "LSliceBlocks$Plan;", true)
  | 2 => (R_SE, "nets", "LSliceBlocks$Nets;", true)
  | 3 => (R_SE, "draws", "LSliceBlocks$Draws;", true)
  | 4 => (R_SE, "areaAtHand", "J", false)
  | _ => (R_SE, "keptWire", "J", false)
def t_SE : Nat → FieldType := fun k => match k with
  | 0 => .object "SliceBlocks$Plan"
  | 1 => .object "SliceBlocks$Plan"
  | 2 => .object "SliceBlocks$Nets"
  | 3 => .object "SliceBlocks$Draws"
  | 4 => .long
  | _ => .long
theorem n_SE : ∀ a, a < 6 → ∀ b, b < 6 → a ≠ b → (F_SE a).2.1 ≠ (F_SE b).2.1 := by decide +kernel
theorem to_SE : ∀ k, k < 6 → parseFieldDescriptor (F_SE k).2.2.1 = some (t_SE k) := by decide +kernel
def F_SL : u_T := fun k => match k with
  | 0 => (R_SL, "widths", "[I", true)
  | 1 => (R_SL, "heights", "[I", true)
  | _ => (R_SL, "count", "I", false)
def t_SL : Nat → FieldType := fun k => match k with
  | 0 => .array (.int)
  | 1 => .array (.int)
  | _ => .int
theorem n_SL : ∀ a, a < 3 → ∀ b, b < 3 → a ≠ b → (F_SL a).2.1 ≠ (F_SL b).2.1 := by decide +kernel
theorem to_SL : ∀ k, k < 3 → parseFieldDescriptor (F_SL k).2.2.1 = some (t_SL k) := by decide +kernel
def F_TH : u_T := fun k => match k with
  | 0 => (R_TH, "block", "I", true)
  | 1 => (R_TH, "list", "LSliceBlocks$ShapeList;", true)
  | _ => (R_TH, "isInSlice", "Z", false)
def t_TH : Nat → FieldType := fun k => match k with
  | 0 => .int
  | 1 => .object "SliceBlocks$ShapeList"
  | _ => .boolean
theorem n_TH : ∀ a, a < 3 → ∀ b, b < 3 → a ≠ b → (F_TH a).2.1 ≠ (F_TH b).2.1 := by decide +kernel
theorem to_TH : ∀ k, k < 3 → parseFieldDescriptor (F_TH k).2.2.1 = some (t_TH k) := by decide +kernel
def F_MO : u_T := fun k => match k with
  | 0 => (R_MO, "code", "I", false)
  | 1 => (R_MO, "state", "J", false)
  | 2 => (R_MO, "firsts", "[I", true)
  | 3 => (R_MO, "seconds", "[I", true)
  | 4 => (R_MO, "acrosses", "[Z", true)
  | 5 => (R_MO, "used", "[Z", true)
  | 6 => (R_MO, "widths", "[J", true)
  | 7 => (R_MO, "heights", "[J", true)
  | 8 => (R_MO, "shapeCounts", "[I", true)
  | 9 => (R_MO, "things", "I", false)
  | 10 => (R_MO, "blockThings", "[I", true)
  | 11 => (R_MO, "sideA", "[J", true)
  | 12 => (R_MO, "sideB", "[J", true)
  | 13 => (R_MO, "turnable", "[Z", true)
  | 14 => (R_MO, "fixed", "[Z", true)
  | 15 => (R_MO, "fixedX", "[J", true)
  | 16 => (R_MO, "fixedY", "[J", true)
  | 17 => (R_MO, "blocks", "I", false)
  | 18 => (R_MO, "netA", "[I", true)
  | 19 => (R_MO, "netB", "[I", true)
  | 20 => (R_MO, "nets", "I", false)
  | 21 => (R_MO, "one", "[I", true)
  | 22 => (R_MO, "two", "[I", true)
  | 23 => (R_MO, "turnedNow", "[Z", true)
  | 24 => (R_MO, "x", "[J", true)
  | 25 => (R_MO, "y", "[J", true)
  | 26 => (R_MO, "allW", "[J", true)
  | 27 => (R_MO, "allH", "[J", true)
  | 28 => (R_MO, "costs", "[J", true)
  | 29 => (R_MO, "own", "[I", true)
  | 30 => (R_MO, "sides", "[I", true)
  | _ => (R_MO, "best", "[I", true)
def t_MO : Nat → FieldType := fun k => match k with
  | 0 => .int
  | 1 => .long
  | 2 => .array (.int)
  | 3 => .array (.int)
  | 4 => .array (.boolean)
  | 5 => .array (.boolean)
  | 6 => .array (.long)
  | 7 => .array (.long)
  | 8 => .array (.int)
  | 9 => .int
  | 10 => .array (.int)
  | 11 => .array (.long)
  | 12 => .array (.long)
  | 13 => .array (.boolean)
  | 14 => .array (.boolean)
  | 15 => .array (.long)
  | 16 => .array (.long)
  | 17 => .int
  | 18 => .array (.int)
  | 19 => .array (.int)
  | 20 => .int
  | 21 => .array (.int)
  | 22 => .array (.int)
  | 23 => .array (.boolean)
  | 24 => .array (.long)
  | 25 => .array (.long)
  | 26 => .array (.long)
  | 27 => .array (.long)
  | 28 => .array (.long)
  | 29 => .array (.int)
  | 30 => .array (.int)
  | _ => .array (.int)
theorem n_MO : ∀ a, a < 32 → ∀ b, b < 32 → a ≠ b → (F_MO a).2.1 ≠ (F_MO b).2.1 := by decide +kernel
theorem to_MO : ∀ k, k < 32 → parseFieldDescriptor (F_MO k).2.2.1 = some (t_MO k) := by decide +kernel
abbrev classes : List vw_C := [(R_SB, F_SB, 7), (R_BL, F_BL, 5), (R_DR, F_DR, 1), (R_NE, F_NE, 4), (R_OR, F_OR, 3), (R_PI, F_PI, 7), (R_PL, F_PL, 7), (R_SE, F_SE, 6), (R_SL, F_SL, 3), (R_TH, F_TH, 3), (R_MO, F_MO, 32)]
theorem kn_LA : Cond.initialized R_LA ∈ lw_g := List.mem_filter.mpr ⟨List.mem_append_right _ (List.mem_of_getElem? (i := 0) (by decide +kernel)), rfl⟩
theorem kn_SB : Cond.initialized R_SB ∈ lw_g := List.mem_filter.mpr ⟨List.mem_append_right _ (List.mem_of_getElem? (i := 1) (by decide +kernel)), rfl⟩
theorem kn_BL : Cond.initialized R_BL ∈ lw_g := List.mem_filter.mpr ⟨List.mem_append_right _ (List.mem_of_getElem? (i := 2) (by decide +kernel)), rfl⟩
theorem kn_NE : Cond.initialized R_NE ∈ lw_g := List.mem_filter.mpr ⟨List.mem_append_right _ (List.mem_of_getElem? (i := 3) (by decide +kernel)), rfl⟩
theorem kn_PL : Cond.initialized R_PL ∈ lw_g := List.mem_filter.mpr ⟨List.mem_append_right _ (List.mem_of_getElem? (i := 4) (by decide +kernel)), rfl⟩
theorem kn_OR : Cond.initialized R_OR ∈ lw_g := List.mem_filter.mpr ⟨List.mem_append_right _ (List.mem_of_getElem? (i := 5) (by decide +kernel)), rfl⟩
theorem kn_SE : Cond.initialized R_SE ∈ lw_g := List.mem_filter.mpr ⟨List.mem_append_right _ (List.mem_of_getElem? (i := 6) (by decide +kernel)), rfl⟩
theorem kn_DR : Cond.initialized R_DR ∈ lw_g := List.mem_filter.mpr ⟨List.mem_append_right _ (List.mem_of_getElem? (i := 7) (by decide +kernel)), rfl⟩
theorem kn_PI : Cond.initialized R_PI ∈ lw_g := List.mem_filter.mpr ⟨List.mem_append_right _ (List.mem_of_getElem? (i := 8) (by decide +kernel)), rfl⟩
theorem kn_MO : Cond.initialized R_MO ∈ lw_g := List.mem_filter.mpr ⟨List.mem_append_right _ (List.mem_of_getElem? (i := 9) (by decide +kernel)), rfl⟩
theorem kn_JThr : Cond.initialized R_JThr ∈ lw_g := List.mem_filter.mpr ⟨List.mem_append_right _ (List.mem_of_getElem? (i := 10) (by decide +kernel)), rfl⟩
theorem kn_JExc : Cond.initialized R_JExc ∈ lw_g := List.mem_filter.mpr ⟨List.mem_append_right _ (List.mem_of_getElem? (i := 11) (by decide +kernel)), rfl⟩
theorem kn_JRun : Cond.initialized R_JRun ∈ lw_g := List.mem_filter.mpr ⟨List.mem_append_right _ (List.mem_of_getElem? (i := 12) (by decide +kernel)), rfl⟩
theorem kn_JISE : Cond.initialized R_JISE ∈ lw_g := List.mem_filter.mpr ⟨List.mem_append_right _ (List.mem_of_getElem? (i := 13) (by decide +kernel)), rfl⟩
theorem kn_JIAE : Cond.initialized R_JIAE ∈ lw_g := List.mem_filter.mpr ⟨List.mem_append_right _ (List.mem_of_getElem? (i := 14) (by decide +kernel)), rfl⟩
theorem kn_JMath : Cond.initialized R_JMath ∈ lw_g := List.mem_filter.mpr ⟨List.mem_append_right _ (List.mem_of_getElem? (i := 15) (by decide +kernel)), rfl⟩
theorem kn_TH : Cond.initialized R_TH ∈ lw_g := List.mem_filter.mpr ⟨List.mem_append_right _ (List.mem_of_getElem? (i := 16) (by decide +kernel)), rfl⟩
theorem kn_SL : Cond.initialized R_SL ∈ lw_g := List.mem_filter.mpr ⟨List.mem_append_right _ (List.mem_of_getElem? (i := 17) (by decide +kernel)), rfl⟩
theorem kn_JIOB : Cond.initialized R_JIOB ∈ lw_g := List.mem_filter.mpr ⟨List.mem_append_right _ (List.mem_of_getElem? (i := 18) (by decide +kernel)), rfl⟩
theorem kn_JSys : Cond.initialized R_JSys ∈ lw_g := List.mem_filter.mpr ⟨List.mem_append_right _ (List.mem_of_getElem? (i := 19) (by decide +kernel)), rfl⟩
theorem kc_LA_8 : Cond.classLink R_LA 8 R_SB ∈ lw_g := List.mem_filter.mpr ⟨List.mem_append_right _ (List.mem_of_getElem? (i := 20) (by decide +kernel)), rfl⟩
theorem kI_SB : Cond.instantiable R_SB 7 ∈ lw_g := List.mem_filter.mpr ⟨List.mem_append_right _ (List.mem_of_getElem? (i := 21) (by decide +kernel)), rfl⟩
theorem km_LA_68 : Cond.methodLink R_LA 68 y_SB_init ∈ lw_g := List.mem_filter.mpr ⟨List.mem_append_right _ (List.mem_of_getElem? (i := 22) (by decide +kernel)), rfl⟩
theorem ki_SB_init : Cond.instanceMethod y_SB_init  ∈ lw_g := List.mem_filter.mpr ⟨List.mem_append_right _ (List.mem_of_getElem? (i := 23) (by decide +kernel)), rfl⟩
theorem kd_SB_init : Cond.code y_SB_init b_SB_init (3 : Nat) (Option.none : Option FieldType) ∈ lw_g := List.mem_filter.mpr ⟨List.mem_append_right _ (List.mem_of_getElem? (i := 24) (by decide +kernel)), rfl⟩
theorem km_SB_1 : Cond.methodLink R_SB 1 ⟨R_JObj, "<init>", "()V"⟩ ∈ lw_g := List.mem_filter.mpr ⟨List.mem_append_right _ (List.mem_of_getElem? (i := 25) (by decide +kernel)), rfl⟩
theorem kc_SB_9 : Cond.classLink R_SB 9 R_TH ∈ lw_g := List.mem_filter.mpr ⟨List.mem_append_right _ (List.mem_of_getElem? (i := 28) (by decide +kernel)), rfl⟩
theorem ka_29 : Cond.arrayOver (FieldType.object "SliceBlocks$Thing") ∈ lw_tbl := List.mem_append_right _ (List.mem_of_getElem? (i := 29) (by decide +kernel))
theorem kc_SB_19 : Cond.classLink R_SB 19 R_BL ∈ lw_g := List.mem_filter.mpr ⟨List.mem_append_right _ (List.mem_of_getElem? (i := 30) (by decide +kernel)), rfl⟩
theorem kI_BL : Cond.instantiable R_BL 5 ∈ lw_g := List.mem_filter.mpr ⟨List.mem_append_right _ (List.mem_of_getElem? (i := 31) (by decide +kernel)), rfl⟩
theorem km_SB_21 : Cond.methodLink R_SB 21 y_BL_init ∈ lw_g := List.mem_filter.mpr ⟨List.mem_append_right _ (List.mem_of_getElem? (i := 32) (by decide +kernel)), rfl⟩
theorem ki_BL_init : Cond.instanceMethod y_BL_init  ∈ lw_g := List.mem_filter.mpr ⟨List.mem_append_right _ (List.mem_of_getElem? (i := 33) (by decide +kernel)), rfl⟩
theorem kd_BL_init : Cond.code y_BL_init b_BL_init (1 : Nat) (Option.none : Option FieldType) ∈ lw_g := List.mem_filter.mpr ⟨List.mem_append_right _ (List.mem_of_getElem? (i := 34) (by decide +kernel)), rfl⟩
theorem km_BL_3 : Cond.methodLink R_BL 3 ⟨R_JObj, "<init>", "()V"⟩ ∈ lw_g := List.mem_filter.mpr ⟨List.mem_append_right _ (List.mem_of_getElem? (i := 35) (by decide +kernel)), rfl⟩
theorem kc_BL_9 : Cond.classLink R_BL 9 "[[I" ∈ lw_g := List.mem_filter.mpr ⟨List.mem_append_right _ (List.mem_of_getElem? (i := 36) (by decide +kernel)), rfl⟩
theorem ka_37 : Cond.arrayOver (FieldType.array FieldType.int) ∈ lw_tbl := List.mem_append_right _ (List.mem_of_getElem? (i := 37) (by decide +kernel))
theorem kf_BL_11 : Cond.fieldLink R_BL 11 R_BL "sizes" "[[I" ∈ lw_g := List.mem_filter.mpr ⟨List.mem_append_right _ (List.mem_of_getElem? (i := 38) (by decide +kernel)), rfl⟩
theorem kf_PL_104 : Cond.fieldLink R_PL 104 R_BL "sizes" "[[I" ∈ lw_g := List.mem_filter.mpr ⟨List.mem_append_right _ (List.mem_of_getElem? (i := 39) (by decide +kernel)), rfl⟩
theorem kf_BL_16 : Cond.fieldLink R_BL 16 R_BL "told" "[[I" ∈ lw_g := List.mem_filter.mpr ⟨List.mem_append_right _ (List.mem_of_getElem? (i := 40) (by decide +kernel)), rfl⟩
theorem kf_PL_80 : Cond.fieldLink R_PL 80 R_BL "told" "[[I" ∈ lw_g := List.mem_filter.mpr ⟨List.mem_append_right _ (List.mem_of_getElem? (i := 41) (by decide +kernel)), rfl⟩
theorem kf_BL_19 : Cond.fieldLink R_BL 19 R_BL "mayTurn" "[Z" ∈ lw_g := List.mem_filter.mpr ⟨List.mem_append_right _ (List.mem_of_getElem? (i := 42) (by decide +kernel)), rfl⟩
theorem kf_PL_72 : Cond.fieldLink R_PL 72 R_BL "mayTurn" "[Z" ∈ lw_g := List.mem_filter.mpr ⟨List.mem_append_right _ (List.mem_of_getElem? (i := 43) (by decide +kernel)), rfl⟩
theorem kf_BL_23 : Cond.fieldLink R_BL 23 R_BL "isFixed" "[Z" ∈ lw_g := List.mem_filter.mpr ⟨List.mem_append_right _ (List.mem_of_getElem? (i := 44) (by decide +kernel)), rfl⟩
theorem kf_PL_77 : Cond.fieldLink R_PL 77 R_BL "isFixed" "[Z" ∈ lw_g := List.mem_filter.mpr ⟨List.mem_append_right _ (List.mem_of_getElem? (i := 45) (by decide +kernel)), rfl⟩
theorem kf_BL_26 : Cond.fieldLink R_BL 26 R_BL "count" "I" ∈ lw_g := List.mem_filter.mpr ⟨List.mem_append_right _ (List.mem_of_getElem? (i := 46) (by decide +kernel)), rfl⟩
theorem kf_SB_65 : Cond.fieldLink R_SB 65 R_BL "count" "I" ∈ lw_g := List.mem_filter.mpr ⟨List.mem_append_right _ (List.mem_of_getElem? (i := 47) (by decide +kernel)), rfl⟩
theorem kf_PL_91 : Cond.fieldLink R_PL 91 R_BL "count" "I" ∈ lw_g := List.mem_filter.mpr ⟨List.mem_append_right _ (List.mem_of_getElem? (i := 48) (by decide +kernel)), rfl⟩
theorem ka_60 : Cond.arrayClass FieldType.int ∈ lw_g := List.mem_filter.mpr ⟨List.mem_append_right _ (List.mem_of_getElem? (i := 60) (by decide +kernel)), rfl⟩
theorem ka_61 : Cond.arrayClass FieldType.boolean ∈ lw_g := List.mem_filter.mpr ⟨List.mem_append_right _ (List.mem_of_getElem? (i := 61) (by decide +kernel)), rfl⟩
theorem kc_SB_26 : Cond.classLink R_SB 26 R_NE ∈ lw_g := List.mem_filter.mpr ⟨List.mem_append_right _ (List.mem_of_getElem? (i := 62) (by decide +kernel)), rfl⟩
theorem kI_NE : Cond.instantiable R_NE 4 ∈ lw_g := List.mem_filter.mpr ⟨List.mem_append_right _ (List.mem_of_getElem? (i := 63) (by decide +kernel)), rfl⟩
theorem km_SB_28 : Cond.methodLink R_SB 28 y_NE_init ∈ lw_g := List.mem_filter.mpr ⟨List.mem_append_right _ (List.mem_of_getElem? (i := 64) (by decide +kernel)), rfl⟩
theorem ki_NE_init : Cond.instanceMethod y_NE_init  ∈ lw_g := List.mem_filter.mpr ⟨List.mem_append_right _ (List.mem_of_getElem? (i := 65) (by decide +kernel)), rfl⟩
theorem kd_NE_init : Cond.code y_NE_init b_NE_init (1 : Nat) (Option.none : Option FieldType) ∈ lw_g := List.mem_filter.mpr ⟨List.mem_append_right _ (List.mem_of_getElem? (i := 66) (by decide +kernel)), rfl⟩
theorem km_NE_3 : Cond.methodLink R_NE 3 ⟨R_JObj, "<init>", "()V"⟩ ∈ lw_g := List.mem_filter.mpr ⟨List.mem_append_right _ (List.mem_of_getElem? (i := 67) (by decide +kernel)), rfl⟩
theorem kf_NE_9 : Cond.fieldLink R_NE 9 R_NE "firstEnds" "[I" ∈ lw_g := List.mem_filter.mpr ⟨List.mem_append_right _ (List.mem_of_getElem? (i := 68) (by decide +kernel)), rfl⟩
theorem kf_NE_15 : Cond.fieldLink R_NE 15 R_NE "secondEnds" "[I" ∈ lw_g := List.mem_filter.mpr ⟨List.mem_append_right _ (List.mem_of_getElem? (i := 69) (by decide +kernel)), rfl⟩
theorem kf_NE_18 : Cond.fieldLink R_NE 18 R_NE "countOf" "[I" ∈ lw_g := List.mem_filter.mpr ⟨List.mem_append_right _ (List.mem_of_getElem? (i := 70) (by decide +kernel)), rfl⟩
theorem kf_NE_21 : Cond.fieldLink R_NE 21 R_NE "count" "I" ∈ lw_g := List.mem_filter.mpr ⟨List.mem_append_right _ (List.mem_of_getElem? (i := 71) (by decide +kernel)), rfl⟩
theorem kf_PI_49 : Cond.fieldLink R_PI 49 R_NE "count" "I" ∈ lw_g := List.mem_filter.mpr ⟨List.mem_append_right _ (List.mem_of_getElem? (i := 72) (by decide +kernel)), rfl⟩
theorem kf_SB_123 : Cond.fieldLink R_SB 123 R_NE "count" "I" ∈ lw_g := List.mem_filter.mpr ⟨List.mem_append_right _ (List.mem_of_getElem? (i := 73) (by decide +kernel)), rfl⟩
theorem kc_SB_33 : Cond.classLink R_SB 33 R_PL ∈ lw_g := List.mem_filter.mpr ⟨List.mem_append_right _ (List.mem_of_getElem? (i := 83) (by decide +kernel)), rfl⟩
theorem kI_PL : Cond.instantiable R_PL 7 ∈ lw_g := List.mem_filter.mpr ⟨List.mem_append_right _ (List.mem_of_getElem? (i := 84) (by decide +kernel)), rfl⟩
theorem km_SB_35 : Cond.methodLink R_SB 35 y_PL_init ∈ lw_g := List.mem_filter.mpr ⟨List.mem_append_right _ (List.mem_of_getElem? (i := 85) (by decide +kernel)), rfl⟩
theorem ki_PL_init : Cond.instanceMethod y_PL_init  ∈ lw_g := List.mem_filter.mpr ⟨List.mem_append_right _ (List.mem_of_getElem? (i := 86) (by decide +kernel)), rfl⟩
theorem kd_PL_init : Cond.code y_PL_init b_PL_init (2 : Nat) (Option.none : Option FieldType) ∈ lw_g := List.mem_filter.mpr ⟨List.mem_append_right _ (List.mem_of_getElem? (i := 87) (by decide +kernel)), rfl⟩
theorem km_PL_3 : Cond.methodLink R_PL 3 ⟨R_JObj, "<init>", "()V"⟩ ∈ lw_g := List.mem_filter.mpr ⟨List.mem_append_right _ (List.mem_of_getElem? (i := 88) (by decide +kernel)), rfl⟩
theorem kc_PL_15 : Cond.classLink R_PL 15 R_OR ∈ lw_g := List.mem_filter.mpr ⟨List.mem_append_right _ (List.mem_of_getElem? (i := 89) (by decide +kernel)), rfl⟩
theorem kI_OR : Cond.instantiable R_OR 3 ∈ lw_g := List.mem_filter.mpr ⟨List.mem_append_right _ (List.mem_of_getElem? (i := 90) (by decide +kernel)), rfl⟩
theorem km_PL_17 : Cond.methodLink R_PL 17 y_OR_init ∈ lw_g := List.mem_filter.mpr ⟨List.mem_append_right _ (List.mem_of_getElem? (i := 91) (by decide +kernel)), rfl⟩
theorem ki_OR_init : Cond.instanceMethod y_OR_init  ∈ lw_g := List.mem_filter.mpr ⟨List.mem_append_right _ (List.mem_of_getElem? (i := 92) (by decide +kernel)), rfl⟩
theorem kd_OR_init : Cond.code y_OR_init b_OR_init (1 : Nat) (Option.none : Option FieldType) ∈ lw_g := List.mem_filter.mpr ⟨List.mem_append_right _ (List.mem_of_getElem? (i := 93) (by decide +kernel)), rfl⟩
theorem km_OR_3 : Cond.methodLink R_OR 3 ⟨R_JObj, "<init>", "()V"⟩ ∈ lw_g := List.mem_filter.mpr ⟨List.mem_append_right _ (List.mem_of_getElem? (i := 94) (by decide +kernel)), rfl⟩
theorem kf_OR_9 : Cond.fieldLink R_OR 9 R_OR "blockAt" "[I" ∈ lw_g := List.mem_filter.mpr ⟨List.mem_append_right _ (List.mem_of_getElem? (i := 95) (by decide +kernel)), rfl⟩
theorem kf_PL_66 : Cond.fieldLink R_PL 66 R_OR "blockAt" "[I" ∈ lw_g := List.mem_filter.mpr ⟨List.mem_append_right _ (List.mem_of_getElem? (i := 96) (by decide +kernel)), rfl⟩
theorem kf_OR_15 : Cond.fieldLink R_OR 15 R_OR "placeOf" "[I" ∈ lw_g := List.mem_filter.mpr ⟨List.mem_append_right _ (List.mem_of_getElem? (i := 97) (by decide +kernel)), rfl⟩
theorem kf_PL_63 : Cond.fieldLink R_PL 63 R_OR "placeOf" "[I" ∈ lw_g := List.mem_filter.mpr ⟨List.mem_append_right _ (List.mem_of_getElem? (i := 98) (by decide +kernel)), rfl⟩
theorem kf_OR_18 : Cond.fieldLink R_OR 18 R_OR "count" "I" ∈ lw_g := List.mem_filter.mpr ⟨List.mem_append_right _ (List.mem_of_getElem? (i := 99) (by decide +kernel)), rfl⟩
theorem kc_PL_29 : Cond.classLink R_PL 29 "[[I" ∈ lw_g := List.mem_filter.mpr ⟨List.mem_append_right _ (List.mem_of_getElem? (i := 107) (by decide +kernel)), rfl⟩
theorem kf_PL_9 : Cond.fieldLink R_PL 9 R_PL "blocks" "LSliceBlocks$Blocks;" ∈ lw_g := List.mem_filter.mpr ⟨List.mem_append_right _ (List.mem_of_getElem? (i := 108) (by decide +kernel)), rfl⟩
theorem kf_PL_18 : Cond.fieldLink R_PL 18 R_PL "first" "LSliceBlocks$Order;" ∈ lw_g := List.mem_filter.mpr ⟨List.mem_append_right _ (List.mem_of_getElem? (i := 109) (by decide +kernel)), rfl⟩
theorem kf_PL_22 : Cond.fieldLink R_PL 22 R_PL "second" "LSliceBlocks$Order;" ∈ lw_g := List.mem_filter.mpr ⟨List.mem_append_right _ (List.mem_of_getElem? (i := 110) (by decide +kernel)), rfl⟩
theorem kf_PL_25 : Cond.fieldLink R_PL 25 R_PL "isTurned" "[Z" ∈ lw_g := List.mem_filter.mpr ⟨List.mem_append_right _ (List.mem_of_getElem? (i := 111) (by decide +kernel)), rfl⟩
theorem kf_SB_185 : Cond.fieldLink R_SB 185 R_PL "isTurned" "[Z" ∈ lw_g := List.mem_filter.mpr ⟨List.mem_append_right _ (List.mem_of_getElem? (i := 112) (by decide +kernel)), rfl⟩
theorem kf_PL_31 : Cond.fieldLink R_PL 31 R_PL "starts" "[[I" ∈ lw_g := List.mem_filter.mpr ⟨List.mem_append_right _ (List.mem_of_getElem? (i := 113) (by decide +kernel)), rfl⟩
theorem kf_SB_181 : Cond.fieldLink R_SB 181 R_PL "starts" "[[I" ∈ lw_g := List.mem_filter.mpr ⟨List.mem_append_right _ (List.mem_of_getElem? (i := 114) (by decide +kernel)), rfl⟩
theorem kf_PL_34 : Cond.fieldLink R_PL 34 R_PL "ends" "[[I" ∈ lw_g := List.mem_filter.mpr ⟨List.mem_append_right _ (List.mem_of_getElem? (i := 115) (by decide +kernel)), rfl⟩
theorem kf_PL_37 : Cond.fieldLink R_PL 37 R_PL "extents" "[I" ∈ lw_g := List.mem_filter.mpr ⟨List.mem_append_right _ (List.mem_of_getElem? (i := 116) (by decide +kernel)), rfl⟩
theorem kf_SB_207 : Cond.fieldLink R_SB 207 R_PL "extents" "[I" ∈ lw_g := List.mem_filter.mpr ⟨List.mem_append_right _ (List.mem_of_getElem? (i := 117) (by decide +kernel)), rfl⟩
theorem kc_SB_42 : Cond.classLink R_SB 42 R_SE ∈ lw_g := List.mem_filter.mpr ⟨List.mem_append_right _ (List.mem_of_getElem? (i := 133) (by decide +kernel)), rfl⟩
theorem kI_SE : Cond.instantiable R_SE 6 ∈ lw_g := List.mem_filter.mpr ⟨List.mem_append_right _ (List.mem_of_getElem? (i := 134) (by decide +kernel)), rfl⟩
theorem kc_SB_44 : Cond.classLink R_SB 44 R_DR ∈ lw_g := List.mem_filter.mpr ⟨List.mem_append_right _ (List.mem_of_getElem? (i := 135) (by decide +kernel)), rfl⟩
theorem kI_DR : Cond.instantiable R_DR 1 ∈ lw_g := List.mem_filter.mpr ⟨List.mem_append_right _ (List.mem_of_getElem? (i := 136) (by decide +kernel)), rfl⟩
theorem km_SB_46 : Cond.methodLink R_SB 46 y_DR_init ∈ lw_g := List.mem_filter.mpr ⟨List.mem_append_right _ (List.mem_of_getElem? (i := 137) (by decide +kernel)), rfl⟩
theorem ki_DR_init : Cond.instanceMethod y_DR_init  ∈ lw_g := List.mem_filter.mpr ⟨List.mem_append_right _ (List.mem_of_getElem? (i := 138) (by decide +kernel)), rfl⟩
theorem kd_DR_init : Cond.code y_DR_init b_DR_init (3 : Nat) (Option.none : Option FieldType) ∈ lw_g := List.mem_filter.mpr ⟨List.mem_append_right _ (List.mem_of_getElem? (i := 139) (by decide +kernel)), rfl⟩
theorem km_DR_1 : Cond.methodLink R_DR 1 ⟨R_JObj, "<init>", "()V"⟩ ∈ lw_g := List.mem_filter.mpr ⟨List.mem_append_right _ (List.mem_of_getElem? (i := 140) (by decide +kernel)), rfl⟩
theorem kf_DR_7 : Cond.fieldLink R_DR 7 R_DR "state" "J" ∈ lw_g := List.mem_filter.mpr ⟨List.mem_append_right _ (List.mem_of_getElem? (i := 141) (by decide +kernel)), rfl⟩
theorem km_SB_49 : Cond.methodLink R_SB 49 y_SE_init ∈ lw_g := List.mem_filter.mpr ⟨List.mem_append_right _ (List.mem_of_getElem? (i := 145) (by decide +kernel)), rfl⟩
theorem ki_SE_init : Cond.instanceMethod y_SE_init  ∈ lw_g := List.mem_filter.mpr ⟨List.mem_append_right _ (List.mem_of_getElem? (i := 146) (by decide +kernel)), rfl⟩
theorem kd_SE_init : Cond.code y_SE_init b_SE_init (5 : Nat) (Option.none : Option FieldType) ∈ lw_g := List.mem_filter.mpr ⟨List.mem_append_right _ (List.mem_of_getElem? (i := 147) (by decide +kernel)), rfl⟩
theorem km_SE_1 : Cond.methodLink R_SE 1 ⟨R_JObj, "<init>", "()V"⟩ ∈ lw_g := List.mem_filter.mpr ⟨List.mem_append_right _ (List.mem_of_getElem? (i := 148) (by decide +kernel)), rfl⟩
theorem kf_SE_7 : Cond.fieldLink R_SE 7 R_SE "kept" "LSliceBlocks$Plan;" ∈ lw_g := List.mem_filter.mpr ⟨List.mem_append_right _ (List.mem_of_getElem? (i := 149) (by decide +kernel)), rfl⟩
theorem kf_SE_13 : Cond.fieldLink R_SE 13 R_SE "atHand" "LSliceBlocks$Plan;" ∈ lw_g := List.mem_filter.mpr ⟨List.mem_append_right _ (List.mem_of_getElem? (i := 150) (by decide +kernel)), rfl⟩
theorem kf_SE_16 : Cond.fieldLink R_SE 16 R_SE "nets" "LSliceBlocks$Nets;" ∈ lw_g := List.mem_filter.mpr ⟨List.mem_append_right _ (List.mem_of_getElem? (i := 151) (by decide +kernel)), rfl⟩
theorem kf_SE_20 : Cond.fieldLink R_SE 20 R_SE "draws" "LSliceBlocks$Draws;" ∈ lw_g := List.mem_filter.mpr ⟨List.mem_append_right _ (List.mem_of_getElem? (i := 152) (by decide +kernel)), rfl⟩
theorem kf_SE_24 : Cond.fieldLink R_SE 24 R_SE "areaAtHand" "J" ∈ lw_g := List.mem_filter.mpr ⟨List.mem_append_right _ (List.mem_of_getElem? (i := 153) (by decide +kernel)), rfl⟩
theorem kf_SE_28 : Cond.fieldLink R_SE 28 R_SE "keptWire" "J" ∈ lw_g := List.mem_filter.mpr ⟨List.mem_append_right _ (List.mem_of_getElem? (i := 154) (by decide +kernel)), rfl⟩
theorem kc_SB_56 : Cond.classLink R_SB 56 R_PI ∈ lw_g := List.mem_filter.mpr ⟨List.mem_append_right _ (List.mem_of_getElem? (i := 168) (by decide +kernel)), rfl⟩
theorem kI_PI : Cond.instantiable R_PI 7 ∈ lw_g := List.mem_filter.mpr ⟨List.mem_append_right _ (List.mem_of_getElem? (i := 169) (by decide +kernel)), rfl⟩
theorem km_SB_58 : Cond.methodLink R_SB 58 y_PI_init ∈ lw_g := List.mem_filter.mpr ⟨List.mem_append_right _ (List.mem_of_getElem? (i := 170) (by decide +kernel)), rfl⟩
theorem ki_PI_init : Cond.instanceMethod y_PI_init  ∈ lw_g := List.mem_filter.mpr ⟨List.mem_append_right _ (List.mem_of_getElem? (i := 171) (by decide +kernel)), rfl⟩
theorem kd_PI_init : Cond.code y_PI_init b_PI_init (3 : Nat) (Option.none : Option FieldType) ∈ lw_g := List.mem_filter.mpr ⟨List.mem_append_right _ (List.mem_of_getElem? (i := 172) (by decide +kernel)), rfl⟩
theorem km_PI_3 : Cond.methodLink R_PI 3 ⟨R_JObj, "<init>", "()V"⟩ ∈ lw_g := List.mem_filter.mpr ⟨List.mem_append_right _ (List.mem_of_getElem? (i := 173) (by decide +kernel)), rfl⟩
theorem kc_PI_26 : Cond.classLink R_PI 26 "[[I" ∈ lw_g := List.mem_filter.mpr ⟨List.mem_append_right _ (List.mem_of_getElem? (i := 174) (by decide +kernel)), rfl⟩
theorem kf_PI_9 : Cond.fieldLink R_PI 9 R_PI "plan" "LSliceBlocks$Plan;" ∈ lw_g := List.mem_filter.mpr ⟨List.mem_append_right _ (List.mem_of_getElem? (i := 175) (by decide +kernel)), rfl⟩
theorem kf_PI_15 : Cond.fieldLink R_PI 15 R_PI "nets" "LSliceBlocks$Nets;" ∈ lw_g := List.mem_filter.mpr ⟨List.mem_append_right _ (List.mem_of_getElem? (i := 176) (by decide +kernel)), rfl⟩
theorem kf_PI_19 : Cond.fieldLink R_PI 19 R_PI "netNumbers" "[I" ∈ lw_g := List.mem_filter.mpr ⟨List.mem_append_right _ (List.mem_of_getElem? (i := 177) (by decide +kernel)), rfl⟩
theorem kf_PI_23 : Cond.fieldLink R_PI 23 R_PI "sides" "[I" ∈ lw_g := List.mem_filter.mpr ⟨List.mem_append_right _ (List.mem_of_getElem? (i := 178) (by decide +kernel)), rfl⟩
theorem kf_PI_28 : Cond.fieldLink R_PI 28 R_PI "costs" "[[I" ∈ lw_g := List.mem_filter.mpr ⟨List.mem_append_right _ (List.mem_of_getElem? (i := 179) (by decide +kernel)), rfl⟩
theorem kf_PI_31 : Cond.fieldLink R_PI 31 R_PI "leastCosts" "[[I" ∈ lw_g := List.mem_filter.mpr ⟨List.mem_append_right _ (List.mem_of_getElem? (i := 180) (by decide +kernel)), rfl⟩
theorem kf_PI_34 : Cond.fieldLink R_PI 34 R_PI "count" "I" ∈ lw_g := List.mem_filter.mpr ⟨List.mem_append_right _ (List.mem_of_getElem? (i := 181) (by decide +kernel)), rfl⟩
theorem kf_SB_11 : Cond.fieldLink R_SB 11 R_SB "things" "[LSliceBlocks$Thing;" ∈ lw_g := List.mem_filter.mpr ⟨List.mem_append_right _ (List.mem_of_getElem? (i := 197) (by decide +kernel)), rfl⟩
theorem kf_SB_15 : Cond.fieldLink R_SB 15 R_SB "thingCount" "I" ∈ lw_g := List.mem_filter.mpr ⟨List.mem_append_right _ (List.mem_of_getElem? (i := 198) (by decide +kernel)), rfl⟩
theorem kf_SB_22 : Cond.fieldLink R_SB 22 R_SB "blocks" "LSliceBlocks$Blocks;" ∈ lw_g := List.mem_filter.mpr ⟨List.mem_append_right _ (List.mem_of_getElem? (i := 199) (by decide +kernel)), rfl⟩
theorem kf_SB_29 : Cond.fieldLink R_SB 29 R_SB "nets" "LSliceBlocks$Nets;" ∈ lw_g := List.mem_filter.mpr ⟨List.mem_append_right _ (List.mem_of_getElem? (i := 200) (by decide +kernel)), rfl⟩
theorem kf_SB_38 : Cond.fieldLink R_SB 38 R_SB "kept" "LSliceBlocks$Plan;" ∈ lw_g := List.mem_filter.mpr ⟨List.mem_append_right _ (List.mem_of_getElem? (i := 201) (by decide +kernel)), rfl⟩
theorem kf_SB_52 : Cond.fieldLink R_SB 52 R_SB "search" "LSliceBlocks$Search;" ∈ lw_g := List.mem_filter.mpr ⟨List.mem_append_right _ (List.mem_of_getElem? (i := 202) (by decide +kernel)), rfl⟩
theorem kf_SB_61 : Cond.fieldLink R_SB 61 R_SB "pins" "LSliceBlocks$Pins;" ∈ lw_g := List.mem_filter.mpr ⟨List.mem_append_right _ (List.mem_of_getElem? (i := 203) (by decide +kernel)), rfl⟩
theorem km_LA_116 : Cond.methodLink R_LA 116 y_SB_overlap ∈ lw_g := List.mem_filter.mpr ⟨List.mem_append_right _ (List.mem_of_getElem? (i := 219) (by decide +kernel)), rfl⟩
theorem ki_SB_overlap : Cond.instanceMethod y_SB_overlap  ∈ lw_g := List.mem_filter.mpr ⟨List.mem_append_right _ (List.mem_of_getElem? (i := 220) (by decide +kernel)), rfl⟩
theorem ks_SB_overlap : Cond.selects R_SB y_SB_overlap y_SB_overlap ∈ lw_g := List.mem_filter.mpr ⟨List.mem_append_right _ (List.mem_of_getElem? (i := 221) (by decide +kernel)), rfl⟩
theorem kd_SB_overlap : Cond.code y_SB_overlap b_SB_overlap (3 : Nat) (Option.some FieldType.boolean) ∈ lw_g := List.mem_filter.mpr ⟨List.mem_append_right _ (List.mem_of_getElem? (i := 222) (by decide +kernel)), rfl⟩
theorem km_SB_189 : Cond.methodLink R_SB 189 y_PL_haveRoomInCommon ∈ lw_g := List.mem_filter.mpr ⟨List.mem_append_right _ (List.mem_of_getElem? (i := 223) (by decide +kernel)), rfl⟩
theorem ki_PL_haveRoomInCommon : Cond.instanceMethod y_PL_haveRoomInCommon  ∈ lw_g := List.mem_filter.mpr ⟨List.mem_append_right _ (List.mem_of_getElem? (i := 224) (by decide +kernel)), rfl⟩
theorem ks_PL_haveRoomInCommon : Cond.selects R_PL y_PL_haveRoomInCommon y_PL_haveRoomInCommon ∈ lw_g := List.mem_filter.mpr ⟨List.mem_append_right _ (List.mem_of_getElem? (i := 225) (by decide +kernel)), rfl⟩
theorem kd_PL_haveRoomInCommon : Cond.code y_PL_haveRoomInCommon b_PL_haveRoomInCommon (4 : Nat) (Option.some FieldType.boolean) ∈ lw_g := List.mem_filter.mpr ⟨List.mem_append_right _ (List.mem_of_getElem? (i := 226) (by decide +kernel)), rfl⟩
theorem km_LA_121 : Cond.methodLink R_LA 121 y_SB_wire ∈ lw_g := List.mem_filter.mpr ⟨List.mem_append_right _ (List.mem_of_getElem? (i := 227) (by decide +kernel)), rfl⟩
theorem ki_SB_wire : Cond.instanceMethod y_SB_wire  ∈ lw_g := List.mem_filter.mpr ⟨List.mem_append_right _ (List.mem_of_getElem? (i := 228) (by decide +kernel)), rfl⟩
theorem ks_SB_wire : Cond.selects R_SB y_SB_wire y_SB_wire ∈ lw_g := List.mem_filter.mpr ⟨List.mem_append_right _ (List.mem_of_getElem? (i := 229) (by decide +kernel)), rfl⟩
theorem kd_SB_wire : Cond.code y_SB_wire b_SB_wire (1 : Nat) (Option.some FieldType.long) ∈ lw_g := List.mem_filter.mpr ⟨List.mem_append_right _ (List.mem_of_getElem? (i := 230) (by decide +kernel)), rfl⟩
theorem km_SB_193 : Cond.methodLink R_SB 193 y_NE_lengthIn ∈ lw_g := List.mem_filter.mpr ⟨List.mem_append_right _ (List.mem_of_getElem? (i := 231) (by decide +kernel)), rfl⟩
theorem ki_NE_lengthIn : Cond.instanceMethod y_NE_lengthIn  ∈ lw_g := List.mem_filter.mpr ⟨List.mem_append_right _ (List.mem_of_getElem? (i := 232) (by decide +kernel)), rfl⟩
theorem ks_NE_lengthIn : Cond.selects R_NE y_NE_lengthIn y_NE_lengthIn ∈ lw_g := List.mem_filter.mpr ⟨List.mem_append_right _ (List.mem_of_getElem? (i := 233) (by decide +kernel)), rfl⟩
theorem kd_NE_lengthIn : Cond.code y_NE_lengthIn b_NE_lengthIn (5 : Nat) (Option.some FieldType.long) ∈ lw_g := List.mem_filter.mpr ⟨List.mem_append_right _ (List.mem_of_getElem? (i := 234) (by decide +kernel)), rfl⟩
theorem km_NE_25 : Cond.methodLink R_NE 25 y_PL_gapOfMiddles ∈ lw_g := List.mem_filter.mpr ⟨List.mem_append_right _ (List.mem_of_getElem? (i := 235) (by decide +kernel)), rfl⟩
theorem ki_PL_gapOfMiddles : Cond.instanceMethod y_PL_gapOfMiddles  ∈ lw_g := List.mem_filter.mpr ⟨List.mem_append_right _ (List.mem_of_getElem? (i := 236) (by decide +kernel)), rfl⟩
theorem ks_PL_gapOfMiddles : Cond.selects R_PL y_PL_gapOfMiddles y_PL_gapOfMiddles ∈ lw_g := List.mem_filter.mpr ⟨List.mem_append_right _ (List.mem_of_getElem? (i := 237) (by decide +kernel)), rfl⟩
theorem kd_PL_gapOfMiddles : Cond.code y_PL_gapOfMiddles b_PL_gapOfMiddles (3 : Nat) (Option.some FieldType.int) ∈ lw_g := List.mem_filter.mpr ⟨List.mem_append_right _ (List.mem_of_getElem? (i := 238) (by decide +kernel)), rfl⟩
theorem km_PL_107 : Cond.methodLink R_PL 107 y_PL_middleOf ∈ lw_g := List.mem_filter.mpr ⟨List.mem_append_right _ (List.mem_of_getElem? (i := 239) (by decide +kernel)), rfl⟩
theorem kp_PL_middleOf : Cond.privateMethod y_PL_middleOf  ∈ lw_tbl := List.mem_append_right _ (List.mem_of_getElem? (i := 240) (by decide +kernel))
theorem ki_PL_middleOf : Cond.instanceMethod y_PL_middleOf  ∈ lw_g := List.mem_filter.mpr ⟨List.mem_append_right _ (List.mem_of_getElem? (i := 241) (by decide +kernel)), rfl⟩
theorem kd_PL_middleOf : Cond.code y_PL_middleOf b_PL_middleOf (3 : Nat) (Option.some FieldType.int) ∈ lw_g := List.mem_filter.mpr ⟨List.mem_append_right _ (List.mem_of_getElem? (i := 242) (by decide +kernel)), rfl⟩
theorem km_PL_110 : Cond.methodLink R_PL 110 ⟨R_JMath, "abs", "(I)I"⟩ ∈ lw_g := List.mem_filter.mpr ⟨List.mem_append_right _ (List.mem_of_getElem? (i := 243) (by decide +kernel)), rfl⟩
theorem km_LA_62 : Cond.methodLink R_LA 62 y_LA_cell ∈ lw_g := List.mem_filter.mpr ⟨List.mem_append_right _ (List.mem_of_getElem? (i := 246) (by decide +kernel)), rfl⟩
theorem kst_LA_cell : Cond.static y_LA_cell  ∈ lw_g := List.mem_filter.mpr ⟨List.mem_append_right _ (List.mem_of_getElem? (i := 247) (by decide +kernel)), rfl⟩
theorem kd_LA_cell : Cond.code y_LA_cell b_LA_cell (2 : Nat) (Option.some FieldType.int) ∈ lw_g := List.mem_filter.mpr ⟨List.mem_append_right _ (List.mem_of_getElem? (i := 248) (by decide +kernel)), rfl⟩
theorem km_LA_76 : Cond.methodLink R_LA 76 y_LA_block ∈ lw_g := List.mem_filter.mpr ⟨List.mem_append_right _ (List.mem_of_getElem? (i := 249) (by decide +kernel)), rfl⟩
theorem kst_LA_block : Cond.static y_LA_block  ∈ lw_g := List.mem_filter.mpr ⟨List.mem_append_right _ (List.mem_of_getElem? (i := 250) (by decide +kernel)), rfl⟩
theorem kw_LA_block : Cond.codeWith y_LA_block b_LA_block (8 : Nat) (Option.some FieldType.int) [((0 : Nat), (13 : Nat), (16 : Nat), (13 : Nat)), ((0 : Nat), (13 : Nat), (20 : Nat), (15 : Nat))] ∈ lw_g := List.mem_filter.mpr ⟨List.mem_append_right _ (List.mem_of_getElem? (i := 251) (by decide +kernel)), rfl⟩
theorem kc_LA_13 : Cond.classLink R_LA 13 R_JISE ∈ lw_g := List.mem_filter.mpr ⟨List.mem_append_right _ (List.mem_of_getElem? (i := 252) (by decide +kernel)), rfl⟩
theorem kc_LA_15 : Cond.classLink R_LA 15 R_JIAE ∈ lw_g := List.mem_filter.mpr ⟨List.mem_append_right _ (List.mem_of_getElem? (i := 253) (by decide +kernel)), rfl⟩
theorem km_LA_7 : Cond.methodLink R_LA 7 y_SB_block ∈ lw_g := List.mem_filter.mpr ⟨List.mem_append_right _ (List.mem_of_getElem? (i := 254) (by decide +kernel)), rfl⟩
theorem ki_SB_block : Cond.instanceMethod y_SB_block  ∈ lw_g := List.mem_filter.mpr ⟨List.mem_append_right _ (List.mem_of_getElem? (i := 255) (by decide +kernel)), rfl⟩
theorem ks_SB_block : Cond.selects R_SB y_SB_block y_SB_block ∈ lw_g := List.mem_filter.mpr ⟨List.mem_append_right _ (List.mem_of_getElem? (i := 256) (by decide +kernel)), rfl⟩
theorem kd_SB_block : Cond.code y_SB_block b_SB_block (7 : Nat) (Option.some FieldType.int) ∈ lw_g := List.mem_filter.mpr ⟨List.mem_append_right _ (List.mem_of_getElem? (i := 257) (by decide +kernel)), rfl⟩
theorem kc_SB_68 : Cond.classLink R_SB 68 R_JISE ∈ lw_g := List.mem_filter.mpr ⟨List.mem_append_right _ (List.mem_of_getElem? (i := 258) (by decide +kernel)), rfl⟩
theorem kI_JISE : Cond.instantiable R_JISE 6 ∈ lw_g := List.mem_filter.mpr ⟨List.mem_append_right _ (List.mem_of_getElem? (i := 259) (by decide +kernel)), rfl⟩
theorem kf_JThr_198 : Cond.fieldLink R_JThr 198 R_JThr "backtrace" "Ljava/lang/Object;" ∈ lw_g := List.mem_filter.mpr ⟨List.mem_append_right _ (List.mem_of_getElem? (i := 279) (by decide +kernel)), rfl⟩
theorem km_JThr_1 : Cond.methodLink R_JThr 1 ⟨R_JObj, "<init>", "()V"⟩ ∈ lw_g := List.mem_filter.mpr ⟨List.mem_append_right _ (List.mem_of_getElem? (i := 283) (by decide +kernel)), rfl⟩
theorem kf_JThr_13 : Cond.fieldLink R_JThr 13 R_JThr "UNASSIGNED_STACK" "[Ljava/lang/StackTraceElement;" ∈ lw_g := List.mem_filter.mpr ⟨List.mem_append_right _ (List.mem_of_getElem? (i := 284) (by decide +kernel)), rfl⟩
theorem kf_JThr_20 : Cond.fieldLink R_JThr 20 R_JThr "SUPPRESSED_SENTINEL" "Ljava/util/List;" ∈ lw_g := List.mem_filter.mpr ⟨List.mem_append_right _ (List.mem_of_getElem? (i := 286) (by decide +kernel)), rfl⟩
theorem km_JThr_27 : Cond.methodLink R_JThr 27 ⟨R_JThr, "fillInStackTrace", "()Ljava/lang/Throwable;"⟩ ∈ lw_g := List.mem_filter.mpr ⟨List.mem_append_right _ (List.mem_of_getElem? (i := 288) (by decide +kernel)), rfl⟩
theorem km_JThr_202 : Cond.methodLink R_JThr 202 ⟨R_JThr, "fillInStackTrace", "(I)Ljava/lang/Throwable;"⟩ ∈ lw_g := List.mem_filter.mpr ⟨List.mem_append_right _ (List.mem_of_getElem? (i := 294) (by decide +kernel)), rfl⟩
theorem kI_JThr : Cond.instantiable R_JThr 6 ∈ lw_g := List.mem_filter.mpr ⟨List.mem_append_right _ (List.mem_of_getElem? (i := 297) (by decide +kernel)), rfl⟩
theorem km_SB_72 : Cond.methodLink R_SB 72 ⟨R_JISE, "<init>", "(Ljava/lang/String;)V"⟩ ∈ lw_g := List.mem_filter.mpr ⟨List.mem_append_right _ (List.mem_of_getElem? (i := 300) (by decide +kernel)), rfl⟩
theorem km_JISE_7 : Cond.methodLink R_JISE 7 ⟨R_JRun, "<init>", "(Ljava/lang/String;)V"⟩ ∈ lw_g := List.mem_filter.mpr ⟨List.mem_append_right _ (List.mem_of_getElem? (i := 303) (by decide +kernel)), rfl⟩
theorem km_JRun_7 : Cond.methodLink R_JRun 7 ⟨R_JExc, "<init>", "(Ljava/lang/String;)V"⟩ ∈ lw_g := List.mem_filter.mpr ⟨List.mem_append_right _ (List.mem_of_getElem? (i := 306) (by decide +kernel)), rfl⟩
theorem km_JExc_7 : Cond.methodLink R_JExc 7 ⟨R_JThr, "<init>", "(Ljava/lang/String;)V"⟩ ∈ lw_g := List.mem_filter.mpr ⟨List.mem_append_right _ (List.mem_of_getElem? (i := 309) (by decide +kernel)), rfl⟩
theorem kf_JThr_31 : Cond.fieldLink R_JThr 31 R_JThr "detailMessage" "Ljava/lang/String;" ∈ lw_g := List.mem_filter.mpr ⟨List.mem_append_right _ (List.mem_of_getElem? (i := 313) (by decide +kernel)), rfl⟩
theorem kf_JThr_7 : Cond.fieldLink R_JThr 7 R_JThr "cause" "Ljava/lang/Throwable;" ∈ lw_g := List.mem_filter.mpr ⟨List.mem_append_right _ (List.mem_of_getElem? (i := 314) (by decide +kernel)), rfl⟩
theorem kf_JThr_17 : Cond.fieldLink R_JThr 17 R_JThr "stackTrace" "[Ljava/lang/StackTraceElement;" ∈ lw_g := List.mem_filter.mpr ⟨List.mem_append_right _ (List.mem_of_getElem? (i := 315) (by decide +kernel)), rfl⟩
theorem kf_JThr_24 : Cond.fieldLink R_JThr 24 R_JThr "suppressedExceptions" "Ljava/util/List;" ∈ lw_g := List.mem_filter.mpr ⟨List.mem_append_right _ (List.mem_of_getElem? (i := 316) (by decide +kernel)), rfl⟩
theorem ka_325 : Cond.arrayClass FieldType.byte ∈ lw_g := List.mem_filter.mpr ⟨List.mem_append_right _ (List.mem_of_getElem? (i := 325) (by decide +kernel)), rfl⟩
theorem kL_SB_75 : Cond.constantLong R_SB 75 (1000 : Int64) ∈ lw_g := List.mem_filter.mpr ⟨List.mem_append_right _ (List.mem_of_getElem? (i := 326) (by decide +kernel)), rfl⟩
theorem km_SB_77 : Cond.methodLink R_SB 77 y_SB_isWithin ∈ lw_g := List.mem_filter.mpr ⟨List.mem_append_right _ (List.mem_of_getElem? (i := 327) (by decide +kernel)), rfl⟩
theorem kst_SB_isWithin : Cond.static y_SB_isWithin  ∈ lw_g := List.mem_filter.mpr ⟨List.mem_append_right _ (List.mem_of_getElem? (i := 328) (by decide +kernel)), rfl⟩
theorem kd_SB_isWithin : Cond.code y_SB_isWithin b_SB_isWithin (6 : Nat) (Option.some FieldType.boolean) ∈ lw_g := List.mem_filter.mpr ⟨List.mem_append_right _ (List.mem_of_getElem? (i := 329) (by decide +kernel)), rfl⟩
theorem kc_SB_81 : Cond.classLink R_SB 81 R_JIAE ∈ lw_g := List.mem_filter.mpr ⟨List.mem_append_right _ (List.mem_of_getElem? (i := 330) (by decide +kernel)), rfl⟩
theorem kI_JIAE : Cond.instantiable R_JIAE 6 ∈ lw_g := List.mem_filter.mpr ⟨List.mem_append_right _ (List.mem_of_getElem? (i := 331) (by decide +kernel)), rfl⟩
theorem km_SB_85 : Cond.methodLink R_SB 85 ⟨R_JIAE, "<init>", "(Ljava/lang/String;)V"⟩ ∈ lw_g := List.mem_filter.mpr ⟨List.mem_append_right _ (List.mem_of_getElem? (i := 340) (by decide +kernel)), rfl⟩
theorem km_JIAE_7 : Cond.methodLink R_JIAE 7 ⟨R_JRun, "<init>", "(Ljava/lang/String;)V"⟩ ∈ lw_g := List.mem_filter.mpr ⟨List.mem_append_right _ (List.mem_of_getElem? (i := 343) (by decide +kernel)), rfl⟩
theorem km_SB_86 : Cond.methodLink R_SB 86 y_BL_append ∈ lw_g := List.mem_filter.mpr ⟨List.mem_append_right _ (List.mem_of_getElem? (i := 346) (by decide +kernel)), rfl⟩
theorem ki_BL_append : Cond.instanceMethod y_BL_append  ∈ lw_g := List.mem_filter.mpr ⟨List.mem_append_right _ (List.mem_of_getElem? (i := 347) (by decide +kernel)), rfl⟩
theorem ks_BL_append : Cond.selects R_BL y_BL_append y_BL_append ∈ lw_g := List.mem_filter.mpr ⟨List.mem_append_right _ (List.mem_of_getElem? (i := 348) (by decide +kernel)), rfl⟩
theorem kd_BL_append : Cond.code y_BL_append b_BL_append (4 : Nat) (Option.some FieldType.int) ∈ lw_g := List.mem_filter.mpr ⟨List.mem_append_right _ (List.mem_of_getElem? (i := 349) (by decide +kernel)), rfl⟩
theorem km_SB_90 : Cond.methodLink R_SB 90 y_PL_append ∈ lw_g := List.mem_filter.mpr ⟨List.mem_append_right _ (List.mem_of_getElem? (i := 350) (by decide +kernel)), rfl⟩
theorem ki_PL_append : Cond.instanceMethod y_PL_append  ∈ lw_g := List.mem_filter.mpr ⟨List.mem_append_right _ (List.mem_of_getElem? (i := 351) (by decide +kernel)), rfl⟩
theorem ks_PL_append : Cond.selects R_PL y_PL_append y_PL_append ∈ lw_g := List.mem_filter.mpr ⟨List.mem_append_right _ (List.mem_of_getElem? (i := 352) (by decide +kernel)), rfl⟩
theorem kd_PL_append : Cond.code y_PL_append b_PL_append (2 : Nat) (Option.none : Option FieldType) ∈ lw_g := List.mem_filter.mpr ⟨List.mem_append_right _ (List.mem_of_getElem? (i := 353) (by decide +kernel)), rfl⟩
theorem km_PL_41 : Cond.methodLink R_PL 41 y_OR_append ∈ lw_g := List.mem_filter.mpr ⟨List.mem_append_right _ (List.mem_of_getElem? (i := 354) (by decide +kernel)), rfl⟩
theorem ki_OR_append : Cond.instanceMethod y_OR_append  ∈ lw_g := List.mem_filter.mpr ⟨List.mem_append_right _ (List.mem_of_getElem? (i := 355) (by decide +kernel)), rfl⟩
theorem ks_OR_append : Cond.selects R_OR y_OR_append y_OR_append ∈ lw_g := List.mem_filter.mpr ⟨List.mem_append_right _ (List.mem_of_getElem? (i := 356) (by decide +kernel)), rfl⟩
theorem kd_OR_append : Cond.code y_OR_append b_OR_append (2 : Nat) (Option.none : Option FieldType) ∈ lw_g := List.mem_filter.mpr ⟨List.mem_append_right _ (List.mem_of_getElem? (i := 357) (by decide +kernel)), rfl⟩
theorem km_PL_45 : Cond.methodLink R_PL 45 y_PL_layOut ∈ lw_g := List.mem_filter.mpr ⟨List.mem_append_right _ (List.mem_of_getElem? (i := 358) (by decide +kernel)), rfl⟩
theorem ki_PL_layOut : Cond.instanceMethod y_PL_layOut  ∈ lw_g := List.mem_filter.mpr ⟨List.mem_append_right _ (List.mem_of_getElem? (i := 359) (by decide +kernel)), rfl⟩
theorem ks_PL_layOut : Cond.selects R_PL y_PL_layOut y_PL_layOut ∈ lw_g := List.mem_filter.mpr ⟨List.mem_append_right _ (List.mem_of_getElem? (i := 360) (by decide +kernel)), rfl⟩
theorem kd_PL_layOut : Cond.code y_PL_layOut b_PL_layOut (1 : Nat) (Option.some FieldType.boolean) ∈ lw_g := List.mem_filter.mpr ⟨List.mem_append_right _ (List.mem_of_getElem? (i := 361) (by decide +kernel)), rfl⟩
theorem km_PL_87 : Cond.methodLink R_PL 87 y_PL_layAlong ∈ lw_g := List.mem_filter.mpr ⟨List.mem_append_right _ (List.mem_of_getElem? (i := 362) (by decide +kernel)), rfl⟩
theorem kp_PL_layAlong : Cond.privateMethod y_PL_layAlong  ∈ lw_tbl := List.mem_append_right _ (List.mem_of_getElem? (i := 363) (by decide +kernel))
theorem ki_PL_layAlong : Cond.instanceMethod y_PL_layAlong  ∈ lw_g := List.mem_filter.mpr ⟨List.mem_append_right _ (List.mem_of_getElem? (i := 364) (by decide +kernel)), rfl⟩
theorem kd_PL_layAlong : Cond.code y_PL_layAlong b_PL_layAlong (16 : Nat) (Option.some FieldType.boolean) ∈ lw_g := List.mem_filter.mpr ⟨List.mem_append_right _ (List.mem_of_getElem? (i := 365) (by decide +kernel)), rfl⟩
theorem km_PL_95 : Cond.methodLink R_PL 95 y_PL_sizeOf ∈ lw_g := List.mem_filter.mpr ⟨List.mem_append_right _ (List.mem_of_getElem? (i := 366) (by decide +kernel)), rfl⟩
theorem kp_PL_sizeOf : Cond.privateMethod y_PL_sizeOf  ∈ lw_tbl := List.mem_append_right _ (List.mem_of_getElem? (i := 367) (by decide +kernel))
theorem ki_PL_sizeOf : Cond.instanceMethod y_PL_sizeOf  ∈ lw_g := List.mem_filter.mpr ⟨List.mem_append_right _ (List.mem_of_getElem? (i := 368) (by decide +kernel)), rfl⟩
theorem kd_PL_sizeOf : Cond.code y_PL_sizeOf b_PL_sizeOf (3 : Nat) (Option.some FieldType.int) ∈ lw_g := List.mem_filter.mpr ⟨List.mem_append_right _ (List.mem_of_getElem? (i := 369) (by decide +kernel)), rfl⟩
theorem km_PL_99 : Cond.methodLink R_PL 99 ⟨R_JMath, "max", "(II)I"⟩ ∈ lw_g := List.mem_filter.mpr ⟨List.mem_append_right _ (List.mem_of_getElem? (i := 370) (by decide +kernel)), rfl⟩
theorem kI_TH : Cond.instantiable R_TH 3 ∈ lw_g := List.mem_filter.mpr ⟨List.mem_append_right _ (List.mem_of_getElem? (i := 373) (by decide +kernel)), rfl⟩
theorem km_SB_93 : Cond.methodLink R_SB 93 y_SL_ofBlock ∈ lw_g := List.mem_filter.mpr ⟨List.mem_append_right _ (List.mem_of_getElem? (i := 374) (by decide +kernel)), rfl⟩
theorem kst_SL_ofBlock : Cond.static y_SL_ofBlock  ∈ lw_g := List.mem_filter.mpr ⟨List.mem_append_right _ (List.mem_of_getElem? (i := 375) (by decide +kernel)), rfl⟩
theorem kd_SL_ofBlock : Cond.code y_SL_ofBlock b_SL_ofBlock (4 : Nat) (Option.some (FieldType.object "SliceBlocks$ShapeList")) ∈ lw_g := List.mem_filter.mpr ⟨List.mem_append_right _ (List.mem_of_getElem? (i := 376) (by decide +kernel)), rfl⟩
theorem kc_SL_14 : Cond.classLink R_SL 14 R_SL ∈ lw_g := List.mem_filter.mpr ⟨List.mem_append_right _ (List.mem_of_getElem? (i := 377) (by decide +kernel)), rfl⟩
theorem kI_SL : Cond.instantiable R_SL 3 ∈ lw_g := List.mem_filter.mpr ⟨List.mem_append_right _ (List.mem_of_getElem? (i := 378) (by decide +kernel)), rfl⟩
theorem km_SL_26 : Cond.methodLink R_SL 26 y_SL_init ∈ lw_g := List.mem_filter.mpr ⟨List.mem_append_right _ (List.mem_of_getElem? (i := 379) (by decide +kernel)), rfl⟩
theorem ki_SL_init : Cond.instanceMethod y_SL_init  ∈ lw_g := List.mem_filter.mpr ⟨List.mem_append_right _ (List.mem_of_getElem? (i := 380) (by decide +kernel)), rfl⟩
theorem kd_SL_init : Cond.code y_SL_init b_SL_init (3 : Nat) (Option.none : Option FieldType) ∈ lw_g := List.mem_filter.mpr ⟨List.mem_append_right _ (List.mem_of_getElem? (i := 381) (by decide +kernel)), rfl⟩
theorem km_SL_1 : Cond.methodLink R_SL 1 ⟨R_JObj, "<init>", "()V"⟩ ∈ lw_g := List.mem_filter.mpr ⟨List.mem_append_right _ (List.mem_of_getElem? (i := 382) (by decide +kernel)), rfl⟩
theorem km_SL_7 : Cond.methodLink R_SL 7 ⟨R_JMath, "max", "(II)I"⟩ ∈ lw_g := List.mem_filter.mpr ⟨List.mem_append_right _ (List.mem_of_getElem? (i := 383) (by decide +kernel)), rfl⟩
theorem kf_SL_13 : Cond.fieldLink R_SL 13 R_SL "widths" "[I" ∈ lw_g := List.mem_filter.mpr ⟨List.mem_append_right _ (List.mem_of_getElem? (i := 384) (by decide +kernel)), rfl⟩
theorem kf_SB_160 : Cond.fieldLink R_SB 160 R_SL "widths" "[I" ∈ lw_g := List.mem_filter.mpr ⟨List.mem_append_right _ (List.mem_of_getElem? (i := 385) (by decide +kernel)), rfl⟩
theorem kf_SL_19 : Cond.fieldLink R_SL 19 R_SL "heights" "[I" ∈ lw_g := List.mem_filter.mpr ⟨List.mem_append_right _ (List.mem_of_getElem? (i := 386) (by decide +kernel)), rfl⟩
theorem kf_SB_164 : Cond.fieldLink R_SB 164 R_SL "heights" "[I" ∈ lw_g := List.mem_filter.mpr ⟨List.mem_append_right _ (List.mem_of_getElem? (i := 387) (by decide +kernel)), rfl⟩
theorem kf_SL_22 : Cond.fieldLink R_SL 22 R_SL "count" "I" ∈ lw_g := List.mem_filter.mpr ⟨List.mem_append_right _ (List.mem_of_getElem? (i := 388) (by decide +kernel)), rfl⟩
theorem kf_SB_157 : Cond.fieldLink R_SB 157 R_SL "count" "I" ∈ lw_g := List.mem_filter.mpr ⟨List.mem_append_right _ (List.mem_of_getElem? (i := 389) (by decide +kernel)), rfl⟩
theorem km_SL_29 : Cond.methodLink R_SL 29 y_SL_offer ∈ lw_g := List.mem_filter.mpr ⟨List.mem_append_right _ (List.mem_of_getElem? (i := 397) (by decide +kernel)), rfl⟩
theorem kp_SL_offer : Cond.privateMethod y_SL_offer  ∈ lw_tbl := List.mem_append_right _ (List.mem_of_getElem? (i := 398) (by decide +kernel))
theorem ki_SL_offer : Cond.instanceMethod y_SL_offer  ∈ lw_g := List.mem_filter.mpr ⟨List.mem_append_right _ (List.mem_of_getElem? (i := 399) (by decide +kernel)), rfl⟩
theorem kd_SL_offer : Cond.code y_SL_offer b_SL_offer (3 : Nat) (Option.none : Option FieldType) ∈ lw_g := List.mem_filter.mpr ⟨List.mem_append_right _ (List.mem_of_getElem? (i := 400) (by decide +kernel)), rfl⟩
theorem km_SL_41 : Cond.methodLink R_SL 41 y_SL_hasMatchFor ∈ lw_g := List.mem_filter.mpr ⟨List.mem_append_right _ (List.mem_of_getElem? (i := 401) (by decide +kernel)), rfl⟩
theorem kp_SL_hasMatchFor : Cond.privateMethod y_SL_hasMatchFor  ∈ lw_tbl := List.mem_append_right _ (List.mem_of_getElem? (i := 402) (by decide +kernel))
theorem ki_SL_hasMatchFor : Cond.instanceMethod y_SL_hasMatchFor  ∈ lw_g := List.mem_filter.mpr ⟨List.mem_append_right _ (List.mem_of_getElem? (i := 403) (by decide +kernel)), rfl⟩
theorem kd_SL_hasMatchFor : Cond.code y_SL_hasMatchFor b_SL_hasMatchFor (4 : Nat) (Option.some FieldType.boolean) ∈ lw_g := List.mem_filter.mpr ⟨List.mem_append_right _ (List.mem_of_getElem? (i := 404) (by decide +kernel)), rfl⟩
theorem km_SL_45 : Cond.methodLink R_SL 45 y_SL_dropMatchedBy ∈ lw_g := List.mem_filter.mpr ⟨List.mem_append_right _ (List.mem_of_getElem? (i := 405) (by decide +kernel)), rfl⟩
theorem kp_SL_dropMatchedBy : Cond.privateMethod y_SL_dropMatchedBy  ∈ lw_tbl := List.mem_append_right _ (List.mem_of_getElem? (i := 406) (by decide +kernel))
theorem ki_SL_dropMatchedBy : Cond.instanceMethod y_SL_dropMatchedBy  ∈ lw_g := List.mem_filter.mpr ⟨List.mem_append_right _ (List.mem_of_getElem? (i := 407) (by decide +kernel)), rfl⟩
theorem kd_SL_dropMatchedBy : Cond.code y_SL_dropMatchedBy b_SL_dropMatchedBy (5 : Nat) (Option.none : Option FieldType) ∈ lw_g := List.mem_filter.mpr ⟨List.mem_append_right _ (List.mem_of_getElem? (i := 408) (by decide +kernel)), rfl⟩
theorem km_SL_48 : Cond.methodLink R_SL 48 y_SL_insert ∈ lw_g := List.mem_filter.mpr ⟨List.mem_append_right _ (List.mem_of_getElem? (i := 409) (by decide +kernel)), rfl⟩
theorem kp_SL_insert : Cond.privateMethod y_SL_insert  ∈ lw_tbl := List.mem_append_right _ (List.mem_of_getElem? (i := 410) (by decide +kernel))
theorem ki_SL_insert : Cond.instanceMethod y_SL_insert  ∈ lw_g := List.mem_filter.mpr ⟨List.mem_append_right _ (List.mem_of_getElem? (i := 411) (by decide +kernel)), rfl⟩
theorem kd_SL_insert : Cond.code y_SL_insert b_SL_insert (4 : Nat) (Option.none : Option FieldType) ∈ lw_g := List.mem_filter.mpr ⟨List.mem_append_right _ (List.mem_of_getElem? (i := 412) (by decide +kernel)), rfl⟩
theorem km_SB_99 : Cond.methodLink R_SB 99 y_TH_init ∈ lw_g := List.mem_filter.mpr ⟨List.mem_append_right _ (List.mem_of_getElem? (i := 413) (by decide +kernel)), rfl⟩
theorem ki_TH_init : Cond.instanceMethod y_TH_init  ∈ lw_g := List.mem_filter.mpr ⟨List.mem_append_right _ (List.mem_of_getElem? (i := 414) (by decide +kernel)), rfl⟩
theorem kd_TH_init : Cond.code y_TH_init b_TH_init (3 : Nat) (Option.none : Option FieldType) ∈ lw_g := List.mem_filter.mpr ⟨List.mem_append_right _ (List.mem_of_getElem? (i := 415) (by decide +kernel)), rfl⟩
theorem km_TH_1 : Cond.methodLink R_TH 1 ⟨R_JObj, "<init>", "()V"⟩ ∈ lw_g := List.mem_filter.mpr ⟨List.mem_append_right _ (List.mem_of_getElem? (i := 416) (by decide +kernel)), rfl⟩
theorem kf_TH_7 : Cond.fieldLink R_TH 7 R_TH "block" "I" ∈ lw_g := List.mem_filter.mpr ⟨List.mem_append_right _ (List.mem_of_getElem? (i := 417) (by decide +kernel)), rfl⟩
theorem kf_SB_210 : Cond.fieldLink R_SB 210 R_TH "block" "I" ∈ lw_g := List.mem_filter.mpr ⟨List.mem_append_right _ (List.mem_of_getElem? (i := 418) (by decide +kernel)), rfl⟩
theorem kf_TH_13 : Cond.fieldLink R_TH 13 R_TH "list" "LSliceBlocks$ShapeList;" ∈ lw_g := List.mem_filter.mpr ⟨List.mem_append_right _ (List.mem_of_getElem? (i := 419) (by decide +kernel)), rfl⟩
theorem kf_SB_149 : Cond.fieldLink R_SB 149 R_TH "list" "LSliceBlocks$ShapeList;" ∈ lw_g := List.mem_filter.mpr ⟨List.mem_append_right _ (List.mem_of_getElem? (i := 420) (by decide +kernel)), rfl⟩
theorem kf_TH_17 : Cond.fieldLink R_TH 17 R_TH "isInSlice" "Z" ∈ lw_g := List.mem_filter.mpr ⟨List.mem_append_right _ (List.mem_of_getElem? (i := 421) (by decide +kernel)), rfl⟩
theorem kf_SB_141 : Cond.fieldLink R_SB 141 R_TH "isInSlice" "Z" ∈ lw_g := List.mem_filter.mpr ⟨List.mem_append_right _ (List.mem_of_getElem? (i := 422) (by decide +kernel)), rfl⟩
theorem km_SB_102 : Cond.methodLink R_SB 102 y_SB_appendThing ∈ lw_g := List.mem_filter.mpr ⟨List.mem_append_right _ (List.mem_of_getElem? (i := 430) (by decide +kernel)), rfl⟩
theorem kp_SB_appendThing : Cond.privateMethod y_SB_appendThing  ∈ lw_tbl := List.mem_append_right _ (List.mem_of_getElem? (i := 431) (by decide +kernel))
theorem ki_SB_appendThing : Cond.instanceMethod y_SB_appendThing  ∈ lw_g := List.mem_filter.mpr ⟨List.mem_append_right _ (List.mem_of_getElem? (i := 432) (by decide +kernel)), rfl⟩
theorem kd_SB_appendThing : Cond.code y_SB_appendThing b_SB_appendThing (2 : Nat) (Option.some FieldType.int) ∈ lw_g := List.mem_filter.mpr ⟨List.mem_append_right _ (List.mem_of_getElem? (i := 433) (by decide +kernel)), rfl⟩
theorem km_LA_84 : Cond.methodLink R_LA 84 y_LA_fix ∈ lw_g := List.mem_filter.mpr ⟨List.mem_append_right _ (List.mem_of_getElem? (i := 434) (by decide +kernel)), rfl⟩
theorem kst_LA_fix : Cond.static y_LA_fix  ∈ lw_g := List.mem_filter.mpr ⟨List.mem_append_right _ (List.mem_of_getElem? (i := 435) (by decide +kernel)), rfl⟩
theorem kw_LA_fix : Cond.codeWith y_LA_fix b_LA_fix (8 : Nat) (Option.some FieldType.int) [((0 : Nat), (20 : Nat), (23 : Nat), (21 : Nat)), ((0 : Nat), (20 : Nat), (27 : Nat), (15 : Nat))] ∈ lw_g := List.mem_filter.mpr ⟨List.mem_append_right _ (List.mem_of_getElem? (i := 436) (by decide +kernel)), rfl⟩
theorem kc_LA_21 : Cond.classLink R_LA 21 R_JIOB ∈ lw_g := List.mem_filter.mpr ⟨List.mem_append_right _ (List.mem_of_getElem? (i := 437) (by decide +kernel)), rfl⟩
theorem km_LA_17 : Cond.methodLink R_LA 17 y_SB_fix ∈ lw_g := List.mem_filter.mpr ⟨List.mem_append_right _ (List.mem_of_getElem? (i := 438) (by decide +kernel)), rfl⟩
theorem ki_SB_fix : Cond.instanceMethod y_SB_fix  ∈ lw_g := List.mem_filter.mpr ⟨List.mem_append_right _ (List.mem_of_getElem? (i := 439) (by decide +kernel)), rfl⟩
theorem ks_SB_fix : Cond.selects R_SB y_SB_fix y_SB_fix ∈ lw_g := List.mem_filter.mpr ⟨List.mem_append_right _ (List.mem_of_getElem? (i := 440) (by decide +kernel)), rfl⟩
theorem kd_SB_fix : Cond.code y_SB_fix b_SB_fix (7 : Nat) (Option.some FieldType.boolean) ∈ lw_g := List.mem_filter.mpr ⟨List.mem_append_right _ (List.mem_of_getElem? (i := 441) (by decide +kernel)), rfl⟩
theorem km_SB_106 : Cond.methodLink R_SB 106 y_SB_findBlock ∈ lw_g := List.mem_filter.mpr ⟨List.mem_append_right _ (List.mem_of_getElem? (i := 442) (by decide +kernel)), rfl⟩
theorem kp_SB_findBlock : Cond.privateMethod y_SB_findBlock  ∈ lw_tbl := List.mem_append_right _ (List.mem_of_getElem? (i := 443) (by decide +kernel))
theorem ki_SB_findBlock : Cond.instanceMethod y_SB_findBlock  ∈ lw_g := List.mem_filter.mpr ⟨List.mem_append_right _ (List.mem_of_getElem? (i := 444) (by decide +kernel)), rfl⟩
theorem kd_SB_findBlock : Cond.code y_SB_findBlock b_SB_findBlock (3 : Nat) (Option.some FieldType.int) ∈ lw_g := List.mem_filter.mpr ⟨List.mem_append_right _ (List.mem_of_getElem? (i := 445) (by decide +kernel)), rfl⟩
theorem km_SB_135 : Cond.methodLink R_SB 135 y_SB_findThing ∈ lw_g := List.mem_filter.mpr ⟨List.mem_append_right _ (List.mem_of_getElem? (i := 446) (by decide +kernel)), rfl⟩
theorem kp_SB_findThing : Cond.privateMethod y_SB_findThing  ∈ lw_tbl := List.mem_append_right _ (List.mem_of_getElem? (i := 447) (by decide +kernel))
theorem ki_SB_findThing : Cond.instanceMethod y_SB_findThing  ∈ lw_g := List.mem_filter.mpr ⟨List.mem_append_right _ (List.mem_of_getElem? (i := 448) (by decide +kernel)), rfl⟩
theorem kd_SB_findThing : Cond.code y_SB_findThing b_SB_findThing (2 : Nat) (Option.some (FieldType.object "SliceBlocks$Thing")) ∈ lw_g := List.mem_filter.mpr ⟨List.mem_append_right _ (List.mem_of_getElem? (i := 449) (by decide +kernel)), rfl⟩
theorem kc_SB_110 : Cond.classLink R_SB 110 R_JIOB ∈ lw_g := List.mem_filter.mpr ⟨List.mem_append_right _ (List.mem_of_getElem? (i := 450) (by decide +kernel)), rfl⟩
theorem kI_JIOB : Cond.instantiable R_JIOB 6 ∈ lw_g := List.mem_filter.mpr ⟨List.mem_append_right _ (List.mem_of_getElem? (i := 451) (by decide +kernel)), rfl⟩
theorem km_SB_114 : Cond.methodLink R_SB 114 ⟨R_JIOB, "<init>", "(Ljava/lang/String;)V"⟩ ∈ lw_g := List.mem_filter.mpr ⟨List.mem_append_right _ (List.mem_of_getElem? (i := 460) (by decide +kernel)), rfl⟩
theorem km_JIOB_7 : Cond.methodLink R_JIOB 7 ⟨R_JRun, "<init>", "(Ljava/lang/String;)V"⟩ ∈ lw_g := List.mem_filter.mpr ⟨List.mem_append_right _ (List.mem_of_getElem? (i := 463) (by decide +kernel)), rfl⟩
theorem kL_SB_115 : Cond.constantLong R_SB 115 (20000 : Int64) ∈ lw_g := List.mem_filter.mpr ⟨List.mem_append_right _ (List.mem_of_getElem? (i := 466) (by decide +kernel)), rfl⟩
theorem km_SB_119 : Cond.methodLink R_SB 119 y_PL_fixIfStillPlan ∈ lw_g := List.mem_filter.mpr ⟨List.mem_append_right _ (List.mem_of_getElem? (i := 468) (by decide +kernel)), rfl⟩
theorem ki_PL_fixIfStillPlan : Cond.instanceMethod y_PL_fixIfStillPlan  ∈ lw_g := List.mem_filter.mpr ⟨List.mem_append_right _ (List.mem_of_getElem? (i := 469) (by decide +kernel)), rfl⟩
theorem ks_PL_fixIfStillPlan : Cond.selects R_PL y_PL_fixIfStillPlan y_PL_fixIfStillPlan ∈ lw_g := List.mem_filter.mpr ⟨List.mem_append_right _ (List.mem_of_getElem? (i := 470) (by decide +kernel)), rfl⟩
theorem kd_PL_fixIfStillPlan : Cond.code y_PL_fixIfStillPlan b_PL_fixIfStillPlan (7 : Nat) (Option.some FieldType.boolean) ∈ lw_g := List.mem_filter.mpr ⟨List.mem_append_right _ (List.mem_of_getElem? (i := 471) (by decide +kernel)), rfl⟩
theorem km_PL_83 : Cond.methodLink R_PL 83 y_BL_tell ∈ lw_g := List.mem_filter.mpr ⟨List.mem_append_right _ (List.mem_of_getElem? (i := 472) (by decide +kernel)), rfl⟩
theorem ki_BL_tell : Cond.instanceMethod y_BL_tell  ∈ lw_g := List.mem_filter.mpr ⟨List.mem_append_right _ (List.mem_of_getElem? (i := 473) (by decide +kernel)), rfl⟩
theorem ks_BL_tell : Cond.selects R_BL y_BL_tell y_BL_tell ∈ lw_g := List.mem_filter.mpr ⟨List.mem_append_right _ (List.mem_of_getElem? (i := 474) (by decide +kernel)), rfl⟩
theorem kd_BL_tell : Cond.code y_BL_tell b_BL_tell (5 : Nat) (Option.none : Option FieldType) ∈ lw_g := List.mem_filter.mpr ⟨List.mem_append_right _ (List.mem_of_getElem? (i := 475) (by decide +kernel)), rfl⟩
theorem km_LA_88 : Cond.methodLink R_LA 88 y_LA_net ∈ lw_g := List.mem_filter.mpr ⟨List.mem_append_right _ (List.mem_of_getElem? (i := 476) (by decide +kernel)), rfl⟩
theorem kst_LA_net : Cond.static y_LA_net  ∈ lw_g := List.mem_filter.mpr ⟨List.mem_append_right _ (List.mem_of_getElem? (i := 477) (by decide +kernel)), rfl⟩
theorem kw_LA_net : Cond.codeWith y_LA_net b_LA_net (5 : Nat) (Option.some FieldType.int) [((0 : Nat), (10 : Nat), (13 : Nat), (21 : Nat)), ((0 : Nat), (10 : Nat), (17 : Nat), (13 : Nat)), ((0 : Nat), (10 : Nat), (21 : Nat), (15 : Nat))] ∈ lw_g := List.mem_filter.mpr ⟨List.mem_append_right _ (List.mem_of_getElem? (i := 478) (by decide +kernel)), rfl⟩
theorem km_LA_23 : Cond.methodLink R_LA 23 y_SB_net ∈ lw_g := List.mem_filter.mpr ⟨List.mem_append_right _ (List.mem_of_getElem? (i := 479) (by decide +kernel)), rfl⟩
theorem ki_SB_net : Cond.instanceMethod y_SB_net  ∈ lw_g := List.mem_filter.mpr ⟨List.mem_append_right _ (List.mem_of_getElem? (i := 480) (by decide +kernel)), rfl⟩
theorem ks_SB_net : Cond.selects R_SB y_SB_net y_SB_net ∈ lw_g := List.mem_filter.mpr ⟨List.mem_append_right _ (List.mem_of_getElem? (i := 481) (by decide +kernel)), rfl⟩
theorem kd_SB_net : Cond.code y_SB_net b_SB_net (5 : Nat) (Option.some FieldType.int) ∈ lw_g := List.mem_filter.mpr ⟨List.mem_append_right _ (List.mem_of_getElem? (i := 482) (by decide +kernel)), rfl⟩
theorem km_SB_124 : Cond.methodLink R_SB 124 y_NE_isFull ∈ lw_g := List.mem_filter.mpr ⟨List.mem_append_right _ (List.mem_of_getElem? (i := 483) (by decide +kernel)), rfl⟩
theorem ki_NE_isFull : Cond.instanceMethod y_NE_isFull  ∈ lw_g := List.mem_filter.mpr ⟨List.mem_append_right _ (List.mem_of_getElem? (i := 484) (by decide +kernel)), rfl⟩
theorem ks_NE_isFull : Cond.selects R_NE y_NE_isFull y_NE_isFull ∈ lw_g := List.mem_filter.mpr ⟨List.mem_append_right _ (List.mem_of_getElem? (i := 485) (by decide +kernel)), rfl⟩
theorem kd_NE_isFull : Cond.code y_NE_isFull b_NE_isFull (2 : Nat) (Option.some FieldType.boolean) ∈ lw_g := List.mem_filter.mpr ⟨List.mem_append_right _ (List.mem_of_getElem? (i := 486) (by decide +kernel)), rfl⟩
theorem km_SB_132 : Cond.methodLink R_SB 132 y_NE_append ∈ lw_g := List.mem_filter.mpr ⟨List.mem_append_right _ (List.mem_of_getElem? (i := 489) (by decide +kernel)), rfl⟩
theorem ki_NE_append : Cond.instanceMethod y_NE_append  ∈ lw_g := List.mem_filter.mpr ⟨List.mem_append_right _ (List.mem_of_getElem? (i := 490) (by decide +kernel)), rfl⟩
theorem ks_NE_append : Cond.selects R_NE y_NE_append y_NE_append ∈ lw_g := List.mem_filter.mpr ⟨List.mem_append_right _ (List.mem_of_getElem? (i := 491) (by decide +kernel)), rfl⟩
theorem kd_NE_append : Cond.code y_NE_append b_NE_append (3 : Nat) (Option.some FieldType.int) ∈ lw_g := List.mem_filter.mpr ⟨List.mem_append_right _ (List.mem_of_getElem? (i := 492) (by decide +kernel)), rfl⟩
theorem km_LA_92 : Cond.methodLink R_LA 92 y_LA_slice ∈ lw_g := List.mem_filter.mpr ⟨List.mem_append_right _ (List.mem_of_getElem? (i := 493) (by decide +kernel)), rfl⟩
theorem kst_LA_slice : Cond.static y_LA_slice  ∈ lw_g := List.mem_filter.mpr ⟨List.mem_append_right _ (List.mem_of_getElem? (i := 494) (by decide +kernel)), rfl⟩
theorem kw_LA_slice : Cond.codeWith y_LA_slice b_LA_slice (6 : Nat) (Option.some FieldType.int) [((0 : Nat), (12 : Nat), (15 : Nat), (21 : Nat)), ((0 : Nat), (12 : Nat), (19 : Nat), (13 : Nat)), ((0 : Nat), (12 : Nat), (23 : Nat), (15 : Nat))] ∈ lw_g := List.mem_filter.mpr ⟨List.mem_append_right _ (List.mem_of_getElem? (i := 495) (by decide +kernel)), rfl⟩
theorem km_LA_27 : Cond.methodLink R_LA 27 y_SB_slice ∈ lw_g := List.mem_filter.mpr ⟨List.mem_append_right _ (List.mem_of_getElem? (i := 496) (by decide +kernel)), rfl⟩
theorem ki_SB_slice : Cond.instanceMethod y_SB_slice  ∈ lw_g := List.mem_filter.mpr ⟨List.mem_append_right _ (List.mem_of_getElem? (i := 497) (by decide +kernel)), rfl⟩
theorem ks_SB_slice : Cond.selects R_SB y_SB_slice y_SB_slice ∈ lw_g := List.mem_filter.mpr ⟨List.mem_append_right _ (List.mem_of_getElem? (i := 498) (by decide +kernel)), rfl⟩
theorem kd_SB_slice : Cond.code y_SB_slice b_SB_slice (6 : Nat) (Option.some FieldType.int) ∈ lw_g := List.mem_filter.mpr ⟨List.mem_append_right _ (List.mem_of_getElem? (i := 499) (by decide +kernel)), rfl⟩
theorem km_SB_153 : Cond.methodLink R_SB 153 y_SL_ofSlice ∈ lw_g := List.mem_filter.mpr ⟨List.mem_append_right _ (List.mem_of_getElem? (i := 503) (by decide +kernel)), rfl⟩
theorem kst_SL_ofSlice : Cond.static y_SL_ofSlice  ∈ lw_g := List.mem_filter.mpr ⟨List.mem_append_right _ (List.mem_of_getElem? (i := 504) (by decide +kernel)), rfl⟩
theorem kd_SL_ofSlice : Cond.code y_SL_ofSlice b_SL_ofSlice (6 : Nat) (Option.some (FieldType.object "SliceBlocks$ShapeList")) ∈ lw_g := List.mem_filter.mpr ⟨List.mem_append_right _ (List.mem_of_getElem? (i := 505) (by decide +kernel)), rfl⟩
theorem km_LA_96 : Cond.methodLink R_LA 96 y_LA_shapes ∈ lw_g := List.mem_filter.mpr ⟨List.mem_append_right _ (List.mem_of_getElem? (i := 506) (by decide +kernel)), rfl⟩
theorem kst_LA_shapes : Cond.static y_LA_shapes  ∈ lw_g := List.mem_filter.mpr ⟨List.mem_append_right _ (List.mem_of_getElem? (i := 507) (by decide +kernel)), rfl⟩
theorem kw_LA_shapes : Cond.codeWith y_LA_shapes b_LA_shapes (4 : Nat) (Option.some FieldType.int) [((0 : Nat), (9 : Nat), (12 : Nat), (21 : Nat))] ∈ lw_g := List.mem_filter.mpr ⟨List.mem_append_right _ (List.mem_of_getElem? (i := 508) (by decide +kernel)), rfl⟩
theorem km_LA_31 : Cond.methodLink R_LA 31 y_SB_shapes ∈ lw_g := List.mem_filter.mpr ⟨List.mem_append_right _ (List.mem_of_getElem? (i := 509) (by decide +kernel)), rfl⟩
theorem ki_SB_shapes : Cond.instanceMethod y_SB_shapes  ∈ lw_g := List.mem_filter.mpr ⟨List.mem_append_right _ (List.mem_of_getElem? (i := 510) (by decide +kernel)), rfl⟩
theorem ks_SB_shapes : Cond.selects R_SB y_SB_shapes y_SB_shapes ∈ lw_g := List.mem_filter.mpr ⟨List.mem_append_right _ (List.mem_of_getElem? (i := 511) (by decide +kernel)), rfl⟩
theorem kd_SB_shapes : Cond.code y_SB_shapes b_SB_shapes (3 : Nat) (Option.some FieldType.int) ∈ lw_g := List.mem_filter.mpr ⟨List.mem_append_right _ (List.mem_of_getElem? (i := 512) (by decide +kernel)), rfl⟩
theorem km_LA_100 : Cond.methodLink R_LA 100 y_LA_shape ∈ lw_g := List.mem_filter.mpr ⟨List.mem_append_right _ (List.mem_of_getElem? (i := 513) (by decide +kernel)), rfl⟩
theorem kst_LA_shape : Cond.static y_LA_shape  ∈ lw_g := List.mem_filter.mpr ⟨List.mem_append_right _ (List.mem_of_getElem? (i := 514) (by decide +kernel)), rfl⟩
theorem kw_LA_shape : Cond.codeWith y_LA_shape b_LA_shape (6 : Nat) (Option.some FieldType.int) [((0 : Nat), (11 : Nat), (14 : Nat), (21 : Nat))] ∈ lw_g := List.mem_filter.mpr ⟨List.mem_append_right _ (List.mem_of_getElem? (i := 515) (by decide +kernel)), rfl⟩
theorem km_LA_35 : Cond.methodLink R_LA 35 y_SB_shape ∈ lw_g := List.mem_filter.mpr ⟨List.mem_append_right _ (List.mem_of_getElem? (i := 516) (by decide +kernel)), rfl⟩
theorem ki_SB_shape : Cond.instanceMethod y_SB_shape  ∈ lw_g := List.mem_filter.mpr ⟨List.mem_append_right _ (List.mem_of_getElem? (i := 517) (by decide +kernel)), rfl⟩
theorem ks_SB_shape : Cond.selects R_SB y_SB_shape y_SB_shape ∈ lw_g := List.mem_filter.mpr ⟨List.mem_append_right _ (List.mem_of_getElem? (i := 518) (by decide +kernel)), rfl⟩
theorem kd_SB_shape : Cond.code y_SB_shape b_SB_shape (5 : Nat) (Option.some FieldType.long) ∈ lw_g := List.mem_filter.mpr ⟨List.mem_append_right _ (List.mem_of_getElem? (i := 519) (by decide +kernel)), rfl⟩
theorem km_LA_104 : Cond.methodLink R_LA 104 y_LA_least ∈ lw_g := List.mem_filter.mpr ⟨List.mem_append_right _ (List.mem_of_getElem? (i := 521) (by decide +kernel)), rfl⟩
theorem kst_LA_least : Cond.static y_LA_least  ∈ lw_g := List.mem_filter.mpr ⟨List.mem_append_right _ (List.mem_of_getElem? (i := 522) (by decide +kernel)), rfl⟩
theorem kw_LA_least : Cond.codeWith y_LA_least b_LA_least (4 : Nat) (Option.some FieldType.int) [((0 : Nat), (8 : Nat), (11 : Nat), (21 : Nat))] ∈ lw_g := List.mem_filter.mpr ⟨List.mem_append_right _ (List.mem_of_getElem? (i := 523) (by decide +kernel)), rfl⟩
theorem km_LA_39 : Cond.methodLink R_LA 39 y_SB_least ∈ lw_g := List.mem_filter.mpr ⟨List.mem_append_right _ (List.mem_of_getElem? (i := 524) (by decide +kernel)), rfl⟩
theorem ki_SB_least : Cond.instanceMethod y_SB_least  ∈ lw_g := List.mem_filter.mpr ⟨List.mem_append_right _ (List.mem_of_getElem? (i := 525) (by decide +kernel)), rfl⟩
theorem ks_SB_least : Cond.selects R_SB y_SB_least y_SB_least ∈ lw_g := List.mem_filter.mpr ⟨List.mem_append_right _ (List.mem_of_getElem? (i := 526) (by decide +kernel)), rfl⟩
theorem kd_SB_least : Cond.code y_SB_least b_SB_least (3 : Nat) (Option.some FieldType.long) ∈ lw_g := List.mem_filter.mpr ⟨List.mem_append_right _ (List.mem_of_getElem? (i := 527) (by decide +kernel)), rfl⟩
theorem km_SB_167 : Cond.methodLink R_SB 167 y_SL_leastArea ∈ lw_g := List.mem_filter.mpr ⟨List.mem_append_right _ (List.mem_of_getElem? (i := 528) (by decide +kernel)), rfl⟩
theorem ki_SL_leastArea : Cond.instanceMethod y_SL_leastArea  ∈ lw_g := List.mem_filter.mpr ⟨List.mem_append_right _ (List.mem_of_getElem? (i := 529) (by decide +kernel)), rfl⟩
theorem ks_SL_leastArea : Cond.selects R_SL y_SL_leastArea y_SL_leastArea ∈ lw_g := List.mem_filter.mpr ⟨List.mem_append_right _ (List.mem_of_getElem? (i := 530) (by decide +kernel)), rfl⟩
theorem kd_SL_leastArea : Cond.code y_SL_leastArea b_SL_leastArea (4 : Nat) (Option.some FieldType.long) ∈ lw_g := List.mem_filter.mpr ⟨List.mem_append_right _ (List.mem_of_getElem? (i := 531) (by decide +kernel)), rfl⟩
theorem kL_SL_35 : Cond.constantLong R_SL 35 (9223372036854775807 : Int64) ∈ lw_g := List.mem_filter.mpr ⟨List.mem_append_right _ (List.mem_of_getElem? (i := 532) (by decide +kernel)), rfl⟩
theorem km_SL_37 : Cond.methodLink R_SL 37 ⟨R_JMath, "min", "(JJ)J"⟩ ∈ lw_g := List.mem_filter.mpr ⟨List.mem_append_right _ (List.mem_of_getElem? (i := 533) (by decide +kernel)), rfl⟩
theorem km_LA_107 : Cond.methodLink R_LA 107 y_LA_pair ∈ lw_g := List.mem_filter.mpr ⟨List.mem_append_right _ (List.mem_of_getElem? (i := 536) (by decide +kernel)), rfl⟩
theorem kst_LA_pair : Cond.static y_LA_pair  ∈ lw_g := List.mem_filter.mpr ⟨List.mem_append_right _ (List.mem_of_getElem? (i := 537) (by decide +kernel)), rfl⟩
theorem kw_LA_pair : Cond.codeWith y_LA_pair b_LA_pair (4 : Nat) (Option.some FieldType.int) [((0 : Nat), (9 : Nat), (12 : Nat), (15 : Nat))] ∈ lw_g := List.mem_filter.mpr ⟨List.mem_append_right _ (List.mem_of_getElem? (i := 538) (by decide +kernel)), rfl⟩
theorem km_LA_43 : Cond.methodLink R_LA 43 y_SB_pair ∈ lw_g := List.mem_filter.mpr ⟨List.mem_append_right _ (List.mem_of_getElem? (i := 539) (by decide +kernel)), rfl⟩
theorem ki_SB_pair : Cond.instanceMethod y_SB_pair  ∈ lw_g := List.mem_filter.mpr ⟨List.mem_append_right _ (List.mem_of_getElem? (i := 540) (by decide +kernel)), rfl⟩
theorem ks_SB_pair : Cond.selects R_SB y_SB_pair y_SB_pair ∈ lw_g := List.mem_filter.mpr ⟨List.mem_append_right _ (List.mem_of_getElem? (i := 541) (by decide +kernel)), rfl⟩
theorem kd_SB_pair : Cond.code y_SB_pair b_SB_pair (2 : Nat) (Option.some FieldType.int) ∈ lw_g := List.mem_filter.mpr ⟨List.mem_append_right _ (List.mem_of_getElem? (i := 542) (by decide +kernel)), rfl⟩
theorem km_SB_173 : Cond.methodLink R_SB 173 y_SE_run ∈ lw_g := List.mem_filter.mpr ⟨List.mem_append_right _ (List.mem_of_getElem? (i := 544) (by decide +kernel)), rfl⟩
theorem ki_SE_run : Cond.instanceMethod y_SE_run  ∈ lw_g := List.mem_filter.mpr ⟨List.mem_append_right _ (List.mem_of_getElem? (i := 545) (by decide +kernel)), rfl⟩
theorem ks_SE_run : Cond.selects R_SE y_SE_run y_SE_run ∈ lw_g := List.mem_filter.mpr ⟨List.mem_append_right _ (List.mem_of_getElem? (i := 546) (by decide +kernel)), rfl⟩
theorem kd_SE_run : Cond.code y_SE_run b_SE_run (11 : Nat) (Option.none : Option FieldType) ∈ lw_g := List.mem_filter.mpr ⟨List.mem_append_right _ (List.mem_of_getElem? (i := 547) (by decide +kernel)), rfl⟩
theorem km_SE_31 : Cond.methodLink R_SE 31 y_PL_area ∈ lw_g := List.mem_filter.mpr ⟨List.mem_append_right _ (List.mem_of_getElem? (i := 548) (by decide +kernel)), rfl⟩
theorem ki_PL_area : Cond.instanceMethod y_PL_area  ∈ lw_g := List.mem_filter.mpr ⟨List.mem_append_right _ (List.mem_of_getElem? (i := 549) (by decide +kernel)), rfl⟩
theorem ks_PL_area : Cond.selects R_PL y_PL_area y_PL_area ∈ lw_g := List.mem_filter.mpr ⟨List.mem_append_right _ (List.mem_of_getElem? (i := 550) (by decide +kernel)), rfl⟩
theorem kd_PL_area : Cond.code y_PL_area b_PL_area (1 : Nat) (Option.some FieldType.long) ∈ lw_g := List.mem_filter.mpr ⟨List.mem_append_right _ (List.mem_of_getElem? (i := 551) (by decide +kernel)), rfl⟩
theorem km_SE_37 : Cond.methodLink R_SE 37 y_PL_blockCount ∈ lw_g := List.mem_filter.mpr ⟨List.mem_append_right _ (List.mem_of_getElem? (i := 552) (by decide +kernel)), rfl⟩
theorem ki_PL_blockCount : Cond.instanceMethod y_PL_blockCount  ∈ lw_g := List.mem_filter.mpr ⟨List.mem_append_right _ (List.mem_of_getElem? (i := 553) (by decide +kernel)), rfl⟩
theorem ks_PL_blockCount : Cond.selects R_PL y_PL_blockCount y_PL_blockCount ∈ lw_g := List.mem_filter.mpr ⟨List.mem_append_right _ (List.mem_of_getElem? (i := 554) (by decide +kernel)), rfl⟩
theorem kd_PL_blockCount : Cond.code y_PL_blockCount b_PL_blockCount (1 : Nat) (Option.some FieldType.int) ∈ lw_g := List.mem_filter.mpr ⟨List.mem_append_right _ (List.mem_of_getElem? (i := 555) (by decide +kernel)), rfl⟩
theorem km_SE_41 : Cond.methodLink R_SE 41 y_PL_copy ∈ lw_g := List.mem_filter.mpr ⟨List.mem_append_right _ (List.mem_of_getElem? (i := 556) (by decide +kernel)), rfl⟩
theorem ki_PL_copy : Cond.instanceMethod y_PL_copy  ∈ lw_g := List.mem_filter.mpr ⟨List.mem_append_right _ (List.mem_of_getElem? (i := 557) (by decide +kernel)), rfl⟩
theorem ks_PL_copy : Cond.selects R_PL y_PL_copy y_PL_copy ∈ lw_g := List.mem_filter.mpr ⟨List.mem_append_right _ (List.mem_of_getElem? (i := 558) (by decide +kernel)), rfl⟩
theorem kd_PL_copy : Cond.code y_PL_copy b_PL_copy (3 : Nat) (Option.none : Option FieldType) ∈ lw_g := List.mem_filter.mpr ⟨List.mem_append_right _ (List.mem_of_getElem? (i := 559) (by decide +kernel)), rfl⟩
theorem km_PL_49 : Cond.methodLink R_PL 49 y_OR_copy ∈ lw_g := List.mem_filter.mpr ⟨List.mem_append_right _ (List.mem_of_getElem? (i := 560) (by decide +kernel)), rfl⟩
theorem ki_OR_copy : Cond.instanceMethod y_OR_copy  ∈ lw_g := List.mem_filter.mpr ⟨List.mem_append_right _ (List.mem_of_getElem? (i := 561) (by decide +kernel)), rfl⟩
theorem ks_OR_copy : Cond.selects R_OR y_OR_copy y_OR_copy ∈ lw_g := List.mem_filter.mpr ⟨List.mem_append_right _ (List.mem_of_getElem? (i := 562) (by decide +kernel)), rfl⟩
theorem kd_OR_copy : Cond.code y_OR_copy b_OR_copy (2 : Nat) (Option.none : Option FieldType) ∈ lw_g := List.mem_filter.mpr ⟨List.mem_append_right _ (List.mem_of_getElem? (i := 563) (by decide +kernel)), rfl⟩
theorem km_OR_22 : Cond.methodLink R_OR 22 ⟨R_JSys, "arraycopy", "(Ljava/lang/Object;ILjava/lang/Object;II)V"⟩ ∈ lw_g := List.mem_filter.mpr ⟨List.mem_append_right _ (List.mem_of_getElem? (i := 564) (by decide +kernel)), rfl⟩
theorem km_PL_53 : Cond.methodLink R_PL 53 ⟨R_JSys, "arraycopy", "(Ljava/lang/Object;ILjava/lang/Object;II)V"⟩ ∈ lw_g := List.mem_filter.mpr ⟨List.mem_append_right _ (List.mem_of_getElem? (i := 567) (by decide +kernel)), rfl⟩
theorem km_SE_45 : Cond.methodLink R_SE 45 y_NE_lengthIn ∈ lw_g := List.mem_filter.mpr ⟨List.mem_append_right _ (List.mem_of_getElem? (i := 568) (by decide +kernel)), rfl⟩
theorem km_SE_51 : Cond.methodLink R_SE 51 y_DR_next ∈ lw_g := List.mem_filter.mpr ⟨List.mem_append_right _ (List.mem_of_getElem? (i := 569) (by decide +kernel)), rfl⟩
theorem ki_DR_next : Cond.instanceMethod y_DR_next  ∈ lw_g := List.mem_filter.mpr ⟨List.mem_append_right _ (List.mem_of_getElem? (i := 570) (by decide +kernel)), rfl⟩
theorem ks_DR_next : Cond.selects R_DR y_DR_next y_DR_next ∈ lw_g := List.mem_filter.mpr ⟨List.mem_append_right _ (List.mem_of_getElem? (i := 571) (by decide +kernel)), rfl⟩
theorem kd_DR_next : Cond.code y_DR_next b_DR_next (3 : Nat) (Option.some FieldType.int) ∈ lw_g := List.mem_filter.mpr ⟨List.mem_append_right _ (List.mem_of_getElem? (i := 572) (by decide +kernel)), rfl⟩
theorem kL_DR_13 : Cond.constantLong R_DR 13 (6364136223846793005 : Int64) ∈ lw_g := List.mem_filter.mpr ⟨List.mem_append_right _ (List.mem_of_getElem? (i := 573) (by decide +kernel)), rfl⟩
theorem kL_DR_15 : Cond.constantLong R_DR 15 (1442695040888963407 : Int64) ∈ lw_g := List.mem_filter.mpr ⟨List.mem_append_right _ (List.mem_of_getElem? (i := 574) (by decide +kernel)), rfl⟩
theorem kL_SE_57 : Cond.constantLong R_SE 57 (4 : Int64) ∈ lw_g := List.mem_filter.mpr ⟨List.mem_append_right _ (List.mem_of_getElem? (i := 575) (by decide +kernel)), rfl⟩
theorem km_SE_59 : Cond.methodLink R_SE 59 y_SE_attempt ∈ lw_g := List.mem_filter.mpr ⟨List.mem_append_right _ (List.mem_of_getElem? (i := 576) (by decide +kernel)), rfl⟩
theorem kp_SE_attempt : Cond.privateMethod y_SE_attempt  ∈ lw_tbl := List.mem_append_right _ (List.mem_of_getElem? (i := 577) (by decide +kernel))
theorem ki_SE_attempt : Cond.instanceMethod y_SE_attempt  ∈ lw_g := List.mem_filter.mpr ⟨List.mem_append_right _ (List.mem_of_getElem? (i := 578) (by decide +kernel)), rfl⟩
theorem kd_SE_attempt : Cond.code y_SE_attempt b_SE_attempt (6 : Nat) (Option.none : Option FieldType) ∈ lw_g := List.mem_filter.mpr ⟨List.mem_append_right _ (List.mem_of_getElem? (i := 579) (by decide +kernel)), rfl⟩
theorem km_SE_63 : Cond.methodLink R_SE 63 y_PL_move ∈ lw_g := List.mem_filter.mpr ⟨List.mem_append_right _ (List.mem_of_getElem? (i := 580) (by decide +kernel)), rfl⟩
theorem ki_PL_move : Cond.instanceMethod y_PL_move  ∈ lw_g := List.mem_filter.mpr ⟨List.mem_append_right _ (List.mem_of_getElem? (i := 581) (by decide +kernel)), rfl⟩
theorem ks_PL_move : Cond.selects R_PL y_PL_move y_PL_move ∈ lw_g := List.mem_filter.mpr ⟨List.mem_append_right _ (List.mem_of_getElem? (i := 582) (by decide +kernel)), rfl⟩
theorem kd_PL_move : Cond.code y_PL_move b_PL_move (4 : Nat) (Option.none : Option FieldType) ∈ lw_g := List.mem_filter.mpr ⟨List.mem_append_right _ (List.mem_of_getElem? (i := 583) (by decide +kernel)), rfl⟩
theorem km_PL_59 : Cond.methodLink R_PL 59 y_OR_exchange ∈ lw_g := List.mem_filter.mpr ⟨List.mem_append_right _ (List.mem_of_getElem? (i := 584) (by decide +kernel)), rfl⟩
theorem ki_OR_exchange : Cond.instanceMethod y_OR_exchange  ∈ lw_g := List.mem_filter.mpr ⟨List.mem_append_right _ (List.mem_of_getElem? (i := 585) (by decide +kernel)), rfl⟩
theorem ks_OR_exchange : Cond.selects R_OR y_OR_exchange y_OR_exchange ∈ lw_g := List.mem_filter.mpr ⟨List.mem_append_right _ (List.mem_of_getElem? (i := 586) (by decide +kernel)), rfl⟩
theorem kd_OR_exchange : Cond.code y_OR_exchange b_OR_exchange (5 : Nat) (Option.none : Option FieldType) ∈ lw_g := List.mem_filter.mpr ⟨List.mem_append_right _ (List.mem_of_getElem? (i := 587) (by decide +kernel)), rfl⟩
theorem km_PL_69 : Cond.methodLink R_PL 69 y_PL_turnIfAllowed ∈ lw_g := List.mem_filter.mpr ⟨List.mem_append_right _ (List.mem_of_getElem? (i := 588) (by decide +kernel)), rfl⟩
theorem kp_PL_turnIfAllowed : Cond.privateMethod y_PL_turnIfAllowed  ∈ lw_tbl := List.mem_append_right _ (List.mem_of_getElem? (i := 589) (by decide +kernel))
theorem ki_PL_turnIfAllowed : Cond.instanceMethod y_PL_turnIfAllowed  ∈ lw_g := List.mem_filter.mpr ⟨List.mem_append_right _ (List.mem_of_getElem? (i := 590) (by decide +kernel)), rfl⟩
theorem kd_PL_turnIfAllowed : Cond.code y_PL_turnIfAllowed b_PL_turnIfAllowed (2 : Nat) (Option.none : Option FieldType) ∈ lw_g := List.mem_filter.mpr ⟨List.mem_append_right _ (List.mem_of_getElem? (i := 591) (by decide +kernel)), rfl⟩
theorem km_SE_67 : Cond.methodLink R_SE 67 y_PL_layOut ∈ lw_g := List.mem_filter.mpr ⟨List.mem_append_right _ (List.mem_of_getElem? (i := 592) (by decide +kernel)), rfl⟩
theorem km_SE_71 : Cond.methodLink R_SE 71 y_SE_keepIfBetter ∈ lw_g := List.mem_filter.mpr ⟨List.mem_append_right _ (List.mem_of_getElem? (i := 593) (by decide +kernel)), rfl⟩
theorem kp_SE_keepIfBetter : Cond.privateMethod y_SE_keepIfBetter  ∈ lw_tbl := List.mem_append_right _ (List.mem_of_getElem? (i := 594) (by decide +kernel))
theorem ki_SE_keepIfBetter : Cond.instanceMethod y_SE_keepIfBetter  ∈ lw_g := List.mem_filter.mpr ⟨List.mem_append_right _ (List.mem_of_getElem? (i := 595) (by decide +kernel)), rfl⟩
theorem kd_SE_keepIfBetter : Cond.code y_SE_keepIfBetter b_SE_keepIfBetter (3 : Nat) (Option.none : Option FieldType) ∈ lw_g := List.mem_filter.mpr ⟨List.mem_append_right _ (List.mem_of_getElem? (i := 596) (by decide +kernel)), rfl⟩
theorem km_SB_176 : Cond.methodLink R_SB 176 y_PL_area ∈ lw_g := List.mem_filter.mpr ⟨List.mem_append_right _ (List.mem_of_getElem? (i := 597) (by decide +kernel)), rfl⟩
theorem km_LA_110 : Cond.methodLink R_LA 110 y_LA_at ∈ lw_g := List.mem_filter.mpr ⟨List.mem_append_right _ (List.mem_of_getElem? (i := 598) (by decide +kernel)), rfl⟩
theorem kst_LA_at : Cond.static y_LA_at  ∈ lw_g := List.mem_filter.mpr ⟨List.mem_append_right _ (List.mem_of_getElem? (i := 599) (by decide +kernel)), rfl⟩
theorem kw_LA_at : Cond.codeWith y_LA_at b_LA_at (5 : Nat) (Option.some FieldType.int) [((0 : Nat), (9 : Nat), (12 : Nat), (21 : Nat))] ∈ lw_g := List.mem_filter.mpr ⟨List.mem_append_right _ (List.mem_of_getElem? (i := 600) (by decide +kernel)), rfl⟩
theorem km_LA_46 : Cond.methodLink R_LA 46 y_SB_at ∈ lw_g := List.mem_filter.mpr ⟨List.mem_append_right _ (List.mem_of_getElem? (i := 601) (by decide +kernel)), rfl⟩
theorem ki_SB_at : Cond.instanceMethod y_SB_at  ∈ lw_g := List.mem_filter.mpr ⟨List.mem_append_right _ (List.mem_of_getElem? (i := 602) (by decide +kernel)), rfl⟩
theorem ks_SB_at : Cond.selects R_SB y_SB_at y_SB_at ∈ lw_g := List.mem_filter.mpr ⟨List.mem_append_right _ (List.mem_of_getElem? (i := 603) (by decide +kernel)), rfl⟩
theorem kd_SB_at : Cond.code y_SB_at b_SB_at (4 : Nat) (Option.some FieldType.long) ∈ lw_g := List.mem_filter.mpr ⟨List.mem_append_right _ (List.mem_of_getElem? (i := 604) (by decide +kernel)), rfl⟩
theorem km_LA_113 : Cond.methodLink R_LA 113 y_LA_turned ∈ lw_g := List.mem_filter.mpr ⟨List.mem_append_right _ (List.mem_of_getElem? (i := 606) (by decide +kernel)), rfl⟩
theorem kst_LA_turned : Cond.static y_LA_turned  ∈ lw_g := List.mem_filter.mpr ⟨List.mem_append_right _ (List.mem_of_getElem? (i := 607) (by decide +kernel)), rfl⟩
theorem kw_LA_turned : Cond.codeWith y_LA_turned b_LA_turned (4 : Nat) (Option.some FieldType.int) [((0 : Nat), (16 : Nat), (19 : Nat), (21 : Nat))] ∈ lw_g := List.mem_filter.mpr ⟨List.mem_append_right _ (List.mem_of_getElem? (i := 608) (by decide +kernel)), rfl⟩
theorem km_LA_50 : Cond.methodLink R_LA 50 y_SB_turned ∈ lw_g := List.mem_filter.mpr ⟨List.mem_append_right _ (List.mem_of_getElem? (i := 609) (by decide +kernel)), rfl⟩
theorem ki_SB_turned : Cond.instanceMethod y_SB_turned  ∈ lw_g := List.mem_filter.mpr ⟨List.mem_append_right _ (List.mem_of_getElem? (i := 610) (by decide +kernel)), rfl⟩
theorem ks_SB_turned : Cond.selects R_SB y_SB_turned y_SB_turned ∈ lw_g := List.mem_filter.mpr ⟨List.mem_append_right _ (List.mem_of_getElem? (i := 611) (by decide +kernel)), rfl⟩
theorem kd_SB_turned : Cond.code y_SB_turned b_SB_turned (3 : Nat) (Option.some FieldType.boolean) ∈ lw_g := List.mem_filter.mpr ⟨List.mem_append_right _ (List.mem_of_getElem? (i := 612) (by decide +kernel)), rfl⟩
theorem km_LA_126 : Cond.methodLink R_LA 126 y_LA_pin ∈ lw_g := List.mem_filter.mpr ⟨List.mem_append_right _ (List.mem_of_getElem? (i := 613) (by decide +kernel)), rfl⟩
theorem kst_LA_pin : Cond.static y_LA_pin  ∈ lw_g := List.mem_filter.mpr ⟨List.mem_append_right _ (List.mem_of_getElem? (i := 614) (by decide +kernel)), rfl⟩
theorem kw_LA_pin : Cond.codeWith y_LA_pin b_LA_pin (6 : Nat) (Option.some FieldType.int) [((0 : Nat), (12 : Nat), (15 : Nat), (21 : Nat))] ∈ lw_g := List.mem_filter.mpr ⟨List.mem_append_right _ (List.mem_of_getElem? (i := 615) (by decide +kernel)), rfl⟩
theorem km_LA_54 : Cond.methodLink R_LA 54 y_SB_pin ∈ lw_g := List.mem_filter.mpr ⟨List.mem_append_right _ (List.mem_of_getElem? (i := 616) (by decide +kernel)), rfl⟩
theorem ki_SB_pin : Cond.instanceMethod y_SB_pin  ∈ lw_g := List.mem_filter.mpr ⟨List.mem_append_right _ (List.mem_of_getElem? (i := 617) (by decide +kernel)), rfl⟩
theorem ks_SB_pin : Cond.selects R_SB y_SB_pin y_SB_pin ∈ lw_g := List.mem_filter.mpr ⟨List.mem_append_right _ (List.mem_of_getElem? (i := 618) (by decide +kernel)), rfl⟩
theorem kd_SB_pin : Cond.code y_SB_pin b_SB_pin (5 : Nat) (Option.some FieldType.int) ∈ lw_g := List.mem_filter.mpr ⟨List.mem_append_right _ (List.mem_of_getElem? (i := 619) (by decide +kernel)), rfl⟩
theorem km_SB_199 : Cond.methodLink R_SB 199 y_PI_match ∈ lw_g := List.mem_filter.mpr ⟨List.mem_append_right _ (List.mem_of_getElem? (i := 621) (by decide +kernel)), rfl⟩
theorem ki_PI_match : Cond.instanceMethod y_PI_match  ∈ lw_g := List.mem_filter.mpr ⟨List.mem_append_right _ (List.mem_of_getElem? (i := 622) (by decide +kernel)), rfl⟩
theorem ks_PI_match : Cond.selects R_PI y_PI_match y_PI_match ∈ lw_g := List.mem_filter.mpr ⟨List.mem_append_right _ (List.mem_of_getElem? (i := 623) (by decide +kernel)), rfl⟩
theorem kd_PI_match : Cond.code y_PI_match b_PI_match (4 : Nat) (Option.none : Option FieldType) ∈ lw_g := List.mem_filter.mpr ⟨List.mem_append_right _ (List.mem_of_getElem? (i := 624) (by decide +kernel)), rfl⟩
theorem km_PI_38 : Cond.methodLink R_PI 38 y_PI_gather ∈ lw_g := List.mem_filter.mpr ⟨List.mem_append_right _ (List.mem_of_getElem? (i := 625) (by decide +kernel)), rfl⟩
theorem kp_PI_gather : Cond.privateMethod y_PI_gather  ∈ lw_tbl := List.mem_append_right _ (List.mem_of_getElem? (i := 626) (by decide +kernel))
theorem ki_PI_gather : Cond.instanceMethod y_PI_gather  ∈ lw_g := List.mem_filter.mpr ⟨List.mem_append_right _ (List.mem_of_getElem? (i := 627) (by decide +kernel)), rfl⟩
theorem kd_PI_gather : Cond.code y_PI_gather b_PI_gather (5 : Nat) (Option.none : Option FieldType) ∈ lw_g := List.mem_filter.mpr ⟨List.mem_append_right _ (List.mem_of_getElem? (i := 628) (by decide +kernel)), rfl⟩
theorem km_PI_52 : Cond.methodLink R_PI 52 y_NE_otherEnd ∈ lw_g := List.mem_filter.mpr ⟨List.mem_append_right _ (List.mem_of_getElem? (i := 629) (by decide +kernel)), rfl⟩
theorem ki_NE_otherEnd : Cond.instanceMethod y_NE_otherEnd  ∈ lw_g := List.mem_filter.mpr ⟨List.mem_append_right _ (List.mem_of_getElem? (i := 630) (by decide +kernel)), rfl⟩
theorem ks_NE_otherEnd : Cond.selects R_NE y_NE_otherEnd y_NE_otherEnd ∈ lw_g := List.mem_filter.mpr ⟨List.mem_append_right _ (List.mem_of_getElem? (i := 631) (by decide +kernel)), rfl⟩
theorem kd_NE_otherEnd : Cond.code y_NE_otherEnd b_NE_otherEnd (3 : Nat) (Option.some FieldType.int) ∈ lw_g := List.mem_filter.mpr ⟨List.mem_append_right _ (List.mem_of_getElem? (i := 632) (by decide +kernel)), rfl⟩
theorem km_PI_55 : Cond.methodLink R_PI 55 y_PL_gapOfSide ∈ lw_g := List.mem_filter.mpr ⟨List.mem_append_right _ (List.mem_of_getElem? (i := 633) (by decide +kernel)), rfl⟩
theorem ki_PL_gapOfSide : Cond.instanceMethod y_PL_gapOfSide  ∈ lw_g := List.mem_filter.mpr ⟨List.mem_append_right _ (List.mem_of_getElem? (i := 634) (by decide +kernel)), rfl⟩
theorem ks_PL_gapOfSide : Cond.selects R_PL y_PL_gapOfSide y_PL_gapOfSide ∈ lw_g := List.mem_filter.mpr ⟨List.mem_append_right _ (List.mem_of_getElem? (i := 635) (by decide +kernel)), rfl⟩
theorem kd_PL_gapOfSide : Cond.code y_PL_gapOfSide b_PL_gapOfSide (7 : Nat) (Option.some FieldType.int) ∈ lw_g := List.mem_filter.mpr ⟨List.mem_append_right _ (List.mem_of_getElem? (i := 636) (by decide +kernel)), rfl⟩
theorem km_PI_42 : Cond.methodLink R_PI 42 y_PI_leastCost ∈ lw_g := List.mem_filter.mpr ⟨List.mem_append_right _ (List.mem_of_getElem? (i := 637) (by decide +kernel)), rfl⟩
theorem kp_PI_leastCost : Cond.privateMethod y_PI_leastCost  ∈ lw_tbl := List.mem_append_right _ (List.mem_of_getElem? (i := 638) (by decide +kernel))
theorem ki_PI_leastCost : Cond.instanceMethod y_PI_leastCost  ∈ lw_g := List.mem_filter.mpr ⟨List.mem_append_right _ (List.mem_of_getElem? (i := 639) (by decide +kernel)), rfl⟩
theorem kd_PI_leastCost : Cond.code y_PI_leastCost b_PI_leastCost (5 : Nat) (Option.some FieldType.int) ∈ lw_g := List.mem_filter.mpr ⟨List.mem_append_right _ (List.mem_of_getElem? (i := 640) (by decide +kernel)), rfl⟩
theorem kL_PI_61 : Cond.constant R_PI 61 (268435456 : Int32) ∈ lw_g := List.mem_filter.mpr ⟨List.mem_append_right _ (List.mem_of_getElem? (i := 641) (by decide +kernel)), rfl⟩
theorem km_PI_62 : Cond.methodLink R_PI 62 y_PI_costWith ∈ lw_g := List.mem_filter.mpr ⟨List.mem_append_right _ (List.mem_of_getElem? (i := 642) (by decide +kernel)), rfl⟩
theorem kp_PI_costWith : Cond.privateMethod y_PI_costWith  ∈ lw_tbl := List.mem_append_right _ (List.mem_of_getElem? (i := 643) (by decide +kernel))
theorem ki_PI_costWith : Cond.instanceMethod y_PI_costWith  ∈ lw_g := List.mem_filter.mpr ⟨List.mem_append_right _ (List.mem_of_getElem? (i := 644) (by decide +kernel)), rfl⟩
theorem kd_PI_costWith : Cond.code y_PI_costWith b_PI_costWith (5 : Nat) (Option.some FieldType.int) ∈ lw_g := List.mem_filter.mpr ⟨List.mem_append_right _ (List.mem_of_getElem? (i := 645) (by decide +kernel)), rfl⟩
theorem kf_PI_70 : Cond.fieldLink R_PI 70 R_PI "ONE_AT_SIDE" "[I" ∈ lw_g := List.mem_filter.mpr ⟨List.mem_append_right _ (List.mem_of_getElem? (i := 646) (by decide +kernel)), rfl⟩
theorem km_PI_65 : Cond.methodLink R_PI 65 ⟨R_JMath, "min", "(II)I"⟩ ∈ lw_g := List.mem_filter.mpr ⟨List.mem_append_right _ (List.mem_of_getElem? (i := 648) (by decide +kernel)), rfl⟩
theorem km_PI_46 : Cond.methodLink R_PI 46 y_PI_choose ∈ lw_g := List.mem_filter.mpr ⟨List.mem_append_right _ (List.mem_of_getElem? (i := 651) (by decide +kernel)), rfl⟩
theorem kp_PI_choose : Cond.privateMethod y_PI_choose  ∈ lw_tbl := List.mem_append_right _ (List.mem_of_getElem? (i := 652) (by decide +kernel))
theorem ki_PI_choose : Cond.instanceMethod y_PI_choose  ∈ lw_g := List.mem_filter.mpr ⟨List.mem_append_right _ (List.mem_of_getElem? (i := 653) (by decide +kernel)), rfl⟩
theorem kd_PI_choose : Cond.code y_PI_choose b_PI_choose (4 : Nat) (Option.none : Option FieldType) ∈ lw_g := List.mem_filter.mpr ⟨List.mem_append_right _ (List.mem_of_getElem? (i := 654) (by decide +kernel)), rfl⟩
theorem km_SB_202 : Cond.methodLink R_SB 202 y_PI_netAt ∈ lw_g := List.mem_filter.mpr ⟨List.mem_append_right _ (List.mem_of_getElem? (i := 655) (by decide +kernel)), rfl⟩
theorem ki_PI_netAt : Cond.instanceMethod y_PI_netAt  ∈ lw_g := List.mem_filter.mpr ⟨List.mem_append_right _ (List.mem_of_getElem? (i := 656) (by decide +kernel)), rfl⟩
theorem ks_PI_netAt : Cond.selects R_PI y_PI_netAt y_PI_netAt ∈ lw_g := List.mem_filter.mpr ⟨List.mem_append_right _ (List.mem_of_getElem? (i := 657) (by decide +kernel)), rfl⟩
theorem kd_PI_netAt : Cond.code y_PI_netAt b_PI_netAt (5 : Nat) (Option.some FieldType.int) ∈ lw_g := List.mem_filter.mpr ⟨List.mem_append_right _ (List.mem_of_getElem? (i := 658) (by decide +kernel)), rfl⟩
theorem km_LA_129 : Cond.methodLink R_LA 129 y_LA_outline ∈ lw_g := List.mem_filter.mpr ⟨List.mem_append_right _ (List.mem_of_getElem? (i := 659) (by decide +kernel)), rfl⟩
theorem kst_LA_outline : Cond.static y_LA_outline  ∈ lw_g := List.mem_filter.mpr ⟨List.mem_append_right _ (List.mem_of_getElem? (i := 660) (by decide +kernel)), rfl⟩
theorem kw_LA_outline : Cond.codeWith y_LA_outline b_LA_outline (7 : Nat) (Option.some FieldType.int) [((0 : Nat), (18 : Nat), (21 : Nat), (15 : Nat))] ∈ lw_g := List.mem_filter.mpr ⟨List.mem_append_right _ (List.mem_of_getElem? (i := 661) (by decide +kernel)), rfl⟩
theorem km_LA_58 : Cond.methodLink R_LA 58 y_SB_outline ∈ lw_g := List.mem_filter.mpr ⟨List.mem_append_right _ (List.mem_of_getElem? (i := 662) (by decide +kernel)), rfl⟩
theorem ki_SB_outline : Cond.instanceMethod y_SB_outline  ∈ lw_g := List.mem_filter.mpr ⟨List.mem_append_right _ (List.mem_of_getElem? (i := 663) (by decide +kernel)), rfl⟩
theorem ks_SB_outline : Cond.selects R_SB y_SB_outline y_SB_outline ∈ lw_g := List.mem_filter.mpr ⟨List.mem_append_right _ (List.mem_of_getElem? (i := 664) (by decide +kernel)), rfl⟩
theorem kd_SB_outline : Cond.code y_SB_outline b_SB_outline (5 : Nat) (Option.some FieldType.boolean) ∈ lw_g := List.mem_filter.mpr ⟨List.mem_append_right _ (List.mem_of_getElem? (i := 665) (by decide +kernel)), rfl⟩
theorem kc_LA_71 : Cond.classLink R_LA 71 R_MO ∈ lw_g := List.mem_filter.mpr ⟨List.mem_append_right _ (List.mem_of_getElem? (i := 667) (by decide +kernel)), rfl⟩
theorem kI_MO : Cond.instantiable R_MO 32 ∈ lw_g := List.mem_filter.mpr ⟨List.mem_append_right _ (List.mem_of_getElem? (i := 668) (by decide +kernel)), rfl⟩
theorem km_LA_73 : Cond.methodLink R_LA 73 y_MO_init ∈ lw_g := List.mem_filter.mpr ⟨List.mem_append_right _ (List.mem_of_getElem? (i := 669) (by decide +kernel)), rfl⟩
theorem ki_MO_init : Cond.instanceMethod y_MO_init  ∈ lw_g := List.mem_filter.mpr ⟨List.mem_append_right _ (List.mem_of_getElem? (i := 670) (by decide +kernel)), rfl⟩
theorem kd_MO_init : Cond.code y_MO_init b_MO_init (3 : Nat) (Option.none : Option FieldType) ∈ lw_g := List.mem_filter.mpr ⟨List.mem_append_right _ (List.mem_of_getElem? (i := 671) (by decide +kernel)), rfl⟩
theorem km_MO_1 : Cond.methodLink R_MO 1 ⟨R_JObj, "<init>", "()V"⟩ ∈ lw_g := List.mem_filter.mpr ⟨List.mem_append_right _ (List.mem_of_getElem? (i := 672) (by decide +kernel)), rfl⟩
theorem kf_MO_97 : Cond.fieldLink R_MO 97 R_MO "code" "I" ∈ lw_g := List.mem_filter.mpr ⟨List.mem_append_right _ (List.mem_of_getElem? (i := 673) (by decide +kernel)), rfl⟩
theorem kf_MO_93 : Cond.fieldLink R_MO 93 R_MO "state" "J" ∈ lw_g := List.mem_filter.mpr ⟨List.mem_append_right _ (List.mem_of_getElem? (i := 674) (by decide +kernel)), rfl⟩
theorem kf_MO_7 : Cond.fieldLink R_MO 7 R_MO "firsts" "[I" ∈ lw_g := List.mem_filter.mpr ⟨List.mem_append_right _ (List.mem_of_getElem? (i := 675) (by decide +kernel)), rfl⟩
theorem kf_MO_13 : Cond.fieldLink R_MO 13 R_MO "seconds" "[I" ∈ lw_g := List.mem_filter.mpr ⟨List.mem_append_right _ (List.mem_of_getElem? (i := 676) (by decide +kernel)), rfl⟩
theorem kf_MO_16 : Cond.fieldLink R_MO 16 R_MO "acrosses" "[Z" ∈ lw_g := List.mem_filter.mpr ⟨List.mem_append_right _ (List.mem_of_getElem? (i := 677) (by decide +kernel)), rfl⟩
theorem kf_MO_20 : Cond.fieldLink R_MO 20 R_MO "used" "[Z" ∈ lw_g := List.mem_filter.mpr ⟨List.mem_append_right _ (List.mem_of_getElem? (i := 678) (by decide +kernel)), rfl⟩
theorem kf_MO_23 : Cond.fieldLink R_MO 23 R_MO "widths" "[J" ∈ lw_g := List.mem_filter.mpr ⟨List.mem_append_right _ (List.mem_of_getElem? (i := 679) (by decide +kernel)), rfl⟩
theorem kf_MO_27 : Cond.fieldLink R_MO 27 R_MO "heights" "[J" ∈ lw_g := List.mem_filter.mpr ⟨List.mem_append_right _ (List.mem_of_getElem? (i := 680) (by decide +kernel)), rfl⟩
theorem kf_MO_30 : Cond.fieldLink R_MO 30 R_MO "shapeCounts" "[I" ∈ lw_g := List.mem_filter.mpr ⟨List.mem_append_right _ (List.mem_of_getElem? (i := 681) (by decide +kernel)), rfl⟩
theorem kf_MO_108 : Cond.fieldLink R_MO 108 R_MO "things" "I" ∈ lw_g := List.mem_filter.mpr ⟨List.mem_append_right _ (List.mem_of_getElem? (i := 682) (by decide +kernel)), rfl⟩
theorem kf_MO_33 : Cond.fieldLink R_MO 33 R_MO "blockThings" "[I" ∈ lw_g := List.mem_filter.mpr ⟨List.mem_append_right _ (List.mem_of_getElem? (i := 683) (by decide +kernel)), rfl⟩
theorem kf_MO_36 : Cond.fieldLink R_MO 36 R_MO "sideA" "[J" ∈ lw_g := List.mem_filter.mpr ⟨List.mem_append_right _ (List.mem_of_getElem? (i := 684) (by decide +kernel)), rfl⟩
theorem kf_MO_39 : Cond.fieldLink R_MO 39 R_MO "sideB" "[J" ∈ lw_g := List.mem_filter.mpr ⟨List.mem_append_right _ (List.mem_of_getElem? (i := 685) (by decide +kernel)), rfl⟩
theorem kf_MO_42 : Cond.fieldLink R_MO 42 R_MO "turnable" "[Z" ∈ lw_g := List.mem_filter.mpr ⟨List.mem_append_right _ (List.mem_of_getElem? (i := 686) (by decide +kernel)), rfl⟩
theorem kf_MO_45 : Cond.fieldLink R_MO 45 R_MO "fixed" "[Z" ∈ lw_g := List.mem_filter.mpr ⟨List.mem_append_right _ (List.mem_of_getElem? (i := 687) (by decide +kernel)), rfl⟩
theorem kf_MO_48 : Cond.fieldLink R_MO 48 R_MO "fixedX" "[J" ∈ lw_g := List.mem_filter.mpr ⟨List.mem_append_right _ (List.mem_of_getElem? (i := 688) (by decide +kernel)), rfl⟩
theorem kf_MO_51 : Cond.fieldLink R_MO 51 R_MO "fixedY" "[J" ∈ lw_g := List.mem_filter.mpr ⟨List.mem_append_right _ (List.mem_of_getElem? (i := 689) (by decide +kernel)), rfl⟩
theorem kf_MO_105 : Cond.fieldLink R_MO 105 R_MO "blocks" "I" ∈ lw_g := List.mem_filter.mpr ⟨List.mem_append_right _ (List.mem_of_getElem? (i := 690) (by decide +kernel)), rfl⟩
theorem kf_MO_54 : Cond.fieldLink R_MO 54 R_MO "netA" "[I" ∈ lw_g := List.mem_filter.mpr ⟨List.mem_append_right _ (List.mem_of_getElem? (i := 691) (by decide +kernel)), rfl⟩
theorem kf_MO_57 : Cond.fieldLink R_MO 57 R_MO "netB" "[I" ∈ lw_g := List.mem_filter.mpr ⟨List.mem_append_right _ (List.mem_of_getElem? (i := 692) (by decide +kernel)), rfl⟩
theorem kf_MO_136 : Cond.fieldLink R_MO 136 R_MO "nets" "I" ∈ lw_g := List.mem_filter.mpr ⟨List.mem_append_right _ (List.mem_of_getElem? (i := 693) (by decide +kernel)), rfl⟩
theorem kf_MO_60 : Cond.fieldLink R_MO 60 R_MO "one" "[I" ∈ lw_g := List.mem_filter.mpr ⟨List.mem_append_right _ (List.mem_of_getElem? (i := 694) (by decide +kernel)), rfl⟩
theorem kf_MO_63 : Cond.fieldLink R_MO 63 R_MO "two" "[I" ∈ lw_g := List.mem_filter.mpr ⟨List.mem_append_right _ (List.mem_of_getElem? (i := 695) (by decide +kernel)), rfl⟩
theorem kf_MO_66 : Cond.fieldLink R_MO 66 R_MO "turnedNow" "[Z" ∈ lw_g := List.mem_filter.mpr ⟨List.mem_append_right _ (List.mem_of_getElem? (i := 696) (by decide +kernel)), rfl⟩
theorem kf_MO_69 : Cond.fieldLink R_MO 69 R_MO "x" "[J" ∈ lw_g := List.mem_filter.mpr ⟨List.mem_append_right _ (List.mem_of_getElem? (i := 697) (by decide +kernel)), rfl⟩
theorem kf_MO_72 : Cond.fieldLink R_MO 72 R_MO "y" "[J" ∈ lw_g := List.mem_filter.mpr ⟨List.mem_append_right _ (List.mem_of_getElem? (i := 698) (by decide +kernel)), rfl⟩
theorem kf_MO_75 : Cond.fieldLink R_MO 75 R_MO "allW" "[J" ∈ lw_g := List.mem_filter.mpr ⟨List.mem_append_right _ (List.mem_of_getElem? (i := 699) (by decide +kernel)), rfl⟩
theorem kf_MO_78 : Cond.fieldLink R_MO 78 R_MO "allH" "[J" ∈ lw_g := List.mem_filter.mpr ⟨List.mem_append_right _ (List.mem_of_getElem? (i := 700) (by decide +kernel)), rfl⟩
theorem kf_MO_81 : Cond.fieldLink R_MO 81 R_MO "costs" "[J" ∈ lw_g := List.mem_filter.mpr ⟨List.mem_append_right _ (List.mem_of_getElem? (i := 701) (by decide +kernel)), rfl⟩
theorem kf_MO_84 : Cond.fieldLink R_MO 84 R_MO "own" "[I" ∈ lw_g := List.mem_filter.mpr ⟨List.mem_append_right _ (List.mem_of_getElem? (i := 702) (by decide +kernel)), rfl⟩
theorem kf_MO_87 : Cond.fieldLink R_MO 87 R_MO "sides" "[I" ∈ lw_g := List.mem_filter.mpr ⟨List.mem_append_right _ (List.mem_of_getElem? (i := 703) (by decide +kernel)), rfl⟩
theorem kf_MO_90 : Cond.fieldLink R_MO 90 R_MO "best" "[I" ∈ lw_g := List.mem_filter.mpr ⟨List.mem_append_right _ (List.mem_of_getElem? (i := 704) (by decide +kernel)), rfl⟩
theorem ka_770 : Cond.arrayClass FieldType.long ∈ lw_g := List.mem_filter.mpr ⟨List.mem_append_right _ (List.mem_of_getElem? (i := 770) (by decide +kernel)), rfl⟩
theorem km_LA_80 : Cond.methodLink R_LA 80 y_MO_thrown ∈ lw_g := List.mem_filter.mpr ⟨List.mem_append_right _ (List.mem_of_getElem? (i := 771) (by decide +kernel)), rfl⟩
theorem ki_MO_thrown : Cond.instanceMethod y_MO_thrown  ∈ lw_g := List.mem_filter.mpr ⟨List.mem_append_right _ (List.mem_of_getElem? (i := 772) (by decide +kernel)), rfl⟩
theorem ks_MO_thrown : Cond.selects R_MO y_MO_thrown y_MO_thrown ∈ lw_g := List.mem_filter.mpr ⟨List.mem_append_right _ (List.mem_of_getElem? (i := 773) (by decide +kernel)), rfl⟩
theorem kd_MO_thrown : Cond.code y_MO_thrown b_MO_thrown (1 : Nat) (Option.some FieldType.int) ∈ lw_g := List.mem_filter.mpr ⟨List.mem_append_right _ (List.mem_of_getElem? (i := 774) (by decide +kernel)), rfl⟩
theorem km_LA_79 : Cond.methodLink R_LA 79 y_MO_block ∈ lw_g := List.mem_filter.mpr ⟨List.mem_append_right _ (List.mem_of_getElem? (i := 775) (by decide +kernel)), rfl⟩
theorem ki_MO_block : Cond.instanceMethod y_MO_block  ∈ lw_g := List.mem_filter.mpr ⟨List.mem_append_right _ (List.mem_of_getElem? (i := 776) (by decide +kernel)), rfl⟩
theorem ks_MO_block : Cond.selects R_MO y_MO_block y_MO_block ∈ lw_g := List.mem_filter.mpr ⟨List.mem_append_right _ (List.mem_of_getElem? (i := 777) (by decide +kernel)), rfl⟩
theorem kd_MO_block : Cond.code y_MO_block b_MO_block (7 : Nat) (Option.some FieldType.int) ∈ lw_g := List.mem_filter.mpr ⟨List.mem_append_right _ (List.mem_of_getElem? (i := 778) (by decide +kernel)), rfl⟩
theorem kL_MO_111 : Cond.constantLong R_MO 111 (1000 : Int64) ∈ lw_g := List.mem_filter.mpr ⟨List.mem_append_right _ (List.mem_of_getElem? (i := 779) (by decide +kernel)), rfl⟩
theorem km_MO_113 : Cond.methodLink R_MO 113 y_MO_settle ∈ lw_g := List.mem_filter.mpr ⟨List.mem_append_right _ (List.mem_of_getElem? (i := 780) (by decide +kernel)), rfl⟩
theorem kp_MO_settle : Cond.privateMethod y_MO_settle  ∈ lw_tbl := List.mem_append_right _ (List.mem_of_getElem? (i := 781) (by decide +kernel))
theorem ki_MO_settle : Cond.instanceMethod y_MO_settle  ∈ lw_g := List.mem_filter.mpr ⟨List.mem_append_right _ (List.mem_of_getElem? (i := 782) (by decide +kernel)), rfl⟩
theorem kd_MO_settle : Cond.code y_MO_settle b_MO_settle (8 : Nat) (Option.none : Option FieldType) ∈ lw_g := List.mem_filter.mpr ⟨List.mem_append_right _ (List.mem_of_getElem? (i := 783) (by decide +kernel)), rfl⟩
theorem km_LA_95 : Cond.methodLink R_LA 95 y_MO_slice ∈ lw_g := List.mem_filter.mpr ⟨List.mem_append_right _ (List.mem_of_getElem? (i := 784) (by decide +kernel)), rfl⟩
theorem ki_MO_slice : Cond.instanceMethod y_MO_slice  ∈ lw_g := List.mem_filter.mpr ⟨List.mem_append_right _ (List.mem_of_getElem? (i := 785) (by decide +kernel)), rfl⟩
theorem ks_MO_slice : Cond.selects R_MO y_MO_slice y_MO_slice ∈ lw_g := List.mem_filter.mpr ⟨List.mem_append_right _ (List.mem_of_getElem? (i := 786) (by decide +kernel)), rfl⟩
theorem kd_MO_slice : Cond.code y_MO_slice b_MO_slice (15 : Nat) (Option.some FieldType.int) ∈ lw_g := List.mem_filter.mpr ⟨List.mem_append_right _ (List.mem_of_getElem? (i := 787) (by decide +kernel)), rfl⟩
theorem km_MO_117 : Cond.methodLink R_MO 117 y_MO_isThing ∈ lw_g := List.mem_filter.mpr ⟨List.mem_append_right _ (List.mem_of_getElem? (i := 788) (by decide +kernel)), rfl⟩
theorem kp_MO_isThing : Cond.privateMethod y_MO_isThing  ∈ lw_tbl := List.mem_append_right _ (List.mem_of_getElem? (i := 789) (by decide +kernel))
theorem ki_MO_isThing : Cond.instanceMethod y_MO_isThing  ∈ lw_g := List.mem_filter.mpr ⟨List.mem_append_right _ (List.mem_of_getElem? (i := 790) (by decide +kernel)), rfl⟩
theorem kd_MO_isThing : Cond.code y_MO_isThing b_MO_isThing (2 : Nat) (Option.some FieldType.boolean) ∈ lw_g := List.mem_filter.mpr ⟨List.mem_append_right _ (List.mem_of_getElem? (i := 791) (by decide +kernel)), rfl⟩
theorem km_LA_99 : Cond.methodLink R_LA 99 y_MO_shapes ∈ lw_g := List.mem_filter.mpr ⟨List.mem_append_right _ (List.mem_of_getElem? (i := 792) (by decide +kernel)), rfl⟩
theorem ki_MO_shapes : Cond.instanceMethod y_MO_shapes  ∈ lw_g := List.mem_filter.mpr ⟨List.mem_append_right _ (List.mem_of_getElem? (i := 793) (by decide +kernel)), rfl⟩
theorem ks_MO_shapes : Cond.selects R_MO y_MO_shapes y_MO_shapes ∈ lw_g := List.mem_filter.mpr ⟨List.mem_append_right _ (List.mem_of_getElem? (i := 794) (by decide +kernel)), rfl⟩
theorem kd_MO_shapes : Cond.code y_MO_shapes b_MO_shapes (2 : Nat) (Option.some FieldType.int) ∈ lw_g := List.mem_filter.mpr ⟨List.mem_append_right _ (List.mem_of_getElem? (i := 795) (by decide +kernel)), rfl⟩
theorem km_LA_103 : Cond.methodLink R_LA 103 y_MO_shape ∈ lw_g := List.mem_filter.mpr ⟨List.mem_append_right _ (List.mem_of_getElem? (i := 796) (by decide +kernel)), rfl⟩
theorem ki_MO_shape : Cond.instanceMethod y_MO_shape  ∈ lw_g := List.mem_filter.mpr ⟨List.mem_append_right _ (List.mem_of_getElem? (i := 797) (by decide +kernel)), rfl⟩
theorem ks_MO_shape : Cond.selects R_MO y_MO_shape y_MO_shape ∈ lw_g := List.mem_filter.mpr ⟨List.mem_append_right _ (List.mem_of_getElem? (i := 798) (by decide +kernel)), rfl⟩
theorem kd_MO_shape : Cond.code y_MO_shape b_MO_shape (4 : Nat) (Option.some FieldType.long) ∈ lw_g := List.mem_filter.mpr ⟨List.mem_append_right _ (List.mem_of_getElem? (i := 799) (by decide +kernel)), rfl⟩
theorem km_LA_106 : Cond.methodLink R_LA 106 y_MO_least ∈ lw_g := List.mem_filter.mpr ⟨List.mem_append_right _ (List.mem_of_getElem? (i := 800) (by decide +kernel)), rfl⟩
theorem ki_MO_least : Cond.instanceMethod y_MO_least  ∈ lw_g := List.mem_filter.mpr ⟨List.mem_append_right _ (List.mem_of_getElem? (i := 801) (by decide +kernel)), rfl⟩
theorem ks_MO_least : Cond.selects R_MO y_MO_least y_MO_least ∈ lw_g := List.mem_filter.mpr ⟨List.mem_append_right _ (List.mem_of_getElem? (i := 802) (by decide +kernel)), rfl⟩
theorem kd_MO_least : Cond.code y_MO_least b_MO_least (7 : Nat) (Option.some FieldType.long) ∈ lw_g := List.mem_filter.mpr ⟨List.mem_append_right _ (List.mem_of_getElem? (i := 803) (by decide +kernel)), rfl⟩
theorem km_LA_87 : Cond.methodLink R_LA 87 y_MO_fix ∈ lw_g := List.mem_filter.mpr ⟨List.mem_append_right _ (List.mem_of_getElem? (i := 804) (by decide +kernel)), rfl⟩
theorem ki_MO_fix : Cond.instanceMethod y_MO_fix  ∈ lw_g := List.mem_filter.mpr ⟨List.mem_append_right _ (List.mem_of_getElem? (i := 805) (by decide +kernel)), rfl⟩
theorem ks_MO_fix : Cond.selects R_MO y_MO_fix y_MO_fix ∈ lw_g := List.mem_filter.mpr ⟨List.mem_append_right _ (List.mem_of_getElem? (i := 806) (by decide +kernel)), rfl⟩
theorem kd_MO_fix : Cond.code y_MO_fix b_MO_fix (12 : Nat) (Option.some FieldType.boolean) ∈ lw_g := List.mem_filter.mpr ⟨List.mem_append_right _ (List.mem_of_getElem? (i := 807) (by decide +kernel)), rfl⟩
theorem km_MO_145 : Cond.methodLink R_MO 145 y_MO_blockOf ∈ lw_g := List.mem_filter.mpr ⟨List.mem_append_right _ (List.mem_of_getElem? (i := 808) (by decide +kernel)), rfl⟩
theorem kp_MO_blockOf : Cond.privateMethod y_MO_blockOf  ∈ lw_tbl := List.mem_append_right _ (List.mem_of_getElem? (i := 809) (by decide +kernel))
theorem ki_MO_blockOf : Cond.instanceMethod y_MO_blockOf  ∈ lw_g := List.mem_filter.mpr ⟨List.mem_append_right _ (List.mem_of_getElem? (i := 810) (by decide +kernel)), rfl⟩
theorem kd_MO_blockOf : Cond.code y_MO_blockOf b_MO_blockOf (3 : Nat) (Option.some FieldType.int) ∈ lw_g := List.mem_filter.mpr ⟨List.mem_append_right _ (List.mem_of_getElem? (i := 811) (by decide +kernel)), rfl⟩
theorem kL_MO_149 : Cond.constantLong R_MO 149 (20000 : Int64) ∈ lw_g := List.mem_filter.mpr ⟨List.mem_append_right _ (List.mem_of_getElem? (i := 812) (by decide +kernel)), rfl⟩
theorem km_MO_151 : Cond.methodLink R_MO 151 y_MO_isLaid ∈ lw_g := List.mem_filter.mpr ⟨List.mem_append_right _ (List.mem_of_getElem? (i := 813) (by decide +kernel)), rfl⟩
theorem kp_MO_isLaid : Cond.privateMethod y_MO_isLaid  ∈ lw_tbl := List.mem_append_right _ (List.mem_of_getElem? (i := 814) (by decide +kernel))
theorem ki_MO_isLaid : Cond.instanceMethod y_MO_isLaid  ∈ lw_g := List.mem_filter.mpr ⟨List.mem_append_right _ (List.mem_of_getElem? (i := 815) (by decide +kernel)), rfl⟩
theorem kd_MO_isLaid : Cond.code y_MO_isLaid b_MO_isLaid (8 : Nat) (Option.some FieldType.boolean) ∈ lw_g := List.mem_filter.mpr ⟨List.mem_append_right _ (List.mem_of_getElem? (i := 816) (by decide +kernel)), rfl⟩
theorem km_MO_121 : Cond.methodLink R_MO 121 y_MO_place ∈ lw_g := List.mem_filter.mpr ⟨List.mem_append_right _ (List.mem_of_getElem? (i := 817) (by decide +kernel)), rfl⟩
theorem kst_MO_place : Cond.static y_MO_place  ∈ lw_g := List.mem_filter.mpr ⟨List.mem_append_right _ (List.mem_of_getElem? (i := 818) (by decide +kernel)), rfl⟩
theorem kd_MO_place : Cond.code y_MO_place b_MO_place (4 : Nat) (Option.some FieldType.int) ∈ lw_g := List.mem_filter.mpr ⟨List.mem_append_right _ (List.mem_of_getElem? (i := 819) (by decide +kernel)), rfl⟩
theorem km_MO_125 : Cond.methodLink R_MO 125 y_MO_wide ∈ lw_g := List.mem_filter.mpr ⟨List.mem_append_right _ (List.mem_of_getElem? (i := 820) (by decide +kernel)), rfl⟩
theorem kp_MO_wide : Cond.privateMethod y_MO_wide  ∈ lw_tbl := List.mem_append_right _ (List.mem_of_getElem? (i := 821) (by decide +kernel))
theorem ki_MO_wide : Cond.instanceMethod y_MO_wide  ∈ lw_g := List.mem_filter.mpr ⟨List.mem_append_right _ (List.mem_of_getElem? (i := 822) (by decide +kernel)), rfl⟩
theorem kd_MO_wide : Cond.code y_MO_wide b_MO_wide (3 : Nat) (Option.some FieldType.long) ∈ lw_g := List.mem_filter.mpr ⟨List.mem_append_right _ (List.mem_of_getElem? (i := 823) (by decide +kernel)), rfl⟩
theorem km_MO_129 : Cond.methodLink R_MO 129 y_MO_high ∈ lw_g := List.mem_filter.mpr ⟨List.mem_append_right _ (List.mem_of_getElem? (i := 824) (by decide +kernel)), rfl⟩
theorem kp_MO_high : Cond.privateMethod y_MO_high  ∈ lw_tbl := List.mem_append_right _ (List.mem_of_getElem? (i := 825) (by decide +kernel))
theorem ki_MO_high : Cond.instanceMethod y_MO_high  ∈ lw_g := List.mem_filter.mpr ⟨List.mem_append_right _ (List.mem_of_getElem? (i := 826) (by decide +kernel)), rfl⟩
theorem kd_MO_high : Cond.code y_MO_high b_MO_high (3 : Nat) (Option.some FieldType.long) ∈ lw_g := List.mem_filter.mpr ⟨List.mem_append_right _ (List.mem_of_getElem? (i := 827) (by decide +kernel)), rfl⟩
theorem km_LA_91 : Cond.methodLink R_LA 91 y_MO_net ∈ lw_g := List.mem_filter.mpr ⟨List.mem_append_right _ (List.mem_of_getElem? (i := 828) (by decide +kernel)), rfl⟩
theorem ki_MO_net : Cond.instanceMethod y_MO_net  ∈ lw_g := List.mem_filter.mpr ⟨List.mem_append_right _ (List.mem_of_getElem? (i := 829) (by decide +kernel)), rfl⟩
theorem ks_MO_net : Cond.selects R_MO y_MO_net y_MO_net ∈ lw_g := List.mem_filter.mpr ⟨List.mem_append_right _ (List.mem_of_getElem? (i := 830) (by decide +kernel)), rfl⟩
theorem kd_MO_net : Cond.code y_MO_net b_MO_net (5 : Nat) (Option.some FieldType.int) ∈ lw_g := List.mem_filter.mpr ⟨List.mem_append_right _ (List.mem_of_getElem? (i := 831) (by decide +kernel)), rfl⟩
theorem km_MO_154 : Cond.methodLink R_MO 154 y_MO_degree ∈ lw_g := List.mem_filter.mpr ⟨List.mem_append_right _ (List.mem_of_getElem? (i := 832) (by decide +kernel)), rfl⟩
theorem kp_MO_degree : Cond.privateMethod y_MO_degree  ∈ lw_tbl := List.mem_append_right _ (List.mem_of_getElem? (i := 833) (by decide +kernel))
theorem ki_MO_degree : Cond.instanceMethod y_MO_degree  ∈ lw_g := List.mem_filter.mpr ⟨List.mem_append_right _ (List.mem_of_getElem? (i := 834) (by decide +kernel)), rfl⟩
theorem kd_MO_degree : Cond.code y_MO_degree b_MO_degree (4 : Nat) (Option.some FieldType.int) ∈ lw_g := List.mem_filter.mpr ⟨List.mem_append_right _ (List.mem_of_getElem? (i := 835) (by decide +kernel)), rfl⟩
theorem km_LA_109 : Cond.methodLink R_LA 109 y_MO_pair ∈ lw_g := List.mem_filter.mpr ⟨List.mem_append_right _ (List.mem_of_getElem? (i := 836) (by decide +kernel)), rfl⟩
theorem ki_MO_pair : Cond.instanceMethod y_MO_pair  ∈ lw_g := List.mem_filter.mpr ⟨List.mem_append_right _ (List.mem_of_getElem? (i := 837) (by decide +kernel)), rfl⟩
theorem ks_MO_pair : Cond.selects R_MO y_MO_pair y_MO_pair ∈ lw_g := List.mem_filter.mpr ⟨List.mem_append_right _ (List.mem_of_getElem? (i := 838) (by decide +kernel)), rfl⟩
theorem kd_MO_pair : Cond.code y_MO_pair b_MO_pair (18 : Nat) (Option.some FieldType.int) ∈ lw_g := List.mem_filter.mpr ⟨List.mem_append_right _ (List.mem_of_getElem? (i := 839) (by decide +kernel)), rfl⟩
theorem km_MO_164 : Cond.methodLink R_MO 164 y_MO_area ∈ lw_g := List.mem_filter.mpr ⟨List.mem_append_right _ (List.mem_of_getElem? (i := 840) (by decide +kernel)), rfl⟩
theorem kp_MO_area : Cond.privateMethod y_MO_area  ∈ lw_tbl := List.mem_append_right _ (List.mem_of_getElem? (i := 841) (by decide +kernel))
theorem ki_MO_area : Cond.instanceMethod y_MO_area  ∈ lw_g := List.mem_filter.mpr ⟨List.mem_append_right _ (List.mem_of_getElem? (i := 842) (by decide +kernel)), rfl⟩
theorem kd_MO_area : Cond.code y_MO_area b_MO_area (2 : Nat) (Option.some FieldType.long) ∈ lw_g := List.mem_filter.mpr ⟨List.mem_append_right _ (List.mem_of_getElem? (i := 843) (by decide +kernel)), rfl⟩
theorem km_MO_132 : Cond.methodLink R_MO 132 y_MO_edge ∈ lw_g := List.mem_filter.mpr ⟨List.mem_append_right _ (List.mem_of_getElem? (i := 844) (by decide +kernel)), rfl⟩
theorem kp_MO_edge : Cond.privateMethod y_MO_edge  ∈ lw_tbl := List.mem_append_right _ (List.mem_of_getElem? (i := 845) (by decide +kernel))
theorem ki_MO_edge : Cond.instanceMethod y_MO_edge  ∈ lw_g := List.mem_filter.mpr ⟨List.mem_append_right _ (List.mem_of_getElem? (i := 846) (by decide +kernel)), rfl⟩
theorem kd_MO_edge : Cond.code y_MO_edge b_MO_edge (8 : Nat) (Option.some FieldType.long) ∈ lw_g := List.mem_filter.mpr ⟨List.mem_append_right _ (List.mem_of_getElem? (i := 847) (by decide +kernel)), rfl⟩
theorem km_MO_168 : Cond.methodLink R_MO 168 y_MO_wireOf ∈ lw_g := List.mem_filter.mpr ⟨List.mem_append_right _ (List.mem_of_getElem? (i := 848) (by decide +kernel)), rfl⟩
theorem kp_MO_wireOf : Cond.privateMethod y_MO_wireOf  ∈ lw_tbl := List.mem_append_right _ (List.mem_of_getElem? (i := 849) (by decide +kernel))
theorem ki_MO_wireOf : Cond.instanceMethod y_MO_wireOf  ∈ lw_g := List.mem_filter.mpr ⟨List.mem_append_right _ (List.mem_of_getElem? (i := 850) (by decide +kernel)), rfl⟩
theorem kd_MO_wireOf : Cond.code y_MO_wireOf b_MO_wireOf (7 : Nat) (Option.some FieldType.long) ∈ lw_g := List.mem_filter.mpr ⟨List.mem_append_right _ (List.mem_of_getElem? (i := 851) (by decide +kernel)), rfl⟩
theorem kL_MO_139 : Cond.constantLong R_MO 139 (2 : Int64) ∈ lw_g := List.mem_filter.mpr ⟨List.mem_append_right _ (List.mem_of_getElem? (i := 852) (by decide +kernel)), rfl⟩
theorem km_MO_141 : Cond.methodLink R_MO 141 y_MO_far ∈ lw_g := List.mem_filter.mpr ⟨List.mem_append_right _ (List.mem_of_getElem? (i := 853) (by decide +kernel)), rfl⟩
theorem kst_MO_far : Cond.static y_MO_far  ∈ lw_g := List.mem_filter.mpr ⟨List.mem_append_right _ (List.mem_of_getElem? (i := 854) (by decide +kernel)), rfl⟩
theorem kd_MO_far : Cond.code y_MO_far b_MO_far (4 : Nat) (Option.some FieldType.long) ∈ lw_g := List.mem_filter.mpr ⟨List.mem_append_right _ (List.mem_of_getElem? (i := 855) (by decide +kernel)), rfl⟩
theorem km_MO_157 : Cond.methodLink R_MO 157 y_MO_copy ∈ lw_g := List.mem_filter.mpr ⟨List.mem_append_right _ (List.mem_of_getElem? (i := 856) (by decide +kernel)), rfl⟩
theorem kp_MO_copy : Cond.privateMethod y_MO_copy  ∈ lw_tbl := List.mem_append_right _ (List.mem_of_getElem? (i := 857) (by decide +kernel))
theorem ki_MO_copy : Cond.instanceMethod y_MO_copy  ∈ lw_g := List.mem_filter.mpr ⟨List.mem_append_right _ (List.mem_of_getElem? (i := 858) (by decide +kernel)), rfl⟩
theorem kd_MO_copy : Cond.code y_MO_copy b_MO_copy (4 : Nat) (Option.none : Option FieldType) ∈ lw_g := List.mem_filter.mpr ⟨List.mem_append_right _ (List.mem_of_getElem? (i := 859) (by decide +kernel)), rfl⟩
theorem km_MO_171 : Cond.methodLink R_MO 171 y_MO_draw ∈ lw_g := List.mem_filter.mpr ⟨List.mem_append_right _ (List.mem_of_getElem? (i := 860) (by decide +kernel)), rfl⟩
theorem kp_MO_draw : Cond.privateMethod y_MO_draw  ∈ lw_tbl := List.mem_append_right _ (List.mem_of_getElem? (i := 861) (by decide +kernel))
theorem ki_MO_draw : Cond.instanceMethod y_MO_draw  ∈ lw_g := List.mem_filter.mpr ⟨List.mem_append_right _ (List.mem_of_getElem? (i := 862) (by decide +kernel)), rfl⟩
theorem kd_MO_draw : Cond.code y_MO_draw b_MO_draw (2 : Nat) (Option.some FieldType.int) ∈ lw_g := List.mem_filter.mpr ⟨List.mem_append_right _ (List.mem_of_getElem? (i := 863) (by decide +kernel)), rfl⟩
theorem kL_MO_101 : Cond.constantLong R_MO 101 (6364136223846793005 : Int64) ∈ lw_g := List.mem_filter.mpr ⟨List.mem_append_right _ (List.mem_of_getElem? (i := 864) (by decide +kernel)), rfl⟩
theorem kL_MO_103 : Cond.constantLong R_MO 103 (1442695040888963407 : Int64) ∈ lw_g := List.mem_filter.mpr ⟨List.mem_append_right _ (List.mem_of_getElem? (i := 865) (by decide +kernel)), rfl⟩
theorem km_MO_174 : Cond.methodLink R_MO 174 y_MO_change ∈ lw_g := List.mem_filter.mpr ⟨List.mem_append_right _ (List.mem_of_getElem? (i := 866) (by decide +kernel)), rfl⟩
theorem kp_MO_change : Cond.privateMethod y_MO_change  ∈ lw_tbl := List.mem_append_right _ (List.mem_of_getElem? (i := 867) (by decide +kernel))
theorem ki_MO_change : Cond.instanceMethod y_MO_change  ∈ lw_g := List.mem_filter.mpr ⟨List.mem_append_right _ (List.mem_of_getElem? (i := 868) (by decide +kernel)), rfl⟩
theorem kd_MO_change : Cond.code y_MO_change b_MO_change (6 : Nat) (Option.none : Option FieldType) ∈ lw_g := List.mem_filter.mpr ⟨List.mem_append_right _ (List.mem_of_getElem? (i := 869) (by decide +kernel)), rfl⟩
theorem km_MO_160 : Cond.methodLink R_MO 160 y_MO_exchange ∈ lw_g := List.mem_filter.mpr ⟨List.mem_append_right _ (List.mem_of_getElem? (i := 870) (by decide +kernel)), rfl⟩
theorem kp_MO_exchange : Cond.privateMethod y_MO_exchange  ∈ lw_tbl := List.mem_append_right _ (List.mem_of_getElem? (i := 871) (by decide +kernel))
theorem ki_MO_exchange : Cond.instanceMethod y_MO_exchange  ∈ lw_g := List.mem_filter.mpr ⟨List.mem_append_right _ (List.mem_of_getElem? (i := 872) (by decide +kernel)), rfl⟩
theorem kd_MO_exchange : Cond.code y_MO_exchange b_MO_exchange (5 : Nat) (Option.none : Option FieldType) ∈ lw_g := List.mem_filter.mpr ⟨List.mem_append_right _ (List.mem_of_getElem? (i := 873) (by decide +kernel)), rfl⟩
theorem kL_MO_178 : Cond.constantLong R_MO 178 (4 : Int64) ∈ lw_g := List.mem_filter.mpr ⟨List.mem_append_right _ (List.mem_of_getElem? (i := 874) (by decide +kernel)), rfl⟩
theorem km_LA_112 : Cond.methodLink R_LA 112 y_MO_at ∈ lw_g := List.mem_filter.mpr ⟨List.mem_append_right _ (List.mem_of_getElem? (i := 875) (by decide +kernel)), rfl⟩
theorem ki_MO_at : Cond.instanceMethod y_MO_at  ∈ lw_g := List.mem_filter.mpr ⟨List.mem_append_right _ (List.mem_of_getElem? (i := 876) (by decide +kernel)), rfl⟩
theorem ks_MO_at : Cond.selects R_MO y_MO_at y_MO_at ∈ lw_g := List.mem_filter.mpr ⟨List.mem_append_right _ (List.mem_of_getElem? (i := 877) (by decide +kernel)), rfl⟩
theorem kd_MO_at : Cond.code y_MO_at b_MO_at (4 : Nat) (Option.some FieldType.long) ∈ lw_g := List.mem_filter.mpr ⟨List.mem_append_right _ (List.mem_of_getElem? (i := 878) (by decide +kernel)), rfl⟩
theorem km_LA_115 : Cond.methodLink R_LA 115 y_MO_turned ∈ lw_g := List.mem_filter.mpr ⟨List.mem_append_right _ (List.mem_of_getElem? (i := 879) (by decide +kernel)), rfl⟩
theorem ki_MO_turned : Cond.instanceMethod y_MO_turned  ∈ lw_g := List.mem_filter.mpr ⟨List.mem_append_right _ (List.mem_of_getElem? (i := 880) (by decide +kernel)), rfl⟩
theorem ks_MO_turned : Cond.selects R_MO y_MO_turned y_MO_turned ∈ lw_g := List.mem_filter.mpr ⟨List.mem_append_right _ (List.mem_of_getElem? (i := 881) (by decide +kernel)), rfl⟩
theorem kd_MO_turned : Cond.code y_MO_turned b_MO_turned (3 : Nat) (Option.some FieldType.boolean) ∈ lw_g := List.mem_filter.mpr ⟨List.mem_append_right _ (List.mem_of_getElem? (i := 882) (by decide +kernel)), rfl⟩
theorem km_LA_120 : Cond.methodLink R_LA 120 y_MO_overlap ∈ lw_g := List.mem_filter.mpr ⟨List.mem_append_right _ (List.mem_of_getElem? (i := 883) (by decide +kernel)), rfl⟩
theorem ki_MO_overlap : Cond.instanceMethod y_MO_overlap  ∈ lw_g := List.mem_filter.mpr ⟨List.mem_append_right _ (List.mem_of_getElem? (i := 884) (by decide +kernel)), rfl⟩
theorem ks_MO_overlap : Cond.selects R_MO y_MO_overlap y_MO_overlap ∈ lw_g := List.mem_filter.mpr ⟨List.mem_append_right _ (List.mem_of_getElem? (i := 885) (by decide +kernel)), rfl⟩
theorem kd_MO_overlap : Cond.code y_MO_overlap b_MO_overlap (4 : Nat) (Option.some FieldType.boolean) ∈ lw_g := List.mem_filter.mpr ⟨List.mem_append_right _ (List.mem_of_getElem? (i := 886) (by decide +kernel)), rfl⟩
theorem km_LA_125 : Cond.methodLink R_LA 125 y_MO_wire ∈ lw_g := List.mem_filter.mpr ⟨List.mem_append_right _ (List.mem_of_getElem? (i := 887) (by decide +kernel)), rfl⟩
theorem ki_MO_wire : Cond.instanceMethod y_MO_wire  ∈ lw_g := List.mem_filter.mpr ⟨List.mem_append_right _ (List.mem_of_getElem? (i := 888) (by decide +kernel)), rfl⟩
theorem ks_MO_wire : Cond.selects R_MO y_MO_wire y_MO_wire ∈ lw_g := List.mem_filter.mpr ⟨List.mem_append_right _ (List.mem_of_getElem? (i := 889) (by decide +kernel)), rfl⟩
theorem kd_MO_wire : Cond.code y_MO_wire b_MO_wire (1 : Nat) (Option.some FieldType.long) ∈ lw_g := List.mem_filter.mpr ⟨List.mem_append_right _ (List.mem_of_getElem? (i := 890) (by decide +kernel)), rfl⟩
theorem km_LA_132 : Cond.methodLink R_LA 132 y_MO_outline ∈ lw_g := List.mem_filter.mpr ⟨List.mem_append_right _ (List.mem_of_getElem? (i := 891) (by decide +kernel)), rfl⟩
theorem ki_MO_outline : Cond.instanceMethod y_MO_outline  ∈ lw_g := List.mem_filter.mpr ⟨List.mem_append_right _ (List.mem_of_getElem? (i := 892) (by decide +kernel)), rfl⟩
theorem ks_MO_outline : Cond.selects R_MO y_MO_outline y_MO_outline ∈ lw_g := List.mem_filter.mpr ⟨List.mem_append_right _ (List.mem_of_getElem? (i := 893) (by decide +kernel)), rfl⟩
theorem kd_MO_outline : Cond.code y_MO_outline b_MO_outline (5 : Nat) (Option.some FieldType.boolean) ∈ lw_g := List.mem_filter.mpr ⟨List.mem_append_right _ (List.mem_of_getElem? (i := 894) (by decide +kernel)), rfl⟩
theorem km_LA_128 : Cond.methodLink R_LA 128 y_MO_pin ∈ lw_g := List.mem_filter.mpr ⟨List.mem_append_right _ (List.mem_of_getElem? (i := 895) (by decide +kernel)), rfl⟩
theorem ki_MO_pin : Cond.instanceMethod y_MO_pin  ∈ lw_g := List.mem_filter.mpr ⟨List.mem_append_right _ (List.mem_of_getElem? (i := 896) (by decide +kernel)), rfl⟩
theorem ks_MO_pin : Cond.selects R_MO y_MO_pin y_MO_pin ∈ lw_g := List.mem_filter.mpr ⟨List.mem_append_right _ (List.mem_of_getElem? (i := 897) (by decide +kernel)), rfl⟩
theorem kd_MO_pin : Cond.code y_MO_pin b_MO_pin (8 : Nat) (Option.some FieldType.int) ∈ lw_g := List.mem_filter.mpr ⟨List.mem_append_right _ (List.mem_of_getElem? (i := 898) (by decide +kernel)), rfl⟩
theorem km_MO_188 : Cond.methodLink R_MO 188 y_MO_match ∈ lw_g := List.mem_filter.mpr ⟨List.mem_append_right _ (List.mem_of_getElem? (i := 899) (by decide +kernel)), rfl⟩
theorem kp_MO_match : Cond.privateMethod y_MO_match  ∈ lw_tbl := List.mem_append_right _ (List.mem_of_getElem? (i := 900) (by decide +kernel))
theorem ki_MO_match : Cond.instanceMethod y_MO_match  ∈ lw_g := List.mem_filter.mpr ⟨List.mem_append_right _ (List.mem_of_getElem? (i := 901) (by decide +kernel)), rfl⟩
theorem kd_MO_match : Cond.code y_MO_match b_MO_match (11 : Nat) (Option.some FieldType.int) ∈ lw_g := List.mem_filter.mpr ⟨List.mem_append_right _ (List.mem_of_getElem? (i := 902) (by decide +kernel)), rfl⟩
theorem km_MO_182 : Cond.methodLink R_MO 182 y_MO_weigh ∈ lw_g := List.mem_filter.mpr ⟨List.mem_append_right _ (List.mem_of_getElem? (i := 903) (by decide +kernel)), rfl⟩
theorem kp_MO_weigh : Cond.privateMethod y_MO_weigh  ∈ lw_tbl := List.mem_append_right _ (List.mem_of_getElem? (i := 904) (by decide +kernel))
theorem ki_MO_weigh : Cond.instanceMethod y_MO_weigh  ∈ lw_g := List.mem_filter.mpr ⟨List.mem_append_right _ (List.mem_of_getElem? (i := 905) (by decide +kernel)), rfl⟩
theorem kd_MO_weigh : Cond.code y_MO_weigh b_MO_weigh (14 : Nat) (Option.none : Option FieldType) ∈ lw_g := List.mem_filter.mpr ⟨List.mem_append_right _ (List.mem_of_getElem? (i := 906) (by decide +kernel)), rfl⟩
theorem kL_MO_180 : Cond.constantLong R_MO 180 (-1 : Int64) ∈ lw_g := List.mem_filter.mpr ⟨List.mem_append_right _ (List.mem_of_getElem? (i := 907) (by decide +kernel)), rfl⟩
theorem km_MO_185 : Cond.methodLink R_MO 185 y_MO_sum ∈ lw_g := List.mem_filter.mpr ⟨List.mem_append_right _ (List.mem_of_getElem? (i := 908) (by decide +kernel)), rfl⟩
theorem kp_MO_sum : Cond.privateMethod y_MO_sum  ∈ lw_tbl := List.mem_append_right _ (List.mem_of_getElem? (i := 909) (by decide +kernel))
theorem ki_MO_sum : Cond.instanceMethod y_MO_sum  ∈ lw_g := List.mem_filter.mpr ⟨List.mem_append_right _ (List.mem_of_getElem? (i := 910) (by decide +kernel)), rfl⟩
theorem kd_MO_sum : Cond.code y_MO_sum b_MO_sum (7 : Nat) (Option.some FieldType.long) ∈ lw_g := List.mem_filter.mpr ⟨List.mem_append_right _ (List.mem_of_getElem? (i := 911) (by decide +kernel)), rfl⟩
theorem kL_LA_74 : Cond.constantLong R_LA 74 (4294967295 : Int64) ∈ lw_g := List.mem_filter.mpr ⟨List.mem_append_right _ (List.mem_of_getElem? (i := 912) (by decide +kernel)), rfl⟩
theorem ks_SB_appendThing : Cond.selects R_SB y_SB_appendThing y_SB_appendThing ∈ lw_g := List.mem_filter.mpr ⟨List.mem_append_left _ (by decide +kernel), rfl⟩
theorem ks_SB_findThing : Cond.selects R_SB y_SB_findThing y_SB_findThing ∈ lw_g := List.mem_filter.mpr ⟨List.mem_append_left _ (by decide +kernel), rfl⟩
theorem ks_SB_findBlock : Cond.selects R_SB y_SB_findBlock y_SB_findBlock ∈ lw_g := List.mem_filter.mpr ⟨List.mem_append_left _ (by decide +kernel), rfl⟩
theorem ks_MO_draw : Cond.selects R_MO y_MO_draw y_MO_draw ∈ lw_g := List.mem_filter.mpr ⟨List.mem_append_left _ (by decide +kernel), rfl⟩
theorem ks_MO_settle : Cond.selects R_MO y_MO_settle y_MO_settle ∈ lw_g := List.mem_filter.mpr ⟨List.mem_append_left _ (by decide +kernel), rfl⟩
theorem ks_MO_isThing : Cond.selects R_MO y_MO_isThing y_MO_isThing ∈ lw_g := List.mem_filter.mpr ⟨List.mem_append_left _ (by decide +kernel), rfl⟩
theorem ks_MO_blockOf : Cond.selects R_MO y_MO_blockOf y_MO_blockOf ∈ lw_g := List.mem_filter.mpr ⟨List.mem_append_left _ (by decide +kernel), rfl⟩
theorem ks_MO_wide : Cond.selects R_MO y_MO_wide y_MO_wide ∈ lw_g := List.mem_filter.mpr ⟨List.mem_append_left _ (by decide +kernel), rfl⟩
theorem ks_MO_high : Cond.selects R_MO y_MO_high y_MO_high ∈ lw_g := List.mem_filter.mpr ⟨List.mem_append_left _ (by decide +kernel), rfl⟩
theorem ks_MO_isLaid : Cond.selects R_MO y_MO_isLaid y_MO_isLaid ∈ lw_g := List.mem_filter.mpr ⟨List.mem_append_left _ (by decide +kernel), rfl⟩
theorem ks_MO_edge : Cond.selects R_MO y_MO_edge y_MO_edge ∈ lw_g := List.mem_filter.mpr ⟨List.mem_append_left _ (by decide +kernel), rfl⟩
theorem ks_MO_area : Cond.selects R_MO y_MO_area y_MO_area ∈ lw_g := List.mem_filter.mpr ⟨List.mem_append_left _ (by decide +kernel), rfl⟩
theorem ks_MO_wireOf : Cond.selects R_MO y_MO_wireOf y_MO_wireOf ∈ lw_g := List.mem_filter.mpr ⟨List.mem_append_left _ (by decide +kernel), rfl⟩
theorem ks_MO_copy : Cond.selects R_MO y_MO_copy y_MO_copy ∈ lw_g := List.mem_filter.mpr ⟨List.mem_append_left _ (by decide +kernel), rfl⟩
theorem ks_MO_degree : Cond.selects R_MO y_MO_degree y_MO_degree ∈ lw_g := List.mem_filter.mpr ⟨List.mem_append_left _ (by decide +kernel), rfl⟩
theorem ks_MO_exchange : Cond.selects R_MO y_MO_exchange y_MO_exchange ∈ lw_g := List.mem_filter.mpr ⟨List.mem_append_left _ (by decide +kernel), rfl⟩
theorem ks_MO_change : Cond.selects R_MO y_MO_change y_MO_change ∈ lw_g := List.mem_filter.mpr ⟨List.mem_append_left _ (by decide +kernel), rfl⟩
theorem ks_MO_weigh : Cond.selects R_MO y_MO_weigh y_MO_weigh ∈ lw_g := List.mem_filter.mpr ⟨List.mem_append_left _ (by decide +kernel), rfl⟩
theorem ks_MO_sum : Cond.selects R_MO y_MO_sum y_MO_sum ∈ lw_g := List.mem_filter.mpr ⟨List.mem_append_left _ (by decide +kernel), rfl⟩
theorem ks_MO_match : Cond.selects R_MO y_MO_match y_MO_match ∈ lw_g := List.mem_filter.mpr ⟨List.mem_append_left _ (by decide +kernel), rfl⟩
theorem ks_PI_gather : Cond.selects R_PI y_PI_gather y_PI_gather ∈ lw_g := List.mem_filter.mpr ⟨List.mem_append_left _ (by decide +kernel), rfl⟩
theorem ks_PI_leastCost : Cond.selects R_PI y_PI_leastCost y_PI_leastCost ∈ lw_g := List.mem_filter.mpr ⟨List.mem_append_left _ (by decide +kernel), rfl⟩
theorem ks_PI_costWith : Cond.selects R_PI y_PI_costWith y_PI_costWith ∈ lw_g := List.mem_filter.mpr ⟨List.mem_append_left _ (by decide +kernel), rfl⟩
theorem ks_PI_choose : Cond.selects R_PI y_PI_choose y_PI_choose ∈ lw_g := List.mem_filter.mpr ⟨List.mem_append_left _ (by decide +kernel), rfl⟩
theorem ks_PL_turnIfAllowed : Cond.selects R_PL y_PL_turnIfAllowed y_PL_turnIfAllowed ∈ lw_g := List.mem_filter.mpr ⟨List.mem_append_left _ (by decide +kernel), rfl⟩
theorem ks_PL_layAlong : Cond.selects R_PL y_PL_layAlong y_PL_layAlong ∈ lw_g := List.mem_filter.mpr ⟨List.mem_append_left _ (by decide +kernel), rfl⟩
theorem ks_PL_sizeOf : Cond.selects R_PL y_PL_sizeOf y_PL_sizeOf ∈ lw_g := List.mem_filter.mpr ⟨List.mem_append_left _ (by decide +kernel), rfl⟩
theorem ks_PL_middleOf : Cond.selects R_PL y_PL_middleOf y_PL_middleOf ∈ lw_g := List.mem_filter.mpr ⟨List.mem_append_left _ (by decide +kernel), rfl⟩
theorem ks_SE_attempt : Cond.selects R_SE y_SE_attempt y_SE_attempt ∈ lw_g := List.mem_filter.mpr ⟨List.mem_append_left _ (by decide +kernel), rfl⟩
theorem ks_SE_keepIfBetter : Cond.selects R_SE y_SE_keepIfBetter y_SE_keepIfBetter ∈ lw_g := List.mem_filter.mpr ⟨List.mem_append_left _ (by decide +kernel), rfl⟩
theorem ks_SL_offer : Cond.selects R_SL y_SL_offer y_SL_offer ∈ lw_g := List.mem_filter.mpr ⟨List.mem_append_left _ (by decide +kernel), rfl⟩
theorem ks_SL_hasMatchFor : Cond.selects R_SL y_SL_hasMatchFor y_SL_hasMatchFor ∈ lw_g := List.mem_filter.mpr ⟨List.mem_append_left _ (by decide +kernel), rfl⟩
theorem ks_SL_dropMatchedBy : Cond.selects R_SL y_SL_dropMatchedBy y_SL_dropMatchedBy ∈ lw_g := List.mem_filter.mpr ⟨List.mem_append_left _ (by decide +kernel), rfl⟩
theorem ks_SL_insert : Cond.selects R_SL y_SL_insert y_SL_insert ∈ lw_g := List.mem_filter.mpr ⟨List.mem_append_left _ (by decide +kernel), rfl⟩
theorem i_SB : ∀ w ∈ u_ws R_SB F_SB 7, w ∈ lw_g := by decide +kernel
theorem i_BL : ∀ w ∈ u_ws R_BL F_BL 5, w ∈ lw_g := by decide +kernel
theorem i_DR : ∀ w ∈ u_ws R_DR F_DR 1, w ∈ lw_g := by decide +kernel
theorem i_NE : ∀ w ∈ u_ws R_NE F_NE 4, w ∈ lw_g := by decide +kernel
theorem i_OR : ∀ w ∈ u_ws R_OR F_OR 3, w ∈ lw_g := by decide +kernel
theorem i_PI : ∀ w ∈ u_ws R_PI F_PI 7, w ∈ lw_g := by decide +kernel
theorem i_PL : ∀ w ∈ u_ws R_PL F_PL 7, w ∈ lw_g := by decide +kernel
theorem i_SE : ∀ w ∈ u_ws R_SE F_SE 6, w ∈ lw_g := by decide +kernel
theorem i_SL : ∀ w ∈ u_ws R_SL F_SL 3, w ∈ lw_g := by decide +kernel
theorem i_TH : ∀ w ∈ u_ws R_TH F_TH 3, w ∈ lw_g := by decide +kernel
theorem i_MO : ∀ w ∈ u_ws R_MO F_MO 32, w ∈ lw_g := by decide +kernel
