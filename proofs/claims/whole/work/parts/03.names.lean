def R_N : String := "SprinkleNets"
def R_M : String := "SprinkleNetsModel"
def R_L : String := "SprinkleNetsLaw"
def R_I : String := "java/lang/Integer"
def R_A : String := "java/util/Arrays"
abbrev bN_init : ByteArray := prog_1_method_1_code
def yN_init : MethodName := ⟨R_N, "<init>", "(II)V"⟩
abbrev kN_init : Cond := .code yN_init bN_init 4 none
abbrev bA_fill : ByteArray := prog_12_method_103_code
def yA_fill : MethodName := ⟨R_A, "fill", "([II)V"⟩
abbrev kA_fill : Cond := .code yA_fill bA_fill 4 none
abbrev bN_best : ByteArray := prog_1_method_9_code
def yN_best : MethodName := ⟨R_N, "best", "()I"⟩
abbrev kN_best : Cond := .code yN_best bN_best 8 (some .int)
abbrev bN_findReachers : ByteArray := prog_1_method_26_code
def yN_findReachers : MethodName := ⟨R_N, "findReachers", "()V"⟩
abbrev kN_findReachers : Cond := .code yN_findReachers bN_findReachers 2 none
abbrev bN_addReacher : ByteArray := prog_1_method_27_code
def yN_addReacher : MethodName := ⟨R_N, "addReacher", "(III)V"⟩
abbrev kN_addReacher : Cond := .code yN_addReacher bN_addReacher 6 none
abbrev bN_isNear : ByteArray := prog_1_method_25_code
def yN_isNear : MethodName := ⟨R_N, "isNear", "(IIII)Z"⟩
abbrev kN_isNear : Cond := .code yN_isNear bN_isNear 5 (some .boolean)
abbrev bN_lineIsFree : ByteArray := prog_1_method_24_code
def yN_lineIsFree : MethodName := ⟨R_N, "lineIsFree", "(IIII)Z"⟩
abbrev kN_lineIsFree : Cond := .code yN_lineIsFree bN_lineIsFree 13 (some .boolean)
abbrev bN_isWall : ByteArray := prog_1_method_20_code
def yN_isWall : MethodName := ⟨R_N, "isWall", "(II)Z"⟩
abbrev kN_isWall : Cond := .code yN_isWall bN_isWall 3 (some .boolean)
abbrev bN_inPlan : ByteArray := prog_1_method_18_code
def yN_inPlan : MethodName := ⟨R_N, "inPlan", "(II)Z"⟩
abbrev kN_inPlan : Cond := .code yN_inPlan bN_inPlan 3 (some .boolean)
abbrev bN_cellAt : ByteArray := prog_1_method_19_code
def yN_cellAt : MethodName := ⟨R_N, "cellAt", "(II)I"⟩
abbrev kN_cellAt : Cond := .code yN_cellAt bN_cellAt 2 (some .int)
abbrev bN_allPlaces : ByteArray := prog_1_method_22_code
def yN_allPlaces : MethodName := ⟨R_N, "allPlaces", "()I"⟩
abbrev kN_allPlaces : Cond := .code yN_allPlaces bN_allPlaces 1 (some .int)
abbrev bN_dryCell : ByteArray := prog_1_method_29_code
def yN_dryCell : MethodName := ⟨R_N, "dryCell", "(II)I"⟩
abbrev kN_dryCell : Cond := .code yN_dryCell bN_dryCell 5 (some .int)
abbrev bN_isDry : ByteArray := prog_1_method_28_code
def yN_isDry : MethodName := ⟨R_N, "isDry", "(II)Z"⟩
abbrev kN_isDry : Cond := .code yN_isDry bN_isDry 3 (some .boolean)
abbrev bI_bitCount : ByteArray := prog_7_method_49_code
def yI_bitCount : MethodName := ⟨R_I, "bitCount", "(I)I"⟩
abbrev kI_bitCount : Cond := .code yI_bitCount bI_bitCount 1 (some .int)
abbrev bL_cell : ByteArray := method_2_code
def yL_cell : MethodName := ⟨R_L, "cell", "([II)I"⟩
abbrev kL_cell : Cond := .code yL_cell bL_cell 2 (some .int)
abbrev bL_wall : ByteArray := method_3_code
def yL_wall : MethodName := ⟨R_L, "wall", "(LSprinkleNets;IIZ[J)I"⟩
abbrev kL_wall : Cond := .codeWith yL_wall bL_wall 6 (some .int) [(0, 19, 22, 13)]
abbrev bN_wall : ByteArray := prog_1_method_2_code
def yN_wall : MethodName := ⟨R_N, "wall", "(IIZ)Z"⟩
abbrev kN_wall : Cond := .code yN_wall bN_wall 5 (some .boolean)
abbrev bN_needCell : ByteArray := prog_1_method_15_code
def yN_needCell : MethodName := ⟨R_N, "needCell", "(II)V"⟩
abbrev kN_needCell : Cond := .code yN_needCell bN_needCell 3 none
abbrev bL_reach : ByteArray := method_4_code
def yL_reach : MethodName := ⟨R_L, "reach", "(LSprinkleNets;I[J)I"⟩
abbrev kL_reach : Cond := .codeWith yL_reach bL_reach 4 (some .int) [(0, 9, 12, 13)]
abbrev bN_reach : ByteArray := prog_1_method_3_code
def yN_reach : MethodName := ⟨R_N, "reach", "(I)I"⟩
abbrev kN_reach : Cond := .code yN_reach bN_reach 3 (some .int)
abbrev bL_place : ByteArray := method_5_code
def yL_place : MethodName := ⟨R_L, "place", "(LSprinkleNets;II[J)I"⟩
abbrev kL_place : Cond := .codeWith yL_place bL_place 5 (some .int) [(0, 10, 13, 13), (0, 10, 17, 23)]
abbrev bN_place : ByteArray := prog_1_method_4_code
def yN_place : MethodName := ⟨R_N, "place", "(II)I"⟩
abbrev kN_place : Cond := .code yN_place bN_place 4 (some .int)
abbrev bN_isPlace : ByteArray := prog_1_method_21_code
def yN_isPlace : MethodName := ⟨R_N, "isPlace", "(II)Z"⟩
abbrev kN_isPlace : Cond := .code yN_isPlace bN_isPlace 4 (some .boolean)
abbrev bL_seen : ByteArray := method_6_code
def yL_seen : MethodName := ⟨R_L, "seen", "(LSprinkleNets;IIII[J)I"⟩
abbrev kL_seen : Cond := .codeWith yL_seen bL_seen 7 (some .int) [(0, 21, 24, 13)]
abbrev bN_seen : ByteArray := prog_1_method_5_code
def yN_seen : MethodName := ⟨R_N, "seen", "(IIII)Z"⟩
abbrev kN_seen : Cond := .code yN_seen bN_seen 5 (some .boolean)
abbrev bL_reached : ByteArray := method_7_code
def yL_reached : MethodName := ⟨R_L, "reached", "(LSprinkleNets;I[J)I"⟩
abbrev kL_reached : Cond := .codeWith yL_reached bL_reached 4 (some .int) [(0, 9, 12, 13)]
abbrev bN_reached : ByteArray := prog_1_method_6_code
def yN_reached : MethodName := ⟨R_N, "reached", "(I)I"⟩
abbrev kN_reached : Cond := .code yN_reached bN_reached 4 (some .int)
abbrev bN_needPlace : ByteArray := prog_1_method_16_code
def yN_needPlace : MethodName := ⟨R_N, "needPlace", "(I)V"⟩
abbrev kN_needPlace : Cond := .code yN_needPlace bN_needPlace 2 none
abbrev bN_holds : ByteArray := prog_1_method_23_code
def yN_holds : MethodName := ⟨R_N, "holds", "(II)Z"⟩
abbrev kN_holds : Cond := .code yN_holds bN_holds 2 (some .boolean)
abbrev bL_left : ByteArray := method_8_code
def yL_left : MethodName := ⟨R_L, "left", "(LSprinkleNets;I[J)I"⟩
abbrev kL_left : Cond := .codeWith yL_left bL_left 4 (some .int) [(0, 9, 12, 13)]
abbrev bN_left : ByteArray := prog_1_method_7_code
def yN_left : MethodName := ⟨R_N, "left", "(I)I"⟩
abbrev kN_left : Cond := .code yN_left bN_left 4 (some .int)
abbrev bN_needSet : ByteArray := prog_1_method_17_code
def yN_needSet : MethodName := ⟨R_N, "needSet", "(I)V"⟩
abbrev kN_needSet : Cond := .code yN_needSet bN_needSet 2 none
abbrev bL_dry : ByteArray := method_9_code
def yL_dry : MethodName := ⟨R_L, "dry", "(LSprinkleNets;II[J)I"⟩
abbrev kL_dry : Cond := .codeWith yL_dry bL_dry 5 (some .int) [(0, 10, 13, 13)]
abbrev bN_dry : ByteArray := prog_1_method_8_code
def yN_dry : MethodName := ⟨R_N, "dry", "(II)I"⟩
abbrev kN_dry : Cond := .code yN_dry bN_dry 4 (some .int)
abbrev bL_size : ByteArray := method_10_code
def yL_size : MethodName := ⟨R_L, "size", "(LSprinkleNets;II[J)I"⟩
abbrev kL_size : Cond := .codeWith yL_size bL_size 5 (some .int) [(0, 10, 13, 13)]
abbrev bN_size : ByteArray := prog_1_method_10_code
def yN_size : MethodName := ⟨R_N, "size", "(II)I"⟩
abbrev kN_size : Cond := .code yN_size bN_size 3 (some .int)
abbrev bL_pipes : ByteArray := method_11_code
def yL_pipes : MethodName := ⟨R_L, "pipes", "(LSprinkleNets;I[J)I"⟩
abbrev kL_pipes : Cond := .codeWith yL_pipes bL_pipes 4 (some .int) [(0, 9, 12, 13)]
abbrev bN_pipes : ByteArray := prog_1_method_11_code
def yN_pipes : MethodName := ⟨R_N, "pipes", "(I)I"⟩
abbrev kN_pipes : Cond := .code yN_pipes bN_pipes 4 (some .int)
abbrev bN_layPipes : ByteArray := prog_1_method_30_code
def yN_layPipes : MethodName := ⟨R_N, "layPipes", "(I)V"⟩
abbrev kN_layPipes : Cond := .code yN_layPipes bN_layPipes 2 none
abbrev bN_joinPlaces : ByteArray := prog_1_method_31_code
def yN_joinPlaces : MethodName := ⟨R_N, "joinPlaces", "(I)V"⟩
abbrev kN_joinPlaces : Cond := .code yN_joinPlaces bN_joinPlaces 5 none
abbrev bN_nearestOf : ByteArray := prog_1_method_32_code
def yN_nearestOf : MethodName := ⟨R_N, "nearestOf", "(I)I"⟩
abbrev kN_nearestOf : Cond := .code yN_nearestOf bN_nearestOf 5 (some .int)
abbrev bN_offerUpper : ByteArray := prog_1_method_33_code
def yN_offerUpper : MethodName := ⟨R_N, "offerUpper", "(II)V"⟩
abbrev kN_offerUpper : Cond := .code yN_offerUpper bN_offerUpper 5 none
abbrev bN_countHeads : ByteArray := prog_1_method_34_code
def yN_countHeads : MethodName := ⟨R_N, "countHeads", "()V"⟩
abbrev kN_countHeads : Cond := .code yN_countHeads bN_countHeads 4 none
abbrev bN_addLacks : ByteArray := prog_1_method_35_code
def yN_addLacks : MethodName := ⟨R_N, "addLacks", "()V"⟩
abbrev kN_addLacks : Cond := .code yN_addLacks bN_addLacks 5 none
abbrev bN_lossFor : ByteArray := prog_1_method_36_code
def yN_lossFor : MethodName := ⟨R_N, "lossFor", "(I)I"⟩
abbrev kN_lossFor : Cond := .code yN_lossFor bN_lossFor 4 (some .int)
abbrev bL_pipe : ByteArray := method_12_code
def yL_pipe : MethodName := ⟨R_L, "pipe", "(LSprinkleNets;III[J)I"⟩
abbrev kL_pipe : Cond := .codeWith yL_pipe bL_pipe 6 (some .int) [(0, 12, 15, 13)]
abbrev bN_pipe : ByteArray := prog_1_method_12_code
def yN_pipe : MethodName := ⟨R_N, "pipe", "(III)I"⟩
abbrev kN_pipe : Cond := .code yN_pipe bN_pipe 4 (some .int)
abbrev bL_lacks : ByteArray := method_13_code
def yL_lacks : MethodName := ⟨R_L, "lacks", "(LSprinkleNets;II[J)I"⟩
abbrev kL_lacks : Cond := .codeWith yL_lacks bL_lacks 5 (some .int) [(0, 10, 13, 13)]
abbrev bN_lacks : ByteArray := prog_1_method_13_code
def yN_lacks : MethodName := ⟨R_N, "lacks", "(II)I"⟩
abbrev kN_lacks : Cond := .code yN_lacks bN_lacks 3 (some .int)
abbrev bL_worst : ByteArray := method_14_code
def yL_worst : MethodName := ⟨R_L, "worst", "(LSprinkleNets;I[J)I"⟩
abbrev kL_worst : Cond := .codeWith yL_worst bL_worst 4 (some .int) [(0, 9, 12, 13)]
abbrev bN_worst : ByteArray := prog_1_method_14_code
def yN_worst : MethodName := ⟨R_N, "worst", "(I)I"⟩
abbrev kN_worst : Cond := .code yN_worst bN_worst 5 (some .int)
abbrev bM_init : ByteArray := prog_3_method_1_code
def yM_init : MethodName := ⟨R_M, "<init>", "(II)V"⟩
abbrev kM_init : Cond := .code yM_init bM_init 4 none
abbrev bM_thrown : ByteArray := prog_3_method_2_code
def yM_thrown : MethodName := ⟨R_M, "thrown", "()I"⟩
abbrev kM_thrown : Cond := .code yM_thrown bM_thrown 1 (some .int)
abbrev bM_wall : ByteArray := prog_3_method_7_code
def yM_wall : MethodName := ⟨R_M, "wall", "(IIZ)Z"⟩
abbrev kM_wall : Cond := .code yM_wall bM_wall 5 (some .boolean)
abbrev bM_isCell : ByteArray := prog_3_method_3_code
def yM_isCell : MethodName := ⟨R_M, "isCell", "(II)Z"⟩
abbrev kM_isCell : Cond := .code yM_isCell bM_isCell 3 (some .boolean)
abbrev bM_reach : ByteArray := prog_3_method_8_code
def yM_reach : MethodName := ⟨R_M, "reach", "(I)I"⟩
abbrev kM_reach : Cond := .code yM_reach bM_reach 3 (some .int)
abbrev bM_place : ByteArray := prog_3_method_9_code
def yM_place : MethodName := ⟨R_M, "place", "(II)I"⟩
abbrev kM_place : Cond := .code yM_place bM_place 5 (some .int)
abbrev bM_isFree : ByteArray := prog_3_method_6_code
def yM_isFree : MethodName := ⟨R_M, "isFree", "(II)Z"⟩
abbrev kM_isFree : Cond := .code yM_isFree bM_isFree 3 (some .boolean)
abbrev bM_seen : ByteArray := prog_3_method_15_code
def yM_seen : MethodName := ⟨R_M, "seen", "(IIII)Z"⟩
abbrev kM_seen : Cond := .code yM_seen bM_seen 5 (some .boolean)
abbrev bM_sees : ByteArray := prog_3_method_14_code
def yM_sees : MethodName := ⟨R_M, "sees", "(IIII)Z"⟩
abbrev kM_sees : Cond := .code yM_sees bM_sees 8 (some .boolean)
abbrev bM_least : ByteArray := prog_3_method_10_code
def yM_least : MethodName := ⟨R_M, "least", "(II)I"⟩
abbrev kM_least : Cond := .code yM_least bM_least 2 (some .int)
abbrev bM_most : ByteArray := prog_3_method_11_code
def yM_most : MethodName := ⟨R_M, "most", "(II)I"⟩
abbrev kM_most : Cond := .code yM_most bM_most 2 (some .int)
abbrev bM_crosses : ByteArray := prog_3_method_13_code
def yM_crosses : MethodName := ⟨R_M, "crosses", "(IIIIII)Z"⟩
abbrev kM_crosses : Cond := .code yM_crosses bM_crosses 18 (some .boolean)
abbrev bM_side : ByteArray := prog_3_method_12_code
def yM_side : MethodName := ⟨R_M, "side", "(IIIIII)I"⟩
abbrev kM_side : Cond := .code yM_side bM_side 6 (some .int)
abbrev bM_reached : ByteArray := prog_3_method_18_code
def yM_reached : MethodName := ⟨R_M, "reached", "(I)I"⟩
abbrev kM_reached : Cond := .code yM_reached bM_reached 5 (some .int)
abbrev bM_isPlace : ByteArray := prog_3_method_4_code
def yM_isPlace : MethodName := ⟨R_M, "isPlace", "(I)Z"⟩
abbrev kM_isPlace : Cond := .code yM_isPlace bM_isPlace 2 (some .boolean)
abbrev bM_isReached : ByteArray := prog_3_method_16_code
def yM_isReached : MethodName := ⟨R_M, "isReached", "(III)Z"⟩
abbrev kM_isReached : Cond := .code yM_isReached bM_isReached 6 (some .boolean)
abbrev bM_left : ByteArray := prog_3_method_20_code
def yM_left : MethodName := ⟨R_M, "left", "(I)I"⟩
abbrev kM_left : Cond := .code yM_left bM_left 2 (some .int)
abbrev bM_isSet : ByteArray := prog_3_method_5_code
def yM_isSet : MethodName := ⟨R_M, "isSet", "(I)Z"⟩
abbrev kM_isSet : Cond := .code yM_isSet bM_isSet 2 (some .boolean)
abbrev bM_findReached : ByteArray := prog_3_method_17_code
def yM_findReached : MethodName := ⟨R_M, "findReached", "()V"⟩
abbrev kM_findReached : Cond := .code yM_findReached bM_findReached 5 none
abbrev bM_dryCells : ByteArray := prog_3_method_19_code
def yM_dryCells : MethodName := ⟨R_M, "dryCells", "(I)I"⟩
abbrev kM_dryCells : Cond := .code yM_dryCells bM_dryCells 5 (some .int)
abbrev bM_dry : ByteArray := prog_3_method_21_code
def yM_dry : MethodName := ⟨R_M, "dry", "(II)I"⟩
abbrev kM_dry : Cond := .code yM_dry bM_dry 6 (some .int)
abbrev bM_best : ByteArray := prog_3_method_23_code
def yM_best : MethodName := ⟨R_M, "best", "()I"⟩
abbrev kM_best : Cond := .code yM_best bM_best 4 (some .int)
abbrev bM_ones : ByteArray := prog_3_method_22_code
def yM_ones : MethodName := ⟨R_M, "ones", "(I)I"⟩
abbrev kM_ones : Cond := .code yM_ones bM_ones 3 (some .int)
abbrev bM_size : ByteArray := prog_3_method_24_code
def yM_size : MethodName := ⟨R_M, "size", "(II)I"⟩
abbrev kM_size : Cond := .code yM_size bM_size 5 (some .int)
abbrev bM_pipes : ByteArray := prog_3_method_29_code
def yM_pipes : MethodName := ⟨R_M, "pipes", "(I)I"⟩
abbrev kM_pipes : Cond := .code yM_pipes bM_pipes 4 (some .int)
abbrev bM_join : ByteArray := prog_3_method_27_code
def yM_join : MethodName := ⟨R_M, "join", "(I)V"⟩
abbrev kM_join : Cond := .code yM_join bM_join 7 none
abbrev bM_far : ByteArray := prog_3_method_26_code
def yM_far : MethodName := ⟨R_M, "far", "(II)I"⟩
abbrev kM_far : Cond := .code yM_far bM_far 5 (some .int)
abbrev bM_plain : ByteArray := prog_3_method_25_code
def yM_plain : MethodName := ⟨R_M, "plain", "(I)I"⟩
abbrev kM_plain : Cond := .code yM_plain bM_plain 1 (some .int)
abbrev bM_pipe : ByteArray := prog_3_method_31_code
def yM_pipe : MethodName := ⟨R_M, "pipe", "(III)I"⟩
abbrev kM_pipe : Cond := .code yM_pipe bM_pipe 4 (some .int)
abbrev bM_isIn : ByteArray := prog_3_method_30_code
def yM_isIn : MethodName := ⟨R_M, "isIn", "(II)Z"⟩
abbrev kM_isIn : Cond := .code yM_isIn bM_isIn 3 (some .boolean)
abbrev bM_lossOf : ByteArray := prog_3_method_28_code
def yM_lossOf : MethodName := ⟨R_M, "lossOf", "(I)I"⟩
abbrev kM_lossOf : Cond := .code yM_lossOf bM_lossOf 6 (some .int)
abbrev bM_lacks : ByteArray := prog_3_method_33_code
def yM_lacks : MethodName := ⟨R_M, "lacks", "(II)I"⟩
abbrev kM_lacks : Cond := .code yM_lacks bM_lacks 3 (some .int)
abbrev bM_lost : ByteArray := prog_3_method_32_code
def yM_lost : MethodName := ⟨R_M, "lost", "(I)I"⟩
abbrev kM_lost : Cond := .code yM_lost bM_lost 4 (some .int)
abbrev bM_worst : ByteArray := prog_3_method_34_code
def yM_worst : MethodName := ⟨R_M, "worst", "(I)I"⟩
abbrev kM_worst : Cond := .code yM_worst bM_worst 4 (some .int)
abbrev bL_law : ByteArray := code
def T_N : u_T := fun k => match k with
  | 0 => ("SprinkleNets", "width", "I", true)
  | 1 => ("SprinkleNets", "height", "I", true)
  | 2 => ("SprinkleNets", "walls", "[Z", true)
  | 3 => ("SprinkleNets", "reachSquare", "I", false)
  | 4 => ("SprinkleNets", "placeX", "[I", true)
  | 5 => ("SprinkleNets", "placeY", "[I", true)
  | 6 => ("SprinkleNets", "placeCount", "I", false)
  | 7 => ("SprinkleNets", "reachers", "[I", true)
  | 8 => ("SprinkleNets", "reachersAreOld", "Z", false)
  | 9 => ("SprinkleNets", "lossOf", "[I", true)
  | 10 => ("SprinkleNets", "sizeCount", "I", false)
  | 11 => ("SprinkleNets", "upper", "[I", true)
  | 12 => ("SprinkleNets", "length", "[I", true)
  | 13 => ("SprinkleNets", "headsOn", "[I", true)
  | 14 => ("SprinkleNets", "turn", "[I", true)
  | 15 => ("SprinkleNets", "lack", "[I", true)
  | 16 => ("SprinkleNets", "joined", "[I", true)
  | _ => ("SprinkleNets", "joinedCount", "I", false)
def t_N : Nat → FieldType := fun k => match k with
  | 0 => .int
  | 1 => .int
  | 2 => .array .boolean
  | 3 => .int
  | 4 => .array .int
  | 5 => .array .int
  | 6 => .int
  | 7 => .array .int
  | 8 => .boolean
  | 9 => .array .int
  | 10 => .int
  | 11 => .array .int
  | 12 => .array .int
  | 13 => .array .int
  | 14 => .array .int
  | 15 => .array .int
  | 16 => .array .int
  | _ => .int
theorem n_N : ∀ a, a < 18 → ∀ b, b < 18 → a ≠ b → (T_N a).2.1 ≠ (T_N b).2.1 := by decide +kernel
theorem tok_N : ∀ k, k < 18 → parseFieldDescriptor (T_N k).2.2.1 = some (t_N k) := by decide +kernel
def T_M : u_T := fun k => match k with
  | 0 => ("SprinkleNetsModel", "code", "I", false)
  | 1 => ("SprinkleNetsModel", "wide", "I", true)
  | 2 => ("SprinkleNetsModel", "tall", "I", true)
  | 3 => ("SprinkleNetsModel", "wall", "[Z", true)
  | 4 => ("SprinkleNetsModel", "reach", "I", false)
  | 5 => ("SprinkleNetsModel", "places", "I", false)
  | 6 => ("SprinkleNetsModel", "px", "[I", true)
  | 7 => ("SprinkleNetsModel", "py", "[I", true)
  | 8 => ("SprinkleNetsModel", "loss", "[I", true)
  | 9 => ("SprinkleNetsModel", "reached", "[I", true)
  | 10 => ("SprinkleNetsModel", "joined", "I", false)
  | 11 => ("SprinkleNetsModel", "order", "[I", true)
  | 12 => ("SprinkleNetsModel", "upper", "[I", true)
  | 13 => ("SprinkleNetsModel", "length", "[I", true)
  | 14 => ("SprinkleNetsModel", "heads", "[I", true)
  | _ => ("SprinkleNetsModel", "turn", "[I", true)
def t_M : Nat → FieldType := fun k => match k with
  | 0 => .int
  | 1 => .int
  | 2 => .int
  | 3 => .array .boolean
  | 4 => .int
  | 5 => .int
  | 6 => .array .int
  | 7 => .array .int
  | 8 => .array .int
  | 9 => .array .int
  | 10 => .int
  | 11 => .array .int
  | 12 => .array .int
  | 13 => .array .int
  | 14 => .array .int
  | _ => .array .int
theorem n_M : ∀ a, a < 16 → ∀ b, b < 16 → a ≠ b → (T_M a).2.1 ≠ (T_M b).2.1 := by decide +kernel
theorem tok_M : ∀ k, k < 16 → parseFieldDescriptor (T_M k).2.2.1 = some (t_M k) := by decide +kernel
abbrev snC : List vw_C := [(R_N, T_N, 18), (R_M, T_M, 16)]
def WD : List Cond := lw_tbl.filter goodWord
theorem wd_mem {w : Cond} {k : Nat} (h : lw_tbl[k]? = some w) (hg : goodWord w = true) : w ∈ WD := List.mem_filter.mpr ⟨List.mem_of_getElem? h, hg⟩
theorem wd_good {w : Cond} (h : w ∈ WD) : (w.onTables && w.keeps) = true ∨ ∃ ty, w = .arrayClass ty := good_of_word (List.mem_filter.mp h).2
theorem wd_tbl {w : Cond} (h : w ∈ WD) : w ∈ lw_tbl := (List.mem_filter.mp h).1
theorem wd_call {y : Cond} {ms : List Cond} (hy : y ∈ WD) (hm : ∀ w ∈ ms, w ∈ WD) : GoodIn WD (ms ++ (y :: WD)) := fun w hw => by
  have h : w ∈ WD := (List.mem_append.mp hw).elim (hm w) (fun h => (List.mem_cons.mp h).elim (fun e => e ▸ hy) id)
  exact ⟨h, wd_good h⟩
theorem wd_self {y : Cond} (hy : y ∈ WD) : GoodIn WD (y :: WD) := wd_call (ms := []) hy (fun _ h => absurd h List.not_mem_nil)
theorem wd_c {w : Cond} {ms : List Cond} (h : w ∈ WD) (t : ∀ z ∈ ms, z ∈ WD) : ∀ z ∈ w :: ms, z ∈ WD := fun z hz => (List.mem_cons.mp hz).elim (fun e => e ▸ h) (t z)
theorem wd_n : ∀ z ∈ ([] : List Cond), z ∈ WD := fun _ h => absurd h List.not_mem_nil
theorem in_N : ∀ w ∈ u_ws R_N T_N 18, w ∈ WD := by decide +kernel
theorem in_M : ∀ w ∈ u_ws R_M T_M 16, w ∈ WD := by decide +kernel
theorem selN_findReachers : Cond.selects R_N yN_findReachers yN_findReachers ∈ WD := wd_mem (k := 0) (by decide +kernel) rfl
theorem selN_addReacher : Cond.selects R_N yN_addReacher yN_addReacher ∈ WD := wd_mem (k := 1) (by decide +kernel) rfl
theorem selN_isNear : Cond.selects R_N yN_isNear yN_isNear ∈ WD := wd_mem (k := 2) (by decide +kernel) rfl
theorem selN_lineIsFree : Cond.selects R_N yN_lineIsFree yN_lineIsFree ∈ WD := wd_mem (k := 3) (by decide +kernel) rfl
theorem selN_isWall : Cond.selects R_N yN_isWall yN_isWall ∈ WD := wd_mem (k := 4) (by decide +kernel) rfl
theorem selN_inPlan : Cond.selects R_N yN_inPlan yN_inPlan ∈ WD := wd_mem (k := 5) (by decide +kernel) rfl
theorem selN_allPlaces : Cond.selects R_N yN_allPlaces yN_allPlaces ∈ WD := wd_mem (k := 6) (by decide +kernel) rfl
theorem selN_dryCell : Cond.selects R_N yN_dryCell yN_dryCell ∈ WD := wd_mem (k := 7) (by decide +kernel) rfl
theorem selN_isDry : Cond.selects R_N yN_isDry yN_isDry ∈ WD := wd_mem (k := 8) (by decide +kernel) rfl
theorem selN_needCell : Cond.selects R_N yN_needCell yN_needCell ∈ WD := wd_mem (k := 9) (by decide +kernel) rfl
theorem selN_isPlace : Cond.selects R_N yN_isPlace yN_isPlace ∈ WD := wd_mem (k := 11) (by decide +kernel) rfl
theorem selN_needPlace : Cond.selects R_N yN_needPlace yN_needPlace ∈ WD := wd_mem (k := 12) (by decide +kernel) rfl
theorem selN_needSet : Cond.selects R_N yN_needSet yN_needSet ∈ WD := wd_mem (k := 13) (by decide +kernel) rfl
theorem selN_layPipes : Cond.selects R_N yN_layPipes yN_layPipes ∈ WD := wd_mem (k := 14) (by decide +kernel) rfl
theorem selN_joinPlaces : Cond.selects R_N yN_joinPlaces yN_joinPlaces ∈ WD := wd_mem (k := 15) (by decide +kernel) rfl
theorem selN_nearestOf : Cond.selects R_N yN_nearestOf yN_nearestOf ∈ WD := wd_mem (k := 16) (by decide +kernel) rfl
theorem selN_offerUpper : Cond.selects R_N yN_offerUpper yN_offerUpper ∈ WD := wd_mem (k := 17) (by decide +kernel) rfl
theorem selN_countHeads : Cond.selects R_N yN_countHeads yN_countHeads ∈ WD := wd_mem (k := 18) (by decide +kernel) rfl
theorem selN_addLacks : Cond.selects R_N yN_addLacks yN_addLacks ∈ WD := wd_mem (k := 19) (by decide +kernel) rfl
theorem selN_lossFor : Cond.selects R_N yN_lossFor yN_lossFor ∈ WD := wd_mem (k := 20) (by decide +kernel) rfl
theorem selM_isCell : Cond.selects R_M yM_isCell yM_isCell ∈ WD := wd_mem (k := 21) (by decide +kernel) rfl
theorem selM_isFree : Cond.selects R_M yM_isFree yM_isFree ∈ WD := wd_mem (k := 22) (by decide +kernel) rfl
theorem selM_sees : Cond.selects R_M yM_sees yM_sees ∈ WD := wd_mem (k := 23) (by decide +kernel) rfl
theorem selM_isPlace : Cond.selects R_M yM_isPlace yM_isPlace ∈ WD := wd_mem (k := 24) (by decide +kernel) rfl
theorem selM_isReached : Cond.selects R_M yM_isReached yM_isReached ∈ WD := wd_mem (k := 25) (by decide +kernel) rfl
theorem selM_isSet : Cond.selects R_M yM_isSet yM_isSet ∈ WD := wd_mem (k := 26) (by decide +kernel) rfl
theorem selM_findReached : Cond.selects R_M yM_findReached yM_findReached ∈ WD := wd_mem (k := 27) (by decide +kernel) rfl
theorem selM_dryCells : Cond.selects R_M yM_dryCells yM_dryCells ∈ WD := wd_mem (k := 28) (by decide +kernel) rfl
theorem selM_join : Cond.selects R_M yM_join yM_join ∈ WD := wd_mem (k := 29) (by decide +kernel) rfl
theorem selM_far : Cond.selects R_M yM_far yM_far ∈ WD := wd_mem (k := 30) (by decide +kernel) rfl
theorem selM_isIn : Cond.selects R_M yM_isIn yM_isIn ∈ WD := wd_mem (k := 31) (by decide +kernel) rfl
theorem selM_lossOf : Cond.selects R_M yM_lossOf yM_lossOf ∈ WD := wd_mem (k := 32) (by decide +kernel) rfl
theorem selM_lost : Cond.selects R_M yM_lost yM_lost ∈ WD := wd_mem (k := 33) (by decide +kernel) rfl
theorem iniL : Cond.initialized R_L ∈ WD := wd_mem (k := 34) (by decide +kernel) rfl
theorem iniN : Cond.initialized R_N ∈ WD := wd_mem (k := 35) (by decide +kernel) rfl
theorem iniH : Cond.initialized "java/lang/Math" ∈ WD := wd_mem (k := 36) (by decide +kernel) rfl
theorem iniA : Cond.initialized R_A ∈ WD := wd_mem (k := 37) (by decide +kernel) rfl
theorem iniM : Cond.initialized R_M ∈ WD := wd_mem (k := 38) (by decide +kernel) rfl
theorem iniThrowable : Cond.initialized "java/lang/Throwable" ∈ WD := wd_mem (k := 39) (by decide +kernel) rfl
theorem iniException : Cond.initialized "java/lang/Exception" ∈ WD := wd_mem (k := 40) (by decide +kernel) rfl
theorem iniRuntimeException : Cond.initialized "java/lang/RuntimeException" ∈ WD := wd_mem (k := 41) (by decide +kernel) rfl
theorem iniIAE : Cond.initialized "java/lang/IllegalArgumentException" ∈ WD := wd_mem (k := 42) (by decide +kernel) rfl
theorem iniISE : Cond.initialized "java/lang/IllegalStateException" ∈ WD := wd_mem (k := 43) (by decide +kernel) rfl
theorem iniI : Cond.initialized R_I ∈ WD := wd_mem (k := 44) (by decide +kernel) rfl
theorem clL8 : Cond.classLink R_L 8 R_N ∈ WD := wd_mem (k := 45) (by decide +kernel) rfl
theorem insN : Cond.instantiable R_N 18 ∈ WD := wd_mem (k := 46) (by decide +kernel) rfl
theorem mlL60 : Cond.methodLink R_L 60 yN_init ∈ WD := wd_mem (k := 47) (by decide +kernel) rfl
theorem imN_init : Cond.instanceMethod yN_init ∈ WD := wd_mem (k := 48) (by decide +kernel) rfl
set_option maxRecDepth 20000 in
theorem kwN_init : kN_init ∈ WD := wd_mem (k := 49) (rfl) rfl
theorem mlN1 : Cond.methodLink R_N 1 objectInit ∈ WD := wd_mem (k := 50) (by decide +kernel) rfl
theorem imO_init : Cond.instanceMethod objectInit ∈ WD := wd_mem (k := 51) (by decide +kernel) rfl
theorem kwO_init : Cond.code objectInit ⟨#[0xb1]⟩ 1 none ∈ WD := wd_mem (k := 52) (by decide +kernel) rfl
theorem mlN9 : Cond.methodLink R_N 9 Lib.Math.min.name ∈ WD := wd_mem (k := 53) (by decide +kernel) rfl
theorem smH_min : Cond.static Lib.Math.min.name ∈ WD := wd_mem (k := 54) (by decide +kernel) rfl
theorem kwH_min : Cond.code Lib.Math.min.name Lib.Math.min.code 2 (some .int) ∈ WD := wd_mem (k := 55) (by decide +kernel) rfl
theorem mlN15 : Cond.methodLink R_N 15 Lib.Math.max.name ∈ WD := wd_mem (k := 56) (by decide +kernel) rfl
theorem smH_max : Cond.static Lib.Math.max.name ∈ WD := wd_mem (k := 57) (by decide +kernel) rfl
theorem kwH_max : Cond.code Lib.Math.max.name Lib.Math.max.code 2 (some .int) ∈ WD := wd_mem (k := 58) (by decide +kernel) rfl
theorem mlN52 : Cond.methodLink R_N 52 yA_fill ∈ WD := wd_mem (k := 59) (by decide +kernel) rfl
theorem smA_fill : Cond.static yA_fill ∈ WD := wd_mem (k := 60) (by decide +kernel) rfl
set_option maxRecDepth 20000 in
theorem kwA_fill : kA_fill ∈ WD := wd_mem (k := 61) (rfl) rfl
theorem flN18 : Cond.fieldLink R_N 18 "SprinkleNets" "width" "I" ∈ WD := wd_mem (k := 62) (by decide +kernel) rfl
theorem flN22 : Cond.fieldLink R_N 22 "SprinkleNets" "height" "I" ∈ WD := wd_mem (k := 63) (by decide +kernel) rfl
theorem flN25 : Cond.fieldLink R_N 25 "SprinkleNets" "walls" "[Z" ∈ WD := wd_mem (k := 64) (by decide +kernel) rfl
theorem flN29 : Cond.fieldLink R_N 29 "SprinkleNets" "reachSquare" "I" ∈ WD := wd_mem (k := 65) (by decide +kernel) rfl
theorem flN32 : Cond.fieldLink R_N 32 "SprinkleNets" "placeX" "[I" ∈ WD := wd_mem (k := 66) (by decide +kernel) rfl
theorem flN36 : Cond.fieldLink R_N 36 "SprinkleNets" "placeY" "[I" ∈ WD := wd_mem (k := 67) (by decide +kernel) rfl
theorem flN39 : Cond.fieldLink R_N 39 "SprinkleNets" "placeCount" "I" ∈ WD := wd_mem (k := 68) (by decide +kernel) rfl
theorem flN42 : Cond.fieldLink R_N 42 "SprinkleNets" "reachers" "[I" ∈ WD := wd_mem (k := 69) (by decide +kernel) rfl
theorem flN45 : Cond.fieldLink R_N 45 "SprinkleNets" "reachersAreOld" "Z" ∈ WD := wd_mem (k := 70) (by decide +kernel) rfl
theorem flN49 : Cond.fieldLink R_N 49 "SprinkleNets" "lossOf" "[I" ∈ WD := wd_mem (k := 71) (by decide +kernel) rfl
theorem flN58 : Cond.fieldLink R_N 58 "SprinkleNets" "sizeCount" "I" ∈ WD := wd_mem (k := 72) (by decide +kernel) rfl
theorem flN61 : Cond.fieldLink R_N 61 "SprinkleNets" "upper" "[I" ∈ WD := wd_mem (k := 73) (by decide +kernel) rfl
theorem flN64 : Cond.fieldLink R_N 64 "SprinkleNets" "length" "[I" ∈ WD := wd_mem (k := 74) (by decide +kernel) rfl
theorem flN67 : Cond.fieldLink R_N 67 "SprinkleNets" "headsOn" "[I" ∈ WD := wd_mem (k := 75) (by decide +kernel) rfl
theorem flN70 : Cond.fieldLink R_N 70 "SprinkleNets" "turn" "[I" ∈ WD := wd_mem (k := 76) (by decide +kernel) rfl
theorem flN73 : Cond.fieldLink R_N 73 "SprinkleNets" "lack" "[I" ∈ WD := wd_mem (k := 77) (by decide +kernel) rfl
theorem flN76 : Cond.fieldLink R_N 76 "SprinkleNets" "joined" "[I" ∈ WD := wd_mem (k := 78) (by decide +kernel) rfl
theorem flN79 : Cond.fieldLink R_N 79 "SprinkleNets" "joinedCount" "I" ∈ WD := wd_mem (k := 79) (by decide +kernel) rfl
theorem ac_boolean : Cond.arrayClass .boolean ∈ WD := wd_mem (k := 117) (by decide +kernel) rfl
theorem ac_int : Cond.arrayClass .int ∈ WD := wd_mem (k := 118) (by decide +kernel) rfl
theorem mlL95 : Cond.methodLink R_L 95 yN_best ∈ WD := wd_mem (k := 119) (by decide +kernel) rfl
theorem imN_best : Cond.instanceMethod yN_best ∈ WD := wd_mem (k := 120) (by decide +kernel) rfl
theorem selN_best : Cond.selects R_N yN_best yN_best ∈ WD := wd_mem (k := 121) (by decide +kernel) rfl
set_option maxRecDepth 20000 in
theorem kwN_best : kN_best ∈ WD := wd_mem (k := 122) (rfl) rfl
theorem mlN120 : Cond.methodLink R_N 120 yN_findReachers ∈ WD := wd_mem (k := 123) (by decide +kernel) rfl
theorem imN_findReachers : Cond.instanceMethod yN_findReachers ∈ WD := wd_mem (k := 125) (by decide +kernel) rfl
set_option maxRecDepth 20000 in
theorem kwN_findReachers : kN_findReachers ∈ WD := wd_mem (k := 126) (rfl) rfl
theorem mlN171 : Cond.methodLink R_N 171 yN_addReacher ∈ WD := wd_mem (k := 127) (by decide +kernel) rfl
theorem imN_addReacher : Cond.instanceMethod yN_addReacher ∈ WD := wd_mem (k := 129) (by decide +kernel) rfl
set_option maxRecDepth 20000 in
theorem kwN_addReacher : kN_addReacher ∈ WD := wd_mem (k := 130) (rfl) rfl
theorem mlN175 : Cond.methodLink R_N 175 yN_isNear ∈ WD := wd_mem (k := 131) (by decide +kernel) rfl
theorem imN_isNear : Cond.instanceMethod yN_isNear ∈ WD := wd_mem (k := 133) (by decide +kernel) rfl
set_option maxRecDepth 20000 in
theorem kwN_isNear : kN_isNear ∈ WD := wd_mem (k := 134) (rfl) rfl
theorem mlN112 : Cond.methodLink R_N 112 yN_lineIsFree ∈ WD := wd_mem (k := 135) (by decide +kernel) rfl
theorem imN_lineIsFree : Cond.instanceMethod yN_lineIsFree ∈ WD := wd_mem (k := 137) (by decide +kernel) rfl
set_option maxRecDepth 20000 in
theorem kwN_lineIsFree : kN_lineIsFree ∈ WD := wd_mem (k := 138) (rfl) rfl
theorem mlN168 : Cond.methodLink R_N 168 Lib.Math.abs.name ∈ WD := wd_mem (k := 139) (by decide +kernel) rfl
theorem smH_abs : Cond.static Lib.Math.abs.name ∈ WD := wd_mem (k := 140) (by decide +kernel) rfl
theorem kwH_abs : Cond.code Lib.Math.abs.name Lib.Math.abs.code 1 (some .int) ∈ WD := wd_mem (k := 141) (by decide +kernel) rfl
theorem mlN86 : Cond.methodLink R_N 86 yN_isWall ∈ WD := wd_mem (k := 142) (by decide +kernel) rfl
theorem imN_isWall : Cond.instanceMethod yN_isWall ∈ WD := wd_mem (k := 144) (by decide +kernel) rfl
set_option maxRecDepth 20000 in
theorem kwN_isWall : kN_isWall ∈ WD := wd_mem (k := 145) (rfl) rfl
theorem mlN159 : Cond.methodLink R_N 159 yN_inPlan ∈ WD := wd_mem (k := 146) (by decide +kernel) rfl
theorem imN_inPlan : Cond.instanceMethod yN_inPlan ∈ WD := wd_mem (k := 148) (by decide +kernel) rfl
set_option maxRecDepth 20000 in
theorem kwN_inPlan : kN_inPlan ∈ WD := wd_mem (k := 149) (rfl) rfl
theorem mlN90 : Cond.methodLink R_N 90 yN_cellAt ∈ WD := wd_mem (k := 150) (by decide +kernel) rfl
theorem smN_cellAt : Cond.static yN_cellAt ∈ WD := wd_mem (k := 151) (by decide +kernel) rfl
set_option maxRecDepth 20000 in
theorem kwN_cellAt : kN_cellAt ∈ WD := wd_mem (k := 152) (rfl) rfl
theorem mlN137 : Cond.methodLink R_N 137 yN_allPlaces ∈ WD := wd_mem (k := 153) (by decide +kernel) rfl
theorem imN_allPlaces : Cond.instanceMethod yN_allPlaces ∈ WD := wd_mem (k := 155) (by decide +kernel) rfl
set_option maxRecDepth 20000 in
theorem kwN_allPlaces : kN_allPlaces ∈ WD := wd_mem (k := 156) (rfl) rfl
theorem mlN134 : Cond.methodLink R_N 134 yN_dryCell ∈ WD := wd_mem (k := 157) (by decide +kernel) rfl
theorem imN_dryCell : Cond.instanceMethod yN_dryCell ∈ WD := wd_mem (k := 159) (by decide +kernel) rfl
set_option maxRecDepth 20000 in
theorem kwN_dryCell : kN_dryCell ∈ WD := wd_mem (k := 160) (rfl) rfl
theorem mlN129 : Cond.methodLink R_N 129 yN_isDry ∈ WD := wd_mem (k := 161) (by decide +kernel) rfl
theorem imN_isDry : Cond.instanceMethod yN_isDry ∈ WD := wd_mem (k := 163) (by decide +kernel) rfl
set_option maxRecDepth 20000 in
theorem kwN_isDry : kN_isDry ∈ WD := wd_mem (k := 164) (rfl) rfl
theorem mlN141 : Cond.methodLink R_N 141 yI_bitCount ∈ WD := wd_mem (k := 165) (by decide +kernel) rfl
theorem smI_bitCount : Cond.static yI_bitCount ∈ WD := wd_mem (k := 166) (by decide +kernel) rfl
set_option maxRecDepth 20000 in
theorem kwI_bitCount : kI_bitCount ∈ WD := wd_mem (k := 167) (rfl) rfl
theorem con265 : Cond.constant R_I 265 (1431655765) ∈ WD := wd_mem (k := 168) (by decide +kernel) rfl
theorem con266 : Cond.constant R_I 266 (858993459) ∈ WD := wd_mem (k := 169) (by decide +kernel) rfl
theorem con267 : Cond.constant R_I 267 (252645135) ∈ WD := wd_mem (k := 170) (by decide +kernel) rfl
theorem mlL54 : Cond.methodLink R_L 54 yL_cell ∈ WD := wd_mem (k := 171) (by decide +kernel) rfl
theorem smL_cell : Cond.static yL_cell ∈ WD := wd_mem (k := 172) (by decide +kernel) rfl
set_option maxRecDepth 20000 in
theorem kwL_cell : kL_cell ∈ WD := wd_mem (k := 173) (rfl) rfl
theorem mlL66 : Cond.methodLink R_L 66 yL_wall ∈ WD := wd_mem (k := 174) (by decide +kernel) rfl
theorem smL_wall : Cond.static yL_wall ∈ WD := wd_mem (k := 175) (by decide +kernel) rfl
set_option maxRecDepth 20000 in
theorem kwL_wall : kL_wall ∈ WD := wd_mem (k := 176) (rfl) rfl
theorem clL13 : Cond.classLink R_L 13 "java/lang/IllegalArgumentException" ∈ WD := wd_mem (k := 177) (by decide +kernel) rfl
theorem mlL7 : Cond.methodLink R_L 7 yN_wall ∈ WD := wd_mem (k := 178) (by decide +kernel) rfl
theorem imN_wall : Cond.instanceMethod yN_wall ∈ WD := wd_mem (k := 179) (by decide +kernel) rfl
theorem selN_wall : Cond.selects R_N yN_wall yN_wall ∈ WD := wd_mem (k := 180) (by decide +kernel) rfl
set_option maxRecDepth 20000 in
theorem kwN_wall : kN_wall ∈ WD := wd_mem (k := 181) (rfl) rfl
theorem mlN82 : Cond.methodLink R_N 82 yN_needCell ∈ WD := wd_mem (k := 182) (by decide +kernel) rfl
theorem imN_needCell : Cond.instanceMethod yN_needCell ∈ WD := wd_mem (k := 184) (by decide +kernel) rfl
set_option maxRecDepth 20000 in
theorem kwN_needCell : kN_needCell ∈ WD := wd_mem (k := 185) (rfl) rfl
theorem clN93 : Cond.classLink R_N 93 "java/lang/IllegalArgumentException" ∈ WD := wd_mem (k := 186) (by decide +kernel) rfl
theorem mlL74 : Cond.methodLink R_L 74 yL_reach ∈ WD := wd_mem (k := 253) (by decide +kernel) rfl
theorem smL_reach : Cond.static yL_reach ∈ WD := wd_mem (k := 254) (by decide +kernel) rfl
set_option maxRecDepth 20000 in
theorem kwL_reach : kL_reach ∈ WD := wd_mem (k := 255) (rfl) rfl
theorem mlL15 : Cond.methodLink R_L 15 yN_reach ∈ WD := wd_mem (k := 256) (by decide +kernel) rfl
theorem imN_reach : Cond.instanceMethod yN_reach ∈ WD := wd_mem (k := 257) (by decide +kernel) rfl
theorem selN_reach : Cond.selects R_N yN_reach yN_reach ∈ WD := wd_mem (k := 258) (by decide +kernel) rfl
set_option maxRecDepth 20000 in
theorem kwN_reach : kN_reach ∈ WD := wd_mem (k := 259) (rfl) rfl
theorem mlL78 : Cond.methodLink R_L 78 yL_place ∈ WD := wd_mem (k := 261) (by decide +kernel) rfl
theorem smL_place : Cond.static yL_place ∈ WD := wd_mem (k := 262) (by decide +kernel) rfl
set_option maxRecDepth 20000 in
theorem kwL_place : kL_place ∈ WD := wd_mem (k := 263) (rfl) rfl
theorem clL23 : Cond.classLink R_L 23 "java/lang/IllegalStateException" ∈ WD := wd_mem (k := 264) (by decide +kernel) rfl
theorem mlL19 : Cond.methodLink R_L 19 yN_place ∈ WD := wd_mem (k := 265) (by decide +kernel) rfl
theorem imN_place : Cond.instanceMethod yN_place ∈ WD := wd_mem (k := 266) (by decide +kernel) rfl
theorem selN_place : Cond.selects R_N yN_place yN_place ∈ WD := wd_mem (k := 267) (by decide +kernel) rfl
set_option maxRecDepth 20000 in
theorem kwN_place : kN_place ∈ WD := wd_mem (k := 268) (rfl) rfl
theorem clN100 : Cond.classLink R_N 100 "java/lang/IllegalStateException" ∈ WD := wd_mem (k := 269) (by decide +kernel) rfl
theorem mlN105 : Cond.methodLink R_N 105 yN_isPlace ∈ WD := wd_mem (k := 285) (by decide +kernel) rfl
theorem imN_isPlace : Cond.instanceMethod yN_isPlace ∈ WD := wd_mem (k := 287) (by decide +kernel) rfl
set_option maxRecDepth 20000 in
theorem kwN_isPlace : kN_isPlace ∈ WD := wd_mem (k := 288) (rfl) rfl
theorem mlL82 : Cond.methodLink R_L 82 yL_seen ∈ WD := wd_mem (k := 291) (by decide +kernel) rfl
theorem smL_seen : Cond.static yL_seen ∈ WD := wd_mem (k := 292) (by decide +kernel) rfl
set_option maxRecDepth 20000 in
theorem kwL_seen : kL_seen ∈ WD := wd_mem (k := 293) (rfl) rfl
theorem mlL25 : Cond.methodLink R_L 25 yN_seen ∈ WD := wd_mem (k := 294) (by decide +kernel) rfl
theorem imN_seen : Cond.instanceMethod yN_seen ∈ WD := wd_mem (k := 295) (by decide +kernel) rfl
theorem selN_seen : Cond.selects R_N yN_seen yN_seen ∈ WD := wd_mem (k := 296) (by decide +kernel) rfl
set_option maxRecDepth 20000 in
theorem kwN_seen : kN_seen ∈ WD := wd_mem (k := 297) (rfl) rfl
theorem mlL86 : Cond.methodLink R_L 86 yL_reached ∈ WD := wd_mem (k := 298) (by decide +kernel) rfl
theorem smL_reached : Cond.static yL_reached ∈ WD := wd_mem (k := 299) (by decide +kernel) rfl
set_option maxRecDepth 20000 in
theorem kwL_reached : kL_reached ∈ WD := wd_mem (k := 300) (rfl) rfl
theorem mlL29 : Cond.methodLink R_L 29 yN_reached ∈ WD := wd_mem (k := 301) (by decide +kernel) rfl
theorem imN_reached : Cond.instanceMethod yN_reached ∈ WD := wd_mem (k := 302) (by decide +kernel) rfl
theorem selN_reached : Cond.selects R_N yN_reached yN_reached ∈ WD := wd_mem (k := 303) (by decide +kernel) rfl
set_option maxRecDepth 20000 in
theorem kwN_reached : kN_reached ∈ WD := wd_mem (k := 304) (rfl) rfl
theorem mlN116 : Cond.methodLink R_N 116 yN_needPlace ∈ WD := wd_mem (k := 305) (by decide +kernel) rfl
theorem imN_needPlace : Cond.instanceMethod yN_needPlace ∈ WD := wd_mem (k := 307) (by decide +kernel) rfl
set_option maxRecDepth 20000 in
theorem kwN_needPlace : kN_needPlace ∈ WD := wd_mem (k := 308) (rfl) rfl
theorem mlN123 : Cond.methodLink R_N 123 yN_holds ∈ WD := wd_mem (k := 310) (by decide +kernel) rfl
theorem smN_holds : Cond.static yN_holds ∈ WD := wd_mem (k := 311) (by decide +kernel) rfl
set_option maxRecDepth 20000 in
theorem kwN_holds : kN_holds ∈ WD := wd_mem (k := 312) (rfl) rfl
theorem mlL89 : Cond.methodLink R_L 89 yL_left ∈ WD := wd_mem (k := 313) (by decide +kernel) rfl
theorem smL_left : Cond.static yL_left ∈ WD := wd_mem (k := 314) (by decide +kernel) rfl
set_option maxRecDepth 20000 in
theorem kwL_left : kL_left ∈ WD := wd_mem (k := 315) (rfl) rfl
theorem mlL32 : Cond.methodLink R_L 32 yN_left ∈ WD := wd_mem (k := 316) (by decide +kernel) rfl
theorem imN_left : Cond.instanceMethod yN_left ∈ WD := wd_mem (k := 317) (by decide +kernel) rfl
theorem selN_left : Cond.selects R_N yN_left yN_left ∈ WD := wd_mem (k := 318) (by decide +kernel) rfl
set_option maxRecDepth 20000 in
theorem kwN_left : kN_left ∈ WD := wd_mem (k := 319) (rfl) rfl
theorem mlN126 : Cond.methodLink R_N 126 yN_needSet ∈ WD := wd_mem (k := 320) (by decide +kernel) rfl
theorem imN_needSet : Cond.instanceMethod yN_needSet ∈ WD := wd_mem (k := 322) (by decide +kernel) rfl
set_option maxRecDepth 20000 in
theorem kwN_needSet : kN_needSet ∈ WD := wd_mem (k := 323) (rfl) rfl
theorem mlL92 : Cond.methodLink R_L 92 yL_dry ∈ WD := wd_mem (k := 325) (by decide +kernel) rfl
theorem smL_dry : Cond.static yL_dry ∈ WD := wd_mem (k := 326) (by decide +kernel) rfl
set_option maxRecDepth 20000 in
theorem kwL_dry : kL_dry ∈ WD := wd_mem (k := 327) (rfl) rfl
theorem mlL35 : Cond.methodLink R_L 35 yN_dry ∈ WD := wd_mem (k := 328) (by decide +kernel) rfl
theorem imN_dry : Cond.instanceMethod yN_dry ∈ WD := wd_mem (k := 329) (by decide +kernel) rfl
theorem selN_dry : Cond.selects R_N yN_dry yN_dry ∈ WD := wd_mem (k := 330) (by decide +kernel) rfl
set_option maxRecDepth 20000 in
theorem kwN_dry : kN_dry ∈ WD := wd_mem (k := 331) (rfl) rfl
theorem mlL99 : Cond.methodLink R_L 99 yL_size ∈ WD := wd_mem (k := 333) (by decide +kernel) rfl
theorem smL_size : Cond.static yL_size ∈ WD := wd_mem (k := 334) (by decide +kernel) rfl
set_option maxRecDepth 20000 in
theorem kwL_size : kL_size ∈ WD := wd_mem (k := 335) (rfl) rfl
theorem mlL38 : Cond.methodLink R_L 38 yN_size ∈ WD := wd_mem (k := 336) (by decide +kernel) rfl
theorem imN_size : Cond.instanceMethod yN_size ∈ WD := wd_mem (k := 337) (by decide +kernel) rfl
theorem selN_size : Cond.selects R_N yN_size yN_size ∈ WD := wd_mem (k := 338) (by decide +kernel) rfl
set_option maxRecDepth 20000 in
theorem kwN_size : kN_size ∈ WD := wd_mem (k := 339) (rfl) rfl
theorem mlL102 : Cond.methodLink R_L 102 yL_pipes ∈ WD := wd_mem (k := 342) (by decide +kernel) rfl
theorem smL_pipes : Cond.static yL_pipes ∈ WD := wd_mem (k := 343) (by decide +kernel) rfl
set_option maxRecDepth 20000 in
theorem kwL_pipes : kL_pipes ∈ WD := wd_mem (k := 344) (rfl) rfl
theorem mlL41 : Cond.methodLink R_L 41 yN_pipes ∈ WD := wd_mem (k := 345) (by decide +kernel) rfl
theorem imN_pipes : Cond.instanceMethod yN_pipes ∈ WD := wd_mem (k := 346) (by decide +kernel) rfl
theorem selN_pipes : Cond.selects R_N yN_pipes yN_pipes ∈ WD := wd_mem (k := 347) (by decide +kernel) rfl
set_option maxRecDepth 20000 in
theorem kwN_pipes : kN_pipes ∈ WD := wd_mem (k := 348) (rfl) rfl
theorem mlN151 : Cond.methodLink R_N 151 yN_layPipes ∈ WD := wd_mem (k := 349) (by decide +kernel) rfl
theorem imN_layPipes : Cond.instanceMethod yN_layPipes ∈ WD := wd_mem (k := 351) (by decide +kernel) rfl
set_option maxRecDepth 20000 in
theorem kwN_layPipes : kN_layPipes ∈ WD := wd_mem (k := 352) (rfl) rfl
theorem mlN178 : Cond.methodLink R_N 178 yN_joinPlaces ∈ WD := wd_mem (k := 353) (by decide +kernel) rfl
theorem imN_joinPlaces : Cond.instanceMethod yN_joinPlaces ∈ WD := wd_mem (k := 355) (by decide +kernel) rfl
set_option maxRecDepth 20000 in
theorem kwN_joinPlaces : kN_joinPlaces ∈ WD := wd_mem (k := 356) (rfl) rfl
theorem mlN187 : Cond.methodLink R_N 187 yN_nearestOf ∈ WD := wd_mem (k := 357) (by decide +kernel) rfl
theorem imN_nearestOf : Cond.instanceMethod yN_nearestOf ∈ WD := wd_mem (k := 359) (by decide +kernel) rfl
set_option maxRecDepth 20000 in
theorem kwN_nearestOf : kN_nearestOf ∈ WD := wd_mem (k := 360) (rfl) rfl
theorem mlN190 : Cond.methodLink R_N 190 yN_offerUpper ∈ WD := wd_mem (k := 361) (by decide +kernel) rfl
theorem imN_offerUpper : Cond.instanceMethod yN_offerUpper ∈ WD := wd_mem (k := 363) (by decide +kernel) rfl
set_option maxRecDepth 20000 in
theorem kwN_offerUpper : kN_offerUpper ∈ WD := wd_mem (k := 364) (rfl) rfl
theorem mlN181 : Cond.methodLink R_N 181 yN_countHeads ∈ WD := wd_mem (k := 365) (by decide +kernel) rfl
theorem imN_countHeads : Cond.instanceMethod yN_countHeads ∈ WD := wd_mem (k := 367) (by decide +kernel) rfl
set_option maxRecDepth 20000 in
theorem kwN_countHeads : kN_countHeads ∈ WD := wd_mem (k := 368) (rfl) rfl
theorem mlN184 : Cond.methodLink R_N 184 yN_addLacks ∈ WD := wd_mem (k := 369) (by decide +kernel) rfl
theorem imN_addLacks : Cond.instanceMethod yN_addLacks ∈ WD := wd_mem (k := 371) (by decide +kernel) rfl
set_option maxRecDepth 20000 in
theorem kwN_addLacks : kN_addLacks ∈ WD := wd_mem (k := 372) (rfl) rfl
theorem mlN156 : Cond.methodLink R_N 156 yN_lossFor ∈ WD := wd_mem (k := 373) (by decide +kernel) rfl
theorem imN_lossFor : Cond.instanceMethod yN_lossFor ∈ WD := wd_mem (k := 375) (by decide +kernel) rfl
set_option maxRecDepth 20000 in
theorem kwN_lossFor : kN_lossFor ∈ WD := wd_mem (k := 376) (rfl) rfl
theorem mlL105 : Cond.methodLink R_L 105 yL_pipe ∈ WD := wd_mem (k := 377) (by decide +kernel) rfl
theorem smL_pipe : Cond.static yL_pipe ∈ WD := wd_mem (k := 378) (by decide +kernel) rfl
set_option maxRecDepth 20000 in
theorem kwL_pipe : kL_pipe ∈ WD := wd_mem (k := 379) (rfl) rfl
theorem mlL44 : Cond.methodLink R_L 44 yN_pipe ∈ WD := wd_mem (k := 380) (by decide +kernel) rfl
theorem imN_pipe : Cond.instanceMethod yN_pipe ∈ WD := wd_mem (k := 381) (by decide +kernel) rfl
theorem selN_pipe : Cond.selects R_N yN_pipe yN_pipe ∈ WD := wd_mem (k := 382) (by decide +kernel) rfl
set_option maxRecDepth 20000 in
theorem kwN_pipe : kN_pipe ∈ WD := wd_mem (k := 383) (rfl) rfl
theorem mlL109 : Cond.methodLink R_L 109 yL_lacks ∈ WD := wd_mem (k := 385) (by decide +kernel) rfl
theorem smL_lacks : Cond.static yL_lacks ∈ WD := wd_mem (k := 386) (by decide +kernel) rfl
set_option maxRecDepth 20000 in
theorem kwL_lacks : kL_lacks ∈ WD := wd_mem (k := 387) (rfl) rfl
theorem mlL48 : Cond.methodLink R_L 48 yN_lacks ∈ WD := wd_mem (k := 388) (by decide +kernel) rfl
theorem imN_lacks : Cond.instanceMethod yN_lacks ∈ WD := wd_mem (k := 389) (by decide +kernel) rfl
theorem selN_lacks : Cond.selects R_N yN_lacks yN_lacks ∈ WD := wd_mem (k := 390) (by decide +kernel) rfl
set_option maxRecDepth 20000 in
theorem kwN_lacks : kN_lacks ∈ WD := wd_mem (k := 391) (rfl) rfl
theorem mlL112 : Cond.methodLink R_L 112 yL_worst ∈ WD := wd_mem (k := 392) (by decide +kernel) rfl
theorem smL_worst : Cond.static yL_worst ∈ WD := wd_mem (k := 393) (by decide +kernel) rfl
set_option maxRecDepth 20000 in
theorem kwL_worst : kL_worst ∈ WD := wd_mem (k := 394) (rfl) rfl
theorem mlL51 : Cond.methodLink R_L 51 yN_worst ∈ WD := wd_mem (k := 395) (by decide +kernel) rfl
theorem imN_worst : Cond.instanceMethod yN_worst ∈ WD := wd_mem (k := 396) (by decide +kernel) rfl
theorem selN_worst : Cond.selects R_N yN_worst yN_worst ∈ WD := wd_mem (k := 397) (by decide +kernel) rfl
set_option maxRecDepth 20000 in
theorem kwN_worst : kN_worst ∈ WD := wd_mem (k := 398) (rfl) rfl
theorem clL63 : Cond.classLink R_L 63 R_M ∈ WD := wd_mem (k := 399) (by decide +kernel) rfl
theorem insM : Cond.instantiable R_M 16 ∈ WD := wd_mem (k := 400) (by decide +kernel) rfl
theorem mlL65 : Cond.methodLink R_L 65 yM_init ∈ WD := wd_mem (k := 401) (by decide +kernel) rfl
theorem imM_init : Cond.instanceMethod yM_init ∈ WD := wd_mem (k := 402) (by decide +kernel) rfl
set_option maxRecDepth 20000 in
theorem kwM_init : kM_init ∈ WD := wd_mem (k := 403) (rfl) rfl
theorem mlM1 : Cond.methodLink R_M 1 objectInit ∈ WD := wd_mem (k := 404) (by decide +kernel) rfl
theorem flM51 : Cond.fieldLink R_M 51 "SprinkleNetsModel" "code" "I" ∈ WD := wd_mem (k := 405) (by decide +kernel) rfl
theorem flM45 : Cond.fieldLink R_M 45 "SprinkleNetsModel" "wide" "I" ∈ WD := wd_mem (k := 406) (by decide +kernel) rfl
theorem flM48 : Cond.fieldLink R_M 48 "SprinkleNetsModel" "tall" "I" ∈ WD := wd_mem (k := 407) (by decide +kernel) rfl
theorem flM7 : Cond.fieldLink R_M 7 "SprinkleNetsModel" "wall" "[Z" ∈ WD := wd_mem (k := 408) (by decide +kernel) rfl
theorem flM13 : Cond.fieldLink R_M 13 "SprinkleNetsModel" "reach" "I" ∈ WD := wd_mem (k := 409) (by decide +kernel) rfl
theorem flM54 : Cond.fieldLink R_M 54 "SprinkleNetsModel" "places" "I" ∈ WD := wd_mem (k := 410) (by decide +kernel) rfl
theorem flM17 : Cond.fieldLink R_M 17 "SprinkleNetsModel" "px" "[I" ∈ WD := wd_mem (k := 411) (by decide +kernel) rfl
theorem flM21 : Cond.fieldLink R_M 21 "SprinkleNetsModel" "py" "[I" ∈ WD := wd_mem (k := 412) (by decide +kernel) rfl
theorem flM24 : Cond.fieldLink R_M 24 "SprinkleNetsModel" "loss" "[I" ∈ WD := wd_mem (k := 413) (by decide +kernel) rfl
theorem flM27 : Cond.fieldLink R_M 27 "SprinkleNetsModel" "reached" "[I" ∈ WD := wd_mem (k := 414) (by decide +kernel) rfl
theorem flM107 : Cond.fieldLink R_M 107 "SprinkleNetsModel" "joined" "I" ∈ WD := wd_mem (k := 415) (by decide +kernel) rfl
theorem flM30 : Cond.fieldLink R_M 30 "SprinkleNetsModel" "order" "[I" ∈ WD := wd_mem (k := 416) (by decide +kernel) rfl
theorem flM33 : Cond.fieldLink R_M 33 "SprinkleNetsModel" "upper" "[I" ∈ WD := wd_mem (k := 417) (by decide +kernel) rfl
theorem flM36 : Cond.fieldLink R_M 36 "SprinkleNetsModel" "length" "[I" ∈ WD := wd_mem (k := 418) (by decide +kernel) rfl
theorem flM39 : Cond.fieldLink R_M 39 "SprinkleNetsModel" "heads" "[I" ∈ WD := wd_mem (k := 419) (by decide +kernel) rfl
theorem flM42 : Cond.fieldLink R_M 42 "SprinkleNetsModel" "turn" "[I" ∈ WD := wd_mem (k := 420) (by decide +kernel) rfl
theorem mlL70 : Cond.methodLink R_L 70 yM_thrown ∈ WD := wd_mem (k := 454) (by decide +kernel) rfl
theorem imM_thrown : Cond.instanceMethod yM_thrown ∈ WD := wd_mem (k := 455) (by decide +kernel) rfl
theorem selM_thrown : Cond.selects R_M yM_thrown yM_thrown ∈ WD := wd_mem (k := 456) (by decide +kernel) rfl
set_option maxRecDepth 20000 in
theorem kwM_thrown : kM_thrown ∈ WD := wd_mem (k := 457) (rfl) rfl
theorem mlL69 : Cond.methodLink R_L 69 yM_wall ∈ WD := wd_mem (k := 458) (by decide +kernel) rfl
theorem imM_wall : Cond.instanceMethod yM_wall ∈ WD := wd_mem (k := 459) (by decide +kernel) rfl
theorem selM_wall : Cond.selects R_M yM_wall yM_wall ∈ WD := wd_mem (k := 460) (by decide +kernel) rfl
set_option maxRecDepth 20000 in
theorem kwM_wall : kM_wall ∈ WD := wd_mem (k := 461) (rfl) rfl
theorem mlM57 : Cond.methodLink R_M 57 yM_isCell ∈ WD := wd_mem (k := 462) (by decide +kernel) rfl
theorem imM_isCell : Cond.instanceMethod yM_isCell ∈ WD := wd_mem (k := 464) (by decide +kernel) rfl
set_option maxRecDepth 20000 in
theorem kwM_isCell : kM_isCell ∈ WD := wd_mem (k := 465) (rfl) rfl
theorem mlL77 : Cond.methodLink R_L 77 yM_reach ∈ WD := wd_mem (k := 466) (by decide +kernel) rfl
theorem imM_reach : Cond.instanceMethod yM_reach ∈ WD := wd_mem (k := 467) (by decide +kernel) rfl
theorem selM_reach : Cond.selects R_M yM_reach yM_reach ∈ WD := wd_mem (k := 468) (by decide +kernel) rfl
set_option maxRecDepth 20000 in
theorem kwM_reach : kM_reach ∈ WD := wd_mem (k := 469) (rfl) rfl
theorem mlL81 : Cond.methodLink R_L 81 yM_place ∈ WD := wd_mem (k := 470) (by decide +kernel) rfl
theorem imM_place : Cond.instanceMethod yM_place ∈ WD := wd_mem (k := 471) (by decide +kernel) rfl
theorem selM_place : Cond.selects R_M yM_place yM_place ∈ WD := wd_mem (k := 472) (by decide +kernel) rfl
set_option maxRecDepth 20000 in
theorem kwM_place : kM_place ∈ WD := wd_mem (k := 473) (rfl) rfl
theorem mlM61 : Cond.methodLink R_M 61 yM_isFree ∈ WD := wd_mem (k := 474) (by decide +kernel) rfl
theorem imM_isFree : Cond.instanceMethod yM_isFree ∈ WD := wd_mem (k := 476) (by decide +kernel) rfl
set_option maxRecDepth 20000 in
theorem kwM_isFree : kM_isFree ∈ WD := wd_mem (k := 477) (rfl) rfl
theorem mlL85 : Cond.methodLink R_L 85 yM_seen ∈ WD := wd_mem (k := 478) (by decide +kernel) rfl
theorem imM_seen : Cond.instanceMethod yM_seen ∈ WD := wd_mem (k := 479) (by decide +kernel) rfl
theorem selM_seen : Cond.selects R_M yM_seen yM_seen ∈ WD := wd_mem (k := 480) (by decide +kernel) rfl
set_option maxRecDepth 20000 in
theorem kwM_seen : kM_seen ∈ WD := wd_mem (k := 481) (rfl) rfl
theorem mlM79 : Cond.methodLink R_M 79 yM_sees ∈ WD := wd_mem (k := 482) (by decide +kernel) rfl
theorem imM_sees : Cond.instanceMethod yM_sees ∈ WD := wd_mem (k := 484) (by decide +kernel) rfl
set_option maxRecDepth 20000 in
theorem kwM_sees : kM_sees ∈ WD := wd_mem (k := 485) (rfl) rfl
theorem mlM68 : Cond.methodLink R_M 68 yM_least ∈ WD := wd_mem (k := 486) (by decide +kernel) rfl
theorem smM_least : Cond.static yM_least ∈ WD := wd_mem (k := 487) (by decide +kernel) rfl
set_option maxRecDepth 20000 in
theorem kwM_least : kM_least ∈ WD := wd_mem (k := 488) (rfl) rfl
theorem mlM64 : Cond.methodLink R_M 64 yM_most ∈ WD := wd_mem (k := 489) (by decide +kernel) rfl
theorem smM_most : Cond.static yM_most ∈ WD := wd_mem (k := 490) (by decide +kernel) rfl
set_option maxRecDepth 20000 in
theorem kwM_most : kM_most ∈ WD := wd_mem (k := 491) (rfl) rfl
theorem mlM75 : Cond.methodLink R_M 75 yM_crosses ∈ WD := wd_mem (k := 492) (by decide +kernel) rfl
theorem smM_crosses : Cond.static yM_crosses ∈ WD := wd_mem (k := 493) (by decide +kernel) rfl
set_option maxRecDepth 20000 in
theorem kwM_crosses : kM_crosses ∈ WD := wd_mem (k := 494) (rfl) rfl
theorem mlM71 : Cond.methodLink R_M 71 yM_side ∈ WD := wd_mem (k := 495) (by decide +kernel) rfl
theorem smM_side : Cond.static yM_side ∈ WD := wd_mem (k := 496) (by decide +kernel) rfl
set_option maxRecDepth 20000 in
theorem kwM_side : kM_side ∈ WD := wd_mem (k := 497) (rfl) rfl
theorem mlL88 : Cond.methodLink R_L 88 yM_reached ∈ WD := wd_mem (k := 498) (by decide +kernel) rfl
theorem imM_reached : Cond.instanceMethod yM_reached ∈ WD := wd_mem (k := 499) (by decide +kernel) rfl
theorem selM_reached : Cond.selects R_M yM_reached yM_reached ∈ WD := wd_mem (k := 500) (by decide +kernel) rfl
set_option maxRecDepth 20000 in
theorem kwM_reached : kM_reached ∈ WD := wd_mem (k := 501) (rfl) rfl
theorem mlM87 : Cond.methodLink R_M 87 yM_isPlace ∈ WD := wd_mem (k := 502) (by decide +kernel) rfl
theorem imM_isPlace : Cond.instanceMethod yM_isPlace ∈ WD := wd_mem (k := 504) (by decide +kernel) rfl
set_option maxRecDepth 20000 in
theorem kwM_isPlace : kM_isPlace ∈ WD := wd_mem (k := 505) (rfl) rfl
theorem mlM83 : Cond.methodLink R_M 83 yM_isReached ∈ WD := wd_mem (k := 506) (by decide +kernel) rfl
theorem imM_isReached : Cond.instanceMethod yM_isReached ∈ WD := wd_mem (k := 508) (by decide +kernel) rfl
set_option maxRecDepth 20000 in
theorem kwM_isReached : kM_isReached ∈ WD := wd_mem (k := 509) (rfl) rfl
theorem mlL91 : Cond.methodLink R_L 91 yM_left ∈ WD := wd_mem (k := 510) (by decide +kernel) rfl
theorem imM_left : Cond.instanceMethod yM_left ∈ WD := wd_mem (k := 511) (by decide +kernel) rfl
theorem selM_left : Cond.selects R_M yM_left yM_left ∈ WD := wd_mem (k := 512) (by decide +kernel) rfl
set_option maxRecDepth 20000 in
theorem kwM_left : kM_left ∈ WD := wd_mem (k := 513) (rfl) rfl
theorem mlM91 : Cond.methodLink R_M 91 yM_isSet ∈ WD := wd_mem (k := 514) (by decide +kernel) rfl
theorem imM_isSet : Cond.instanceMethod yM_isSet ∈ WD := wd_mem (k := 516) (by decide +kernel) rfl
set_option maxRecDepth 20000 in
theorem kwM_isSet : kM_isSet ∈ WD := wd_mem (k := 517) (rfl) rfl
theorem mlM94 : Cond.methodLink R_M 94 yM_findReached ∈ WD := wd_mem (k := 518) (by decide +kernel) rfl
theorem imM_findReached : Cond.instanceMethod yM_findReached ∈ WD := wd_mem (k := 520) (by decide +kernel) rfl
set_option maxRecDepth 20000 in
theorem kwM_findReached : kM_findReached ∈ WD := wd_mem (k := 521) (rfl) rfl
theorem mlM97 : Cond.methodLink R_M 97 yM_dryCells ∈ WD := wd_mem (k := 522) (by decide +kernel) rfl
theorem imM_dryCells : Cond.instanceMethod yM_dryCells ∈ WD := wd_mem (k := 524) (by decide +kernel) rfl
set_option maxRecDepth 20000 in
theorem kwM_dryCells : kM_dryCells ∈ WD := wd_mem (k := 525) (rfl) rfl
theorem mlL94 : Cond.methodLink R_L 94 yM_dry ∈ WD := wd_mem (k := 526) (by decide +kernel) rfl
theorem imM_dry : Cond.instanceMethod yM_dry ∈ WD := wd_mem (k := 527) (by decide +kernel) rfl
theorem selM_dry : Cond.selects R_M yM_dry yM_dry ∈ WD := wd_mem (k := 528) (by decide +kernel) rfl
set_option maxRecDepth 20000 in
theorem kwM_dry : kM_dry ∈ WD := wd_mem (k := 529) (rfl) rfl
theorem mlL98 : Cond.methodLink R_L 98 yM_best ∈ WD := wd_mem (k := 530) (by decide +kernel) rfl
theorem imM_best : Cond.instanceMethod yM_best ∈ WD := wd_mem (k := 531) (by decide +kernel) rfl
theorem selM_best : Cond.selects R_M yM_best yM_best ∈ WD := wd_mem (k := 532) (by decide +kernel) rfl
set_option maxRecDepth 20000 in
theorem kwM_best : kM_best ∈ WD := wd_mem (k := 533) (rfl) rfl
theorem mlM101 : Cond.methodLink R_M 101 yM_ones ∈ WD := wd_mem (k := 534) (by decide +kernel) rfl
theorem smM_ones : Cond.static yM_ones ∈ WD := wd_mem (k := 535) (by decide +kernel) rfl
set_option maxRecDepth 20000 in
theorem kwM_ones : kM_ones ∈ WD := wd_mem (k := 536) (rfl) rfl
theorem mlL101 : Cond.methodLink R_L 101 yM_size ∈ WD := wd_mem (k := 537) (by decide +kernel) rfl
theorem imM_size : Cond.instanceMethod yM_size ∈ WD := wd_mem (k := 538) (by decide +kernel) rfl
theorem selM_size : Cond.selects R_M yM_size yM_size ∈ WD := wd_mem (k := 539) (by decide +kernel) rfl
set_option maxRecDepth 20000 in
theorem kwM_size : kM_size ∈ WD := wd_mem (k := 540) (rfl) rfl
theorem mlL104 : Cond.methodLink R_L 104 yM_pipes ∈ WD := wd_mem (k := 541) (by decide +kernel) rfl
theorem imM_pipes : Cond.instanceMethod yM_pipes ∈ WD := wd_mem (k := 542) (by decide +kernel) rfl
theorem selM_pipes : Cond.selects R_M yM_pipes yM_pipes ∈ WD := wd_mem (k := 543) (by decide +kernel) rfl
set_option maxRecDepth 20000 in
theorem kwM_pipes : kM_pipes ∈ WD := wd_mem (k := 544) (rfl) rfl
theorem mlM113 : Cond.methodLink R_M 113 yM_join ∈ WD := wd_mem (k := 545) (by decide +kernel) rfl
theorem imM_join : Cond.instanceMethod yM_join ∈ WD := wd_mem (k := 547) (by decide +kernel) rfl
set_option maxRecDepth 20000 in
theorem kwM_join : kM_join ∈ WD := wd_mem (k := 548) (rfl) rfl
theorem mlM110 : Cond.methodLink R_M 110 yM_far ∈ WD := wd_mem (k := 549) (by decide +kernel) rfl
theorem imM_far : Cond.instanceMethod yM_far ∈ WD := wd_mem (k := 551) (by decide +kernel) rfl
set_option maxRecDepth 20000 in
theorem kwM_far : kM_far ∈ WD := wd_mem (k := 552) (rfl) rfl
theorem mlM104 : Cond.methodLink R_M 104 yM_plain ∈ WD := wd_mem (k := 553) (by decide +kernel) rfl
theorem smM_plain : Cond.static yM_plain ∈ WD := wd_mem (k := 554) (by decide +kernel) rfl
set_option maxRecDepth 20000 in
theorem kwM_plain : kM_plain ∈ WD := wd_mem (k := 555) (rfl) rfl
theorem mlL108 : Cond.methodLink R_L 108 yM_pipe ∈ WD := wd_mem (k := 556) (by decide +kernel) rfl
theorem imM_pipe : Cond.instanceMethod yM_pipe ∈ WD := wd_mem (k := 557) (by decide +kernel) rfl
theorem selM_pipe : Cond.selects R_M yM_pipe yM_pipe ∈ WD := wd_mem (k := 558) (by decide +kernel) rfl
set_option maxRecDepth 20000 in
theorem kwM_pipe : kM_pipe ∈ WD := wd_mem (k := 559) (rfl) rfl
theorem mlM117 : Cond.methodLink R_M 117 yM_isIn ∈ WD := wd_mem (k := 560) (by decide +kernel) rfl
theorem imM_isIn : Cond.instanceMethod yM_isIn ∈ WD := wd_mem (k := 562) (by decide +kernel) rfl
set_option maxRecDepth 20000 in
theorem kwM_isIn : kM_isIn ∈ WD := wd_mem (k := 563) (rfl) rfl
theorem mlM120 : Cond.methodLink R_M 120 yM_lossOf ∈ WD := wd_mem (k := 564) (by decide +kernel) rfl
theorem imM_lossOf : Cond.instanceMethod yM_lossOf ∈ WD := wd_mem (k := 566) (by decide +kernel) rfl
set_option maxRecDepth 20000 in
theorem kwM_lossOf : kM_lossOf ∈ WD := wd_mem (k := 567) (rfl) rfl
theorem mlL111 : Cond.methodLink R_L 111 yM_lacks ∈ WD := wd_mem (k := 568) (by decide +kernel) rfl
theorem imM_lacks : Cond.instanceMethod yM_lacks ∈ WD := wd_mem (k := 569) (by decide +kernel) rfl
theorem selM_lacks : Cond.selects R_M yM_lacks yM_lacks ∈ WD := wd_mem (k := 570) (by decide +kernel) rfl
set_option maxRecDepth 20000 in
theorem kwM_lacks : kM_lacks ∈ WD := wd_mem (k := 571) (rfl) rfl
theorem mlM123 : Cond.methodLink R_M 123 yM_lost ∈ WD := wd_mem (k := 572) (by decide +kernel) rfl
theorem imM_lost : Cond.instanceMethod yM_lost ∈ WD := wd_mem (k := 574) (by decide +kernel) rfl
set_option maxRecDepth 20000 in
theorem kwM_lost : kM_lost ∈ WD := wd_mem (k := 575) (rfl) rfl
theorem mlL114 : Cond.methodLink R_L 114 yM_worst ∈ WD := wd_mem (k := 576) (by decide +kernel) rfl
theorem imM_worst : Cond.instanceMethod yM_worst ∈ WD := wd_mem (k := 577) (by decide +kernel) rfl
theorem selM_worst : Cond.selects R_M yM_worst yM_worst ∈ WD := wd_mem (k := 578) (by decide +kernel) rfl
set_option maxRecDepth 20000 in
theorem kwM_worst : kM_worst ∈ WD := wd_mem (k := 579) (rfl) rfl
theorem ac_long : Cond.arrayClass .long ∈ WD := wd_mem (k := 580) (by decide +kernel) rfl
theorem gN52 : GoodIn WD (va_wsS R_N 52 yA_fill (kA_fill :: WD)) := wd_call kwA_fill (wd_c mlN52 (wd_c smA_fill (wd_c iniA wd_n)))
theorem gN82 : GoodIn WD (wsV R_N 82 R_N yN_needCell (kN_needCell :: WD)) := wd_call kwN_needCell (wd_c mlN82 (wd_c imN_needCell (wd_c selN_needCell (wd_c iniN wd_n))))
theorem gN86 : GoodIn WD (wsV R_N 86 R_N yN_isWall (kN_isWall :: WD)) := wd_call kwN_isWall (wd_c mlN86 (wd_c imN_isWall (wd_c selN_isWall (wd_c iniN wd_n))))
theorem gN90 : GoodIn WD (va_wsS R_N 90 yN_cellAt (kN_cellAt :: WD)) := wd_call kwN_cellAt (wd_c mlN90 (wd_c smN_cellAt (wd_c iniN wd_n)))
theorem gN105 : GoodIn WD (wsV R_N 105 R_N yN_isPlace (kN_isPlace :: WD)) := wd_call kwN_isPlace (wd_c mlN105 (wd_c imN_isPlace (wd_c selN_isPlace (wd_c iniN wd_n))))
theorem gN112 : GoodIn WD (wsV R_N 112 R_N yN_lineIsFree (kN_lineIsFree :: WD)) := wd_call kwN_lineIsFree (wd_c mlN112 (wd_c imN_lineIsFree (wd_c selN_lineIsFree (wd_c iniN wd_n))))
theorem gN116 : GoodIn WD (wsV R_N 116 R_N yN_needPlace (kN_needPlace :: WD)) := wd_call kwN_needPlace (wd_c mlN116 (wd_c imN_needPlace (wd_c selN_needPlace (wd_c iniN wd_n))))
theorem gN120 : GoodIn WD (wsV R_N 120 R_N yN_findReachers (kN_findReachers :: WD)) := wd_call kwN_findReachers (wd_c mlN120 (wd_c imN_findReachers (wd_c selN_findReachers (wd_c iniN wd_n))))
theorem gN123 : GoodIn WD (va_wsS R_N 123 yN_holds (kN_holds :: WD)) := wd_call kwN_holds (wd_c mlN123 (wd_c smN_holds (wd_c iniN wd_n)))
theorem gN126 : GoodIn WD (wsV R_N 126 R_N yN_needSet (kN_needSet :: WD)) := wd_call kwN_needSet (wd_c mlN126 (wd_c imN_needSet (wd_c selN_needSet (wd_c iniN wd_n))))
theorem gN129 : GoodIn WD (wsV R_N 129 R_N yN_isDry (kN_isDry :: WD)) := wd_call kwN_isDry (wd_c mlN129 (wd_c imN_isDry (wd_c selN_isDry (wd_c iniN wd_n))))
theorem gN134 : GoodIn WD (wsV R_N 134 R_N yN_dryCell (kN_dryCell :: WD)) := wd_call kwN_dryCell (wd_c mlN134 (wd_c imN_dryCell (wd_c selN_dryCell (wd_c iniN wd_n))))
theorem gN137 : GoodIn WD (wsV R_N 137 R_N yN_allPlaces (kN_allPlaces :: WD)) := wd_call kwN_allPlaces (wd_c mlN137 (wd_c imN_allPlaces (wd_c selN_allPlaces (wd_c iniN wd_n))))
theorem gN141 : GoodIn WD (va_wsS R_N 141 yI_bitCount (kI_bitCount :: WD)) := wd_call kwI_bitCount (wd_c mlN141 (wd_c smI_bitCount (wd_c iniI wd_n)))
theorem gN151 : GoodIn WD (wsV R_N 151 R_N yN_layPipes (kN_layPipes :: WD)) := wd_call kwN_layPipes (wd_c mlN151 (wd_c imN_layPipes (wd_c selN_layPipes (wd_c iniN wd_n))))
theorem gN156 : GoodIn WD (wsV R_N 156 R_N yN_lossFor (kN_lossFor :: WD)) := wd_call kwN_lossFor (wd_c mlN156 (wd_c imN_lossFor (wd_c selN_lossFor (wd_c iniN wd_n))))
theorem gN159 : GoodIn WD (wsV R_N 159 R_N yN_inPlan (kN_inPlan :: WD)) := wd_call kwN_inPlan (wd_c mlN159 (wd_c imN_inPlan (wd_c selN_inPlan (wd_c iniN wd_n))))
theorem gN171 : GoodIn WD (wsV R_N 171 R_N yN_addReacher (kN_addReacher :: WD)) := wd_call kwN_addReacher (wd_c mlN171 (wd_c imN_addReacher (wd_c selN_addReacher (wd_c iniN wd_n))))
theorem gN175 : GoodIn WD (wsV R_N 175 R_N yN_isNear (kN_isNear :: WD)) := wd_call kwN_isNear (wd_c mlN175 (wd_c imN_isNear (wd_c selN_isNear (wd_c iniN wd_n))))
theorem gN178 : GoodIn WD (wsV R_N 178 R_N yN_joinPlaces (kN_joinPlaces :: WD)) := wd_call kwN_joinPlaces (wd_c mlN178 (wd_c imN_joinPlaces (wd_c selN_joinPlaces (wd_c iniN wd_n))))
theorem gN181 : GoodIn WD (wsV R_N 181 R_N yN_countHeads (kN_countHeads :: WD)) := wd_call kwN_countHeads (wd_c mlN181 (wd_c imN_countHeads (wd_c selN_countHeads (wd_c iniN wd_n))))
theorem gN184 : GoodIn WD (wsV R_N 184 R_N yN_addLacks (kN_addLacks :: WD)) := wd_call kwN_addLacks (wd_c mlN184 (wd_c imN_addLacks (wd_c selN_addLacks (wd_c iniN wd_n))))
theorem gN187 : GoodIn WD (wsV R_N 187 R_N yN_nearestOf (kN_nearestOf :: WD)) := wd_call kwN_nearestOf (wd_c mlN187 (wd_c imN_nearestOf (wd_c selN_nearestOf (wd_c iniN wd_n))))
theorem gN190 : GoodIn WD (wsV R_N 190 R_N yN_offerUpper (kN_offerUpper :: WD)) := wd_call kwN_offerUpper (wd_c mlN190 (wd_c imN_offerUpper (wd_c selN_offerUpper (wd_c iniN wd_n))))
theorem gL7 : GoodIn WD (wsV R_L 7 R_N yN_wall (kN_wall :: WD)) := wd_call kwN_wall (wd_c mlL7 (wd_c imN_wall (wd_c selN_wall (wd_c iniN wd_n))))
theorem gL15 : GoodIn WD (wsV R_L 15 R_N yN_reach (kN_reach :: WD)) := wd_call kwN_reach (wd_c mlL15 (wd_c imN_reach (wd_c selN_reach (wd_c iniN wd_n))))
theorem gL19 : GoodIn WD (wsV R_L 19 R_N yN_place (kN_place :: WD)) := wd_call kwN_place (wd_c mlL19 (wd_c imN_place (wd_c selN_place (wd_c iniN wd_n))))
theorem gL25 : GoodIn WD (wsV R_L 25 R_N yN_seen (kN_seen :: WD)) := wd_call kwN_seen (wd_c mlL25 (wd_c imN_seen (wd_c selN_seen (wd_c iniN wd_n))))
theorem gL29 : GoodIn WD (wsV R_L 29 R_N yN_reached (kN_reached :: WD)) := wd_call kwN_reached (wd_c mlL29 (wd_c imN_reached (wd_c selN_reached (wd_c iniN wd_n))))
theorem gL32 : GoodIn WD (wsV R_L 32 R_N yN_left (kN_left :: WD)) := wd_call kwN_left (wd_c mlL32 (wd_c imN_left (wd_c selN_left (wd_c iniN wd_n))))
theorem gL35 : GoodIn WD (wsV R_L 35 R_N yN_dry (kN_dry :: WD)) := wd_call kwN_dry (wd_c mlL35 (wd_c imN_dry (wd_c selN_dry (wd_c iniN wd_n))))
theorem gL38 : GoodIn WD (wsV R_L 38 R_N yN_size (kN_size :: WD)) := wd_call kwN_size (wd_c mlL38 (wd_c imN_size (wd_c selN_size (wd_c iniN wd_n))))
theorem gL41 : GoodIn WD (wsV R_L 41 R_N yN_pipes (kN_pipes :: WD)) := wd_call kwN_pipes (wd_c mlL41 (wd_c imN_pipes (wd_c selN_pipes (wd_c iniN wd_n))))
theorem gL44 : GoodIn WD (wsV R_L 44 R_N yN_pipe (kN_pipe :: WD)) := wd_call kwN_pipe (wd_c mlL44 (wd_c imN_pipe (wd_c selN_pipe (wd_c iniN wd_n))))
theorem gL48 : GoodIn WD (wsV R_L 48 R_N yN_lacks (kN_lacks :: WD)) := wd_call kwN_lacks (wd_c mlL48 (wd_c imN_lacks (wd_c selN_lacks (wd_c iniN wd_n))))
theorem gL51 : GoodIn WD (wsV R_L 51 R_N yN_worst (kN_worst :: WD)) := wd_call kwN_worst (wd_c mlL51 (wd_c imN_worst (wd_c selN_worst (wd_c iniN wd_n))))
theorem gL54 : GoodIn WD (va_wsS R_L 54 yL_cell (kL_cell :: WD)) := wd_call kwL_cell (wd_c mlL54 (wd_c smL_cell (wd_c iniL wd_n)))
theorem gL60 : GoodIn WD (kN_init :: WD) := wd_self kwN_init
theorem gL65 : GoodIn WD (kM_init :: WD) := wd_self kwM_init
theorem gL66 : GoodIn WD (va_wsS R_L 66 yL_wall (kL_wall :: WD)) := wd_call kwL_wall (wd_c mlL66 (wd_c smL_wall (wd_c iniL wd_n)))
theorem gL69 : GoodIn WD (wsV R_L 69 R_M yM_wall (kM_wall :: WD)) := wd_call kwM_wall (wd_c mlL69 (wd_c imM_wall (wd_c selM_wall (wd_c iniM wd_n))))
theorem gL70 : GoodIn WD (wsV R_L 70 R_M yM_thrown (kM_thrown :: WD)) := wd_call kwM_thrown (wd_c mlL70 (wd_c imM_thrown (wd_c selM_thrown (wd_c iniM wd_n))))
theorem gL74 : GoodIn WD (va_wsS R_L 74 yL_reach (kL_reach :: WD)) := wd_call kwL_reach (wd_c mlL74 (wd_c smL_reach (wd_c iniL wd_n)))
theorem gL77 : GoodIn WD (wsV R_L 77 R_M yM_reach (kM_reach :: WD)) := wd_call kwM_reach (wd_c mlL77 (wd_c imM_reach (wd_c selM_reach (wd_c iniM wd_n))))
theorem gL78 : GoodIn WD (va_wsS R_L 78 yL_place (kL_place :: WD)) := wd_call kwL_place (wd_c mlL78 (wd_c smL_place (wd_c iniL wd_n)))
theorem gL81 : GoodIn WD (wsV R_L 81 R_M yM_place (kM_place :: WD)) := wd_call kwM_place (wd_c mlL81 (wd_c imM_place (wd_c selM_place (wd_c iniM wd_n))))
theorem gL82 : GoodIn WD (va_wsS R_L 82 yL_seen (kL_seen :: WD)) := wd_call kwL_seen (wd_c mlL82 (wd_c smL_seen (wd_c iniL wd_n)))
theorem gL85 : GoodIn WD (wsV R_L 85 R_M yM_seen (kM_seen :: WD)) := wd_call kwM_seen (wd_c mlL85 (wd_c imM_seen (wd_c selM_seen (wd_c iniM wd_n))))
theorem gL86 : GoodIn WD (va_wsS R_L 86 yL_reached (kL_reached :: WD)) := wd_call kwL_reached (wd_c mlL86 (wd_c smL_reached (wd_c iniL wd_n)))
theorem gL88 : GoodIn WD (wsV R_L 88 R_M yM_reached (kM_reached :: WD)) := wd_call kwM_reached (wd_c mlL88 (wd_c imM_reached (wd_c selM_reached (wd_c iniM wd_n))))
theorem gL89 : GoodIn WD (va_wsS R_L 89 yL_left (kL_left :: WD)) := wd_call kwL_left (wd_c mlL89 (wd_c smL_left (wd_c iniL wd_n)))
theorem gL91 : GoodIn WD (wsV R_L 91 R_M yM_left (kM_left :: WD)) := wd_call kwM_left (wd_c mlL91 (wd_c imM_left (wd_c selM_left (wd_c iniM wd_n))))
theorem gL92 : GoodIn WD (va_wsS R_L 92 yL_dry (kL_dry :: WD)) := wd_call kwL_dry (wd_c mlL92 (wd_c smL_dry (wd_c iniL wd_n)))
theorem gL94 : GoodIn WD (wsV R_L 94 R_M yM_dry (kM_dry :: WD)) := wd_call kwM_dry (wd_c mlL94 (wd_c imM_dry (wd_c selM_dry (wd_c iniM wd_n))))
theorem gL95 : GoodIn WD (wsV R_L 95 R_N yN_best (kN_best :: WD)) := wd_call kwN_best (wd_c mlL95 (wd_c imN_best (wd_c selN_best (wd_c iniN wd_n))))
theorem gL98 : GoodIn WD (wsV R_L 98 R_M yM_best (kM_best :: WD)) := wd_call kwM_best (wd_c mlL98 (wd_c imM_best (wd_c selM_best (wd_c iniM wd_n))))
theorem gL99 : GoodIn WD (va_wsS R_L 99 yL_size (kL_size :: WD)) := wd_call kwL_size (wd_c mlL99 (wd_c smL_size (wd_c iniL wd_n)))
theorem gL101 : GoodIn WD (wsV R_L 101 R_M yM_size (kM_size :: WD)) := wd_call kwM_size (wd_c mlL101 (wd_c imM_size (wd_c selM_size (wd_c iniM wd_n))))
theorem gL102 : GoodIn WD (va_wsS R_L 102 yL_pipes (kL_pipes :: WD)) := wd_call kwL_pipes (wd_c mlL102 (wd_c smL_pipes (wd_c iniL wd_n)))
theorem gL104 : GoodIn WD (wsV R_L 104 R_M yM_pipes (kM_pipes :: WD)) := wd_call kwM_pipes (wd_c mlL104 (wd_c imM_pipes (wd_c selM_pipes (wd_c iniM wd_n))))
theorem gL105 : GoodIn WD (va_wsS R_L 105 yL_pipe (kL_pipe :: WD)) := wd_call kwL_pipe (wd_c mlL105 (wd_c smL_pipe (wd_c iniL wd_n)))
theorem gL108 : GoodIn WD (wsV R_L 108 R_M yM_pipe (kM_pipe :: WD)) := wd_call kwM_pipe (wd_c mlL108 (wd_c imM_pipe (wd_c selM_pipe (wd_c iniM wd_n))))
theorem gL109 : GoodIn WD (va_wsS R_L 109 yL_lacks (kL_lacks :: WD)) := wd_call kwL_lacks (wd_c mlL109 (wd_c smL_lacks (wd_c iniL wd_n)))
theorem gL111 : GoodIn WD (wsV R_L 111 R_M yM_lacks (kM_lacks :: WD)) := wd_call kwM_lacks (wd_c mlL111 (wd_c imM_lacks (wd_c selM_lacks (wd_c iniM wd_n))))
theorem gL112 : GoodIn WD (va_wsS R_L 112 yL_worst (kL_worst :: WD)) := wd_call kwL_worst (wd_c mlL112 (wd_c smL_worst (wd_c iniL wd_n)))
theorem gL114 : GoodIn WD (wsV R_L 114 R_M yM_worst (kM_worst :: WD)) := wd_call kwM_worst (wd_c mlL114 (wd_c imM_worst (wd_c selM_worst (wd_c iniM wd_n))))
theorem gM57 : GoodIn WD (wsV R_M 57 R_M yM_isCell (kM_isCell :: WD)) := wd_call kwM_isCell (wd_c mlM57 (wd_c imM_isCell (wd_c selM_isCell (wd_c iniM wd_n))))
theorem gM61 : GoodIn WD (wsV R_M 61 R_M yM_isFree (kM_isFree :: WD)) := wd_call kwM_isFree (wd_c mlM61 (wd_c imM_isFree (wd_c selM_isFree (wd_c iniM wd_n))))
theorem gM64 : GoodIn WD (va_wsS R_M 64 yM_most (kM_most :: WD)) := wd_call kwM_most (wd_c mlM64 (wd_c smM_most (wd_c iniM wd_n)))
theorem gM68 : GoodIn WD (va_wsS R_M 68 yM_least (kM_least :: WD)) := wd_call kwM_least (wd_c mlM68 (wd_c smM_least (wd_c iniM wd_n)))
theorem gM71 : GoodIn WD (va_wsS R_M 71 yM_side (kM_side :: WD)) := wd_call kwM_side (wd_c mlM71 (wd_c smM_side (wd_c iniM wd_n)))
theorem gM75 : GoodIn WD (va_wsS R_M 75 yM_crosses (kM_crosses :: WD)) := wd_call kwM_crosses (wd_c mlM75 (wd_c smM_crosses (wd_c iniM wd_n)))
theorem gM79 : GoodIn WD (wsV R_M 79 R_M yM_sees (kM_sees :: WD)) := wd_call kwM_sees (wd_c mlM79 (wd_c imM_sees (wd_c selM_sees (wd_c iniM wd_n))))
theorem gM83 : GoodIn WD (wsV R_M 83 R_M yM_isReached (kM_isReached :: WD)) := wd_call kwM_isReached (wd_c mlM83 (wd_c imM_isReached (wd_c selM_isReached (wd_c iniM wd_n))))
theorem gM87 : GoodIn WD (wsV R_M 87 R_M yM_isPlace (kM_isPlace :: WD)) := wd_call kwM_isPlace (wd_c mlM87 (wd_c imM_isPlace (wd_c selM_isPlace (wd_c iniM wd_n))))
theorem gM91 : GoodIn WD (wsV R_M 91 R_M yM_isSet (kM_isSet :: WD)) := wd_call kwM_isSet (wd_c mlM91 (wd_c imM_isSet (wd_c selM_isSet (wd_c iniM wd_n))))
theorem gM94 : GoodIn WD (wsV R_M 94 R_M yM_findReached (kM_findReached :: WD)) := wd_call kwM_findReached (wd_c mlM94 (wd_c imM_findReached (wd_c selM_findReached (wd_c iniM wd_n))))
theorem gM97 : GoodIn WD (wsV R_M 97 R_M yM_dryCells (kM_dryCells :: WD)) := wd_call kwM_dryCells (wd_c mlM97 (wd_c imM_dryCells (wd_c selM_dryCells (wd_c iniM wd_n))))
theorem gM101 : GoodIn WD (va_wsS R_M 101 yM_ones (kM_ones :: WD)) := wd_call kwM_ones (wd_c mlM101 (wd_c smM_ones (wd_c iniM wd_n)))
theorem gM104 : GoodIn WD (va_wsS R_M 104 yM_plain (kM_plain :: WD)) := wd_call kwM_plain (wd_c mlM104 (wd_c smM_plain (wd_c iniM wd_n)))
theorem gM110 : GoodIn WD (wsV R_M 110 R_M yM_far (kM_far :: WD)) := wd_call kwM_far (wd_c mlM110 (wd_c imM_far (wd_c selM_far (wd_c iniM wd_n))))
theorem gM113 : GoodIn WD (wsV R_M 113 R_M yM_join (kM_join :: WD)) := wd_call kwM_join (wd_c mlM113 (wd_c imM_join (wd_c selM_join (wd_c iniM wd_n))))
theorem gM117 : GoodIn WD (wsV R_M 117 R_M yM_isIn (kM_isIn :: WD)) := wd_call kwM_isIn (wd_c mlM117 (wd_c imM_isIn (wd_c selM_isIn (wd_c iniM wd_n))))
theorem gM120 : GoodIn WD (wsV R_M 120 R_M yM_lossOf (kM_lossOf :: WD)) := wd_call kwM_lossOf (wd_c mlM120 (wd_c imM_lossOf (wd_c selM_lossOf (wd_c iniM wd_n))))
theorem gM123 : GoodIn WD (wsV R_M 123 R_M yM_lost (kM_lost :: WD)) := wd_call kwM_lost (wd_c mlM123 (wd_c imM_lost (wd_c selM_lost (wd_c iniM wd_n))))
