/-! ===== BEGIN printed: names, fields, word lists, decode rows ===== -/
def RX0 : String := "TurningTrees$BestStill"
def TX0 : u_T := fun k => match k with
  | 0 => ("TurningTrees$BestStill", "keys", "[I", true)
  | 1 => ("TurningTrees$BestStill", "asks", "[I", true)
  | 2 => ("TurningTrees$BestStill", "asksBefore", "[I", true)
  | 3 => ("TurningTrees$BestStill", "least", "[I", true)
  | 4 => ("TurningTrees$BestStill", "tops", "[I", true)
  | 5 => ("TurningTrees$BestStill", "sum", "I", false)
  | _ => ("TurningTrees$BestStill", "root", "I", false)
def tyX0 : Nat → FieldType := fun k => match k with
  | 0 => .array .int
  | 1 => .array .int
  | 2 => .array .int
  | 3 => .array .int
  | 4 => .array .int
  | 5 => .int
  | _ => .int
abbrev wsX00 : List Cond := u_ws RX0 TX0 7
theorem nmX0 : ∀ a, a < 7 → ∀ b, b < 7 → a ≠ b → (TX0 a).2.1 ≠ (TX0 b).2.1 := by decide +kernel
theorem tyX0_ok : ∀ k, k < 7 → parseFieldDescriptor (TX0 k).2.2.1 = some (tyX0 k) := by decide +kernel
abbrev cX0_init : ByteArray := prog_2_method_1_code
def yX0_init : MethodName := ⟨RX0, "<init>", "()V"⟩
abbrev cX0_workOut : ByteArray := prog_2_method_2_code
def yX0_workOut : MethodName := ⟨RX0, "workOut", "(LTurningTrees$Shape;LTurningTrees$Row;)V"⟩
abbrev cX0_countAsks : ByteArray := prog_2_method_3_code
def yX0_countAsks : MethodName := ⟨RX0, "countAsks", "(LTurningTrees$Row;)V"⟩
abbrev cX0_gatherKeys : ByteArray := prog_2_method_4_code
def yX0_gatherKeys : MethodName := ⟨RX0, "gatherKeys", "(LTurningTrees$Shape;)I"⟩
abbrev cX0_settle : ByteArray := prog_2_method_5_code
def yX0_settle : MethodName := ⟨RX0, "settle", "(II)V"⟩
abbrev cX0_lowestTop : ByteArray := prog_2_method_6_code
def yX0_lowestTop : MethodName := ⟨RX0, "lowestTop", "(II)I"⟩
abbrev cX0_sumBelow : ByteArray := prog_2_method_7_code
def yX0_sumBelow : MethodName := ⟨RX0, "sumBelow", "(III)I"⟩
def RX1 : String := "TurningTrees$Page"
def TX1 : u_T := fun k => match k with
  | 0 => ("TurningTrees$Page", "keys", "[I", true)
  | _ => ("TurningTrees$Page", "filled", "I", false)
def tyX1 : Nat → FieldType := fun k => match k with
  | 0 => .array .int
  | _ => .int
abbrev wsX10 : List Cond := u_ws RX1 TX1 2
theorem nmX1 : ∀ a, a < 2 → ∀ b, b < 2 → a ≠ b → (TX1 a).2.1 ≠ (TX1 b).2.1 := by decide +kernel
theorem tyX1_ok : ∀ k, k < 2 → parseFieldDescriptor (TX1 k).2.2.1 = some (tyX1 k) := by decide +kernel
abbrev cX1_init : ByteArray := prog_3_method_1_code
def yX1_init : MethodName := ⟨RX1, "<init>", "()V"⟩
abbrev cX1_countOnWay : ByteArray := prog_3_method_2_code
def yX1_countOnWay : MethodName := ⟨RX1, "countOnWay", "(LTurningTrees$Shape;II)I"⟩
abbrev cX1_fill : ByteArray := prog_3_method_3_code
def yX1_fill : MethodName := ⟨RX1, "fill", "(LTurningTrees$Shape;II)V"⟩
abbrev cX1_take : ByteArray := prog_3_method_4_code
def yX1_take : MethodName := ⟨RX1, "take", "(II)V"⟩
abbrev cX1_has : ByteArray := prog_3_method_5_code
def yX1_has : MethodName := ⟨RX1, "has", "(I)Z"⟩
abbrev cX1_startOfNext : ByteArray := prog_3_method_6_code
def yX1_startOfNext : MethodName := ⟨RX1, "startOfNext", "(LTurningTrees$Shape;I)I"⟩
def RX2 : String := "TurningTrees$Row"
def TX2 : u_T := fun k => match k with
  | 0 => ("TurningTrees$Row", "keys", "[I", true)
  | _ => ("TurningTrees$Row", "length", "I", false)
def tyX2 : Nat → FieldType := fun k => match k with
  | 0 => .array .int
  | _ => .int
abbrev wsX20 : List Cond := u_ws RX2 TX2 2
theorem nmX2 : ∀ a, a < 2 → ∀ b, b < 2 → a ≠ b → (TX2 a).2.1 ≠ (TX2 b).2.1 := by decide +kernel
theorem tyX2_ok : ∀ k, k < 2 → parseFieldDescriptor (TX2 k).2.2.1 = some (tyX2 k) := by decide +kernel
abbrev cX2_init : ByteArray := prog_4_method_1_code
def yX2_init : MethodName := ⟨RX2, "<init>", "()V"⟩
abbrev cX2_write : ByteArray := prog_4_method_2_code
def yX2_write : MethodName := ⟨RX2, "write", "(I)V"⟩
abbrev cX2_wipe : ByteArray := prog_4_method_3_code
def yX2_wipe : MethodName := ⟨RX2, "wipe", "()I"⟩
abbrev cX2_keyAt : ByteArray := prog_4_method_4_code
def yX2_keyAt : MethodName := ⟨RX2, "keyAt", "(I)I"⟩
abbrev cX2_changesOfHalf : ByteArray := prog_4_method_5_code
def yX2_changesOfHalf : MethodName := ⟨RX2, "changesOfHalf", "([I)I"⟩
abbrev cX2_changesInSpans : ByteArray := prog_4_method_6_code
def yX2_changesInSpans : MethodName := ⟨RX2, "changesInSpans", "(I[I)I"⟩
abbrev cX2_touches : ByteArray := prog_4_method_7_code
def yX2_touches : MethodName := ⟨RX2, "touches", "([I)I"⟩
abbrev cX2_touchesToSide : ByteArray := prog_4_method_8_code
def yX2_touchesToSide : MethodName := ⟨RX2, "touchesToSide", "(III[I)I"⟩
def RX3 : String := "TurningTrees$Shape"
def TX3 : u_T := fun k => match k with
  | 0 => ("TurningTrees$Shape", "left", "[I", true)
  | 1 => ("TurningTrees$Shape", "right", "[I", true)
  | 2 => ("TurningTrees$Shape", "up", "[I", true)
  | 3 => ("TurningTrees$Shape", "size", "[I", true)
  | 4 => ("TurningTrees$Shape", "order", "[I", true)
  | 5 => ("TurningTrees$Shape", "root", "I", false)
  | _ => ("TurningTrees$Shape", "turns", "I", false)
def tyX3 : Nat → FieldType := fun k => match k with
  | 0 => .array .int
  | 1 => .array .int
  | 2 => .array .int
  | 3 => .array .int
  | 4 => .array .int
  | 5 => .int
  | _ => .int
abbrev wsX30 : List Cond := u_ws RX3 TX3 7
theorem nmX3 : ∀ a, a < 7 → ∀ b, b < 7 → a ≠ b → (TX3 a).2.1 ≠ (TX3 b).2.1 := by decide +kernel
theorem tyX3_ok : ∀ k, k < 7 → parseFieldDescriptor (TX3 k).2.2.1 = some (tyX3 k) := by decide +kernel
abbrev cX3_init : ByteArray := prog_5_method_1_code
def yX3_init : MethodName := ⟨RX3, "<init>", "()V"⟩
abbrev cX3_leftOf : ByteArray := prog_5_method_2_code
def yX3_leftOf : MethodName := ⟨RX3, "leftOf", "(I)I"⟩
abbrev cX3_rightOf : ByteArray := prog_5_method_3_code
def yX3_rightOf : MethodName := ⟨RX3, "rightOf", "(I)I"⟩
abbrev cX3_upOf : ByteArray := prog_5_method_4_code
def yX3_upOf : MethodName := ⟨RX3, "upOf", "(I)I"⟩
abbrev cX3_sizeOf : ByteArray := prog_5_method_5_code
def yX3_sizeOf : MethodName := ⟨RX3, "sizeOf", "(I)I"⟩
abbrev cX3_holds : ByteArray := prog_5_method_6_code
def yX3_holds : MethodName := ⟨RX3, "holds", "(I)Z"⟩
abbrev cX3_keysHeld : ByteArray := prog_5_method_7_code
def yX3_keysHeld : MethodName := ⟨RX3, "keysHeld", "()I"⟩
abbrev cX3_depthOf : ByteArray := prog_5_method_8_code
def yX3_depthOf : MethodName := ⟨RX3, "depthOf", "(I)I"⟩
abbrev cX3_greatestDepth : ByteArray := prog_5_method_9_code
def yX3_greatestDepth : MethodName := ⟨RX3, "greatestDepth", "()I"⟩
abbrev cX3_potential : ByteArray := prog_5_method_10_code
def yX3_potential : MethodName := ⟨RX3, "potential", "()I"⟩
abbrev cX3_lastOnWay : ByteArray := prog_5_method_11_code
def yX3_lastOnWay : MethodName := ⟨RX3, "lastOnWay", "(I)I"⟩
abbrev cX3_leastUnder : ByteArray := prog_5_method_12_code
def yX3_leastUnder : MethodName := ⟨RX3, "leastUnder", "(I)I"⟩
abbrev cX3_greatestUnder : ByteArray := prog_5_method_13_code
def yX3_greatestUnder : MethodName := ⟨RX3, "greatestUnder", "(I)I"⟩
abbrev cX3_isBelow : ByteArray := prog_5_method_14_code
def yX3_isBelow : MethodName := ⟨RX3, "isBelow", "(LTurningTrees$Shape;)Z"⟩
abbrev cX3_hang : ByteArray := prog_5_method_15_code
def yX3_hang : MethodName := ⟨RX3, "hang", "(II)V"⟩
abbrev cX3_hangLeft : ByteArray := prog_5_method_16_code
def yX3_hangLeft : MethodName := ⟨RX3, "hangLeft", "(II)V"⟩
abbrev cX3_hangRight : ByteArray := prog_5_method_17_code
def yX3_hangRight : MethodName := ⟨RX3, "hangRight", "(II)V"⟩
abbrev cX3_hangNew : ByteArray := prog_5_method_18_code
def yX3_hangNew : MethodName := ⟨RX3, "hangNew", "(II)V"⟩
abbrev cX3_takeOff : ByteArray := prog_5_method_19_code
def yX3_takeOff : MethodName := ⟨RX3, "takeOff", "(I)V"⟩
abbrev cX3_forget : ByteArray := prog_5_method_20_code
def yX3_forget : MethodName := ⟨RX3, "forget", "(I)V"⟩
abbrev cX3_resize : ByteArray := prog_5_method_21_code
def yX3_resize : MethodName := ⟨RX3, "resize", "(I)V"⟩
abbrev cX3_resizeUpFrom : ByteArray := prog_5_method_22_code
def yX3_resizeUpFrom : MethodName := ⟨RX3, "resizeUpFrom", "(I)V"⟩
abbrev cX3_turn : ByteArray := prog_5_method_23_code
def yX3_turn : MethodName := ⟨RX3, "turn", "(I)V"⟩
abbrev cX3_makeEven : ByteArray := prog_5_method_24_code
def yX3_makeEven : MethodName := ⟨RX3, "makeEven", "(I)V"⟩
abbrev cX3_evenOf : ByteArray := prog_5_method_25_code
def yX3_evenOf : MethodName := ⟨RX3, "evenOf", "(LTurningTrees$Shape;III)I"⟩
abbrev cX3_cutAt : ByteArray := prog_5_method_26_code
def yX3_cutAt : MethodName := ⟨RX3, "cutAt", "(ILTurningTrees$Shape;)V"⟩
abbrev cX3_moveKeys : ByteArray := prog_5_method_27_code
def yX3_moveKeys : MethodName := ⟨RX3, "moveKeys", "(ILTurningTrees$Shape;)V"⟩
def RX4 : String := "TurningTrees$Tree"
def TX4 : u_T := fun k => match k with
  | 0 => ("TurningTrees$Tree", "kind", "I", true)
  | 1 => ("TurningTrees$Tree", "shape", "LTurningTrees$Shape;", true)
  | 2 => ("TurningTrees$Tree", "row", "LTurningTrees$Row;", true)
  | 3 => ("TurningTrees$Tree", "costs", "I", false)
  | _ => ("TurningTrees$Tree", "most", "I", false)
def tyX4 : Nat → FieldType := fun k => match k with
  | 0 => .int
  | 1 => .object "TurningTrees$Shape"
  | 2 => .object "TurningTrees$Row"
  | 3 => .int
  | _ => .int
abbrev wsX40 : List Cond := u_ws RX4 TX4 5
theorem nmX4 : ∀ a, a < 5 → ∀ b, b < 5 → a ≠ b → (TX4 a).2.1 ≠ (TX4 b).2.1 := by decide +kernel
theorem tyX4_ok : ∀ k, k < 5 → parseFieldDescriptor (TX4 k).2.2.1 = some (tyX4 k) := by decide +kernel
abbrev cX4_init : ByteArray := prog_6_method_1_code
def yX4_init : MethodName := ⟨RX4, "<init>", "(I)V"⟩
abbrev cX4_takeIn : ByteArray := prog_6_method_2_code
def yX4_takeIn : MethodName := ⟨RX4, "takeIn", "(I)I"⟩
abbrev cX4_seek : ByteArray := prog_6_method_3_code
def yX4_seek : MethodName := ⟨RX4, "seek", "(I)I"⟩
abbrev cX4_giveUp : ByteArray := prog_6_method_4_code
def yX4_giveUp : MethodName := ⟨RX4, "giveUp", "(I)I"⟩
abbrev cX4_takeOver : ByteArray := prog_6_method_5_code
def yX4_takeOver : MethodName := ⟨RX4, "takeOver", "(LTurningTrees$Tree;)V"⟩
abbrev cX4_beginMost : ByteArray := prog_6_method_6_code
def yX4_beginMost : MethodName := ⟨RX4, "beginMost", "()V"⟩
abbrev cX4_act : ByteArray := prog_6_method_7_code
def yX4_act : MethodName := ⟨RX4, "act", "(I)V"⟩
abbrev cX4_splay : ByteArray := prog_6_method_8_code
def yX4_splay : MethodName := ⟨RX4, "splay", "(I)V"⟩
abbrev cX4_raiseToRoot : ByteArray := prog_6_method_9_code
def yX4_raiseToRoot : MethodName := ⟨RX4, "raiseToRoot", "(I)V"⟩
abbrev cX4_riseByWeight : ByteArray := prog_6_method_10_code
def yX4_riseByWeight : MethodName := ⟨RX4, "riseByWeight", "(I)V"⟩
abbrev cX4_lopsidedAbove : ByteArray := prog_6_method_11_code
def yX4_lopsidedAbove : MethodName := ⟨RX4, "lopsidedAbove", "(I)I"⟩
abbrev cX4_evenOut : ByteArray := prog_6_method_12_code
def yX4_evenOut : MethodName := ⟨RX4, "evenOut", "(I)V"⟩
abbrev cX4_isTooDeep : ByteArray := prog_6_method_13_code
def yX4_isTooDeep : MethodName := ⟨RX4, "isTooDeep", "(II)Z"⟩
abbrev cX4_isLopsided : ByteArray := prog_6_method_14_code
def yX4_isLopsided : MethodName := ⟨RX4, "isLopsided", "(I)Z"⟩
abbrev cX4_sink : ByteArray := prog_6_method_15_code
def yX4_sink : MethodName := ⟨RX4, "sink", "(I)V"⟩
abbrev cX4_childToTurn : ByteArray := prog_6_method_16_code
def yX4_childToTurn : MethodName := ⟨RX4, "childToTurn", "(I)I"⟩
abbrev cX4_mergeByWeight : ByteArray := prog_6_method_17_code
def yX4_mergeByWeight : MethodName := ⟨RX4, "mergeByWeight", "(II)V"⟩
def RX5 : String := "TurningTrees"
def TX5 : u_T := fun k => match k with
  | 0 => ("TurningTrees", "trees", "[LTurningTrees$Tree;", true)
  | 1 => ("TurningTrees", "treesMade", "I", false)
  | 2 => ("TurningTrees", "keptDepths", "[I", true)
  | 3 => ("TurningTrees", "keptMade", "I", false)
  | 4 => ("TurningTrees", "marks", "[I", true)
  | 5 => ("TurningTrees", "page", "LTurningTrees$Page;", true)
  | _ => ("TurningTrees", "bestStill", "LTurningTrees$BestStill;", true)
def tyX5 : Nat → FieldType := fun k => match k with
  | 0 => .array (.object "TurningTrees$Tree")
  | 1 => .int
  | 2 => .array .int
  | 3 => .int
  | 4 => .array .int
  | 5 => .object "TurningTrees$Page"
  | _ => .object "TurningTrees$BestStill"
abbrev wsX50 : List Cond := u_ws RX5 TX5 7
theorem nmX5 : ∀ a, a < 7 → ∀ b, b < 7 → a ≠ b → (TX5 a).2.1 ≠ (TX5 b).2.1 := by decide +kernel
theorem tyX5_ok : ∀ k, k < 7 → parseFieldDescriptor (TX5 k).2.2.1 = some (tyX5 k) := by decide +kernel
abbrev cX5_init : ByteArray := prog_1_method_1_code
def yX5_init : MethodName := ⟨RX5, "<init>", "()V"⟩
abbrev cX5_tree : ByteArray := prog_1_method_2_code
def yX5_tree : MethodName := ⟨RX5, "tree", "(I)I"⟩
abbrev cX5_add : ByteArray := prog_1_method_3_code
def yX5_add : MethodName := ⟨RX5, "add", "(II)I"⟩
abbrev cX5_ask : ByteArray := prog_1_method_4_code
def yX5_ask : MethodName := ⟨RX5, "ask", "(II)I"⟩
abbrev cX5_remove : ByteArray := prog_1_method_5_code
def yX5_remove : MethodName := ⟨RX5, "remove", "(II)I"⟩
abbrev cX5_split : ByteArray := prog_1_method_6_code
def yX5_split : MethodName := ⟨RX5, "split", "(II)I"⟩
abbrev cX5_join : ByteArray := prog_1_method_7_code
def yX5_join : MethodName := ⟨RX5, "join", "(II)Z"⟩
abbrev cX5_clear : ByteArray := prog_1_method_8_code
def yX5_clear : MethodName := ⟨RX5, "clear", "(I)I"⟩
abbrev cX5_look : ByteArray := prog_1_method_9_code
def yX5_look : MethodName := ⟨RX5, "look", "(III)I"⟩
abbrev cX5_count : ByteArray := prog_1_method_10_code
def yX5_count : MethodName := ⟨RX5, "count", "(II)I"⟩
abbrev cX5_best : ByteArray := prog_1_method_11_code
def yX5_best : MethodName := ⟨RX5, "best", "(II)I"⟩
abbrev cX5_interleave : ByteArray := prog_1_method_12_code
def yX5_interleave : MethodName := ⟨RX5, "interleave", "(I)I"⟩
abbrev cX5_sweep : ByteArray := prog_1_method_13_code
def yX5_sweep : MethodName := ⟨RX5, "sweep", "(I)I"⟩
abbrev cX5_pages : ByteArray := prog_1_method_14_code
def yX5_pages : MethodName := ⟨RX5, "pages", "(III)I"⟩
abbrev cX5_keep : ByteArray := prog_1_method_15_code
def yX5_keep : MethodName := ⟨RX5, "keep", "(I)I"⟩
abbrev cX5_kept : ByteArray := prog_1_method_16_code
def yX5_kept : MethodName := ⟨RX5, "kept", "(II)I"⟩
abbrev cX5_newTree : ByteArray := prog_1_method_17_code
def yX5_newTree : MethodName := ⟨RX5, "newTree", "(I)I"⟩
abbrev cX5_treeOf : ByteArray := prog_1_method_18_code
def yX5_treeOf : MethodName := ⟨RX5, "treeOf", "(I)LTurningTrees$Tree;"⟩
abbrev cX5_isKey : ByteArray := prog_1_method_19_code
def yX5_isKey : MethodName := ⟨RX5, "isKey", "(I)Z"⟩
abbrev cX5_weight : ByteArray := prog_1_method_20_code
def yX5_weight : MethodName := ⟨RX5, "weight", "(I)I"⟩
abbrev cX5_at : ByteArray := prog_1_method_21_code
def yX5_at : MethodName := ⟨RX5, "at", "([II)I"⟩
abbrev cX5_put : ByteArray := prog_1_method_22_code
def yX5_put : MethodName := ⟨RX5, "put", "([III)V"⟩
def RX6 : String := "TurningTreesModel"
def TX6 : u_T := fun k => match k with
  | 0 => ("TurningTreesModel", "thrown", "I", false)
  | 1 => ("TurningTreesModel", "trees", "I", false)
  | 2 => ("TurningTreesModel", "kind", "[I", true)
  | 3 => ("TurningTreesModel", "root", "[I", true)
  | 4 => ("TurningTreesModel", "above", "[I", true)
  | 5 => ("TurningTreesModel", "left", "[I", true)
  | 6 => ("TurningTreesModel", "right", "[I", true)
  | 7 => ("TurningTreesModel", "isIn", "[Z", true)
  | 8 => ("TurningTreesModel", "many", "[I", true)
  | 9 => ("TurningTreesModel", "turns", "[I", true)
  | 10 => ("TurningTreesModel", "costs", "[I", true)
  | 11 => ("TurningTreesModel", "most", "[I", true)
  | 12 => ("TurningTreesModel", "asks", "[I", true)
  | 13 => ("TurningTreesModel", "row", "[I", true)
  | 14 => ("TurningTreesModel", "sorted", "[I", true)
  | 15 => ("TurningTreesModel", "sortedMany", "I", false)
  | 16 => ("TurningTreesModel", "cost", "I", false)
  | 17 => ("TurningTreesModel", "last", "I", false)
  | 18 => ("TurningTreesModel", "draft", "[I", true)
  | 19 => ("TurningTreesModel", "often", "[I", true)
  | 20 => ("TurningTreesModel", "least", "[I", true)
  | 21 => ("TurningTreesModel", "best", "[I", true)
  | 22 => ("TurningTreesModel", "touchedAt", "[I", true)
  | 23 => ("TurningTreesModel", "isTouched", "[Z", true)
  | 24 => ("TurningTreesModel", "pageOf", "[I", true)
  | 25 => ("TurningTreesModel", "line", "[I", true)
  | 26 => ("TurningTreesModel", "keeps", "I", false)
  | _ => ("TurningTreesModel", "keptDepth", "[I", true)
def tyX6 : Nat → FieldType := fun k => match k with
  | 0 => .int
  | 1 => .int
  | 2 => .array .int
  | 3 => .array .int
  | 4 => .array .int
  | 5 => .array .int
  | 6 => .array .int
  | 7 => .array .boolean
  | 8 => .array .int
  | 9 => .array .int
  | 10 => .array .int
  | 11 => .array .int
  | 12 => .array .int
  | 13 => .array .int
  | 14 => .array .int
  | 15 => .int
  | 16 => .int
  | 17 => .int
  | 18 => .array .int
  | 19 => .array .int
  | 20 => .array .int
  | 21 => .array .int
  | 22 => .array .int
  | 23 => .array .boolean
  | 24 => .array .int
  | 25 => .array .int
  | 26 => .int
  | _ => .array .int
abbrev wsX60 : List Cond := u_ws RX6 TX6 28
theorem nmX6 : ∀ a, a < 28 → ∀ b, b < 28 → a ≠ b → (TX6 a).2.1 ≠ (TX6 b).2.1 := by decide +kernel
theorem tyX6_ok : ∀ k, k < 28 → parseFieldDescriptor (TX6 k).2.2.1 = some (tyX6 k) := by decide +kernel
abbrev cX6_init : ByteArray := prog_8_method_1_code
def yX6_init : MethodName := ⟨RX6, "<init>", "()V"⟩
abbrev cX6_thrown : ByteArray := prog_8_method_2_code
def yX6_thrown : MethodName := ⟨RX6, "thrown", "()I"⟩
abbrev cX6_isTree : ByteArray := prog_8_method_3_code
def yX6_isTree : MethodName := ⟨RX6, "isTree", "(I)Z"⟩
abbrev cX6_isKey : ByteArray := prog_8_method_4_code
def yX6_isKey : MethodName := ⟨RX6, "isKey", "(I)Z"⟩
abbrev cX6_tree : ByteArray := prog_8_method_5_code
def yX6_tree : MethodName := ⟨RX6, "tree", "(I)I"⟩
abbrev cX6_newTree : ByteArray := prog_8_method_6_code
def yX6_newTree : MethodName := ⟨RX6, "newTree", "(I)I"⟩
abbrev cX6_weight : ByteArray := prog_8_method_7_code
def yX6_weight : MethodName := ⟨RX6, "weight", "(I)I"⟩
abbrev cX6_sizeOf : ByteArray := prog_8_method_8_code
def yX6_sizeOf : MethodName := ⟨RX6, "sizeOf", "(II)I"⟩
abbrev cX6_depthOf : ByteArray := prog_8_method_9_code
def yX6_depthOf : MethodName := ⟨RX6, "depthOf", "(II)I"⟩
abbrev cX6_takesPlace : ByteArray := prog_8_method_10_code
def yX6_takesPlace : MethodName := ⟨RX6, "takesPlace", "(III)V"⟩
abbrev cX6_hangsLeft : ByteArray := prog_8_method_11_code
def yX6_hangsLeft : MethodName := ⟨RX6, "hangsLeft", "(III)V"⟩
abbrev cX6_hangsRight : ByteArray := prog_8_method_12_code
def yX6_hangsRight : MethodName := ⟨RX6, "hangsRight", "(III)V"⟩
abbrev cX6_turn : ByteArray := prog_8_method_13_code
def yX6_turn : MethodName := ⟨RX6, "turn", "(II)V"⟩
abbrev cX6_acts : ByteArray := prog_8_method_14_code
def yX6_acts : MethodName := ⟨RX6, "acts", "(II)V"⟩
abbrev cX6_rises : ByteArray := prog_8_method_15_code
def yX6_rises : MethodName := ⟨RX6, "rises", "(II)V"⟩
abbrev cX6_splays : ByteArray := prog_8_method_16_code
def yX6_splays : MethodName := ⟨RX6, "splays", "(II)V"⟩
abbrev cX6_actsAdded : ByteArray := prog_8_method_17_code
def yX6_actsAdded : MethodName := ⟨RX6, "actsAdded", "(II)V"⟩
abbrev cX6_isDeep : ByteArray := prog_8_method_18_code
def yX6_isDeep : MethodName := ⟨RX6, "isDeep", "(II)Z"⟩
abbrev cX6_balances : ByteArray := prog_8_method_19_code
def yX6_balances : MethodName := ⟨RX6, "balances", "(II)V"⟩
abbrev cX6_leans : ByteArray := prog_8_method_20_code
def yX6_leans : MethodName := ⟨RX6, "leans", "(II)Z"⟩
abbrev cX6_sorts : ByteArray := prog_8_method_21_code
def yX6_sorts : MethodName := ⟨RX6, "sorts", "(II)V"⟩
abbrev cX6_even : ByteArray := prog_8_method_22_code
def yX6_even : MethodName := ⟨RX6, "even", "(III)I"⟩
abbrev cX6_makesEven : ByteArray := prog_8_method_23_code
def yX6_makesEven : MethodName := ⟨RX6, "makesEven", "(II)V"⟩
abbrev cX6_goes : ByteArray := prog_8_method_24_code
def yX6_goes : MethodName := ⟨RX6, "goes", "(II)Z"⟩
abbrev cX6_add : ByteArray := prog_8_method_25_code
def yX6_add : MethodName := ⟨RX6, "add", "(II)I"⟩
abbrev cX6_ask : ByteArray := prog_8_method_26_code
def yX6_ask : MethodName := ⟨RX6, "ask", "(II)I"⟩
abbrev cX6_heir : ByteArray := prog_8_method_27_code
def yX6_heir : MethodName := ⟨RX6, "heir", "(II)I"⟩
abbrev cX6_remove : ByteArray := prog_8_method_28_code
def yX6_remove : MethodName := ⟨RX6, "remove", "(II)I"⟩
abbrev cX6_nearest : ByteArray := prog_8_method_29_code
def yX6_nearest : MethodName := ⟨RX6, "nearest", "(III)I"⟩
abbrev cX6_split : ByteArray := prog_8_method_30_code
def yX6_split : MethodName := ⟨RX6, "split", "(II)I"⟩
abbrev cX6_greatest : ByteArray := prog_8_method_31_code
def yX6_greatest : MethodName := ⟨RX6, "greatest", "(I)I"⟩
abbrev cX6_smallest : ByteArray := prog_8_method_32_code
def yX6_smallest : MethodName := ⟨RX6, "smallest", "(I)I"⟩
abbrev cX6_heaps : ByteArray := prog_8_method_33_code
def yX6_heaps : MethodName := ⟨RX6, "heaps", "(III)I"⟩
abbrev cX6_join : ByteArray := prog_8_method_34_code
def yX6_join : MethodName := ⟨RX6, "join", "(II)Z"⟩
abbrev cX6_clear : ByteArray := prog_8_method_35_code
def yX6_clear : MethodName := ⟨RX6, "clear", "(I)I"⟩
abbrev cX6_look : ByteArray := prog_8_method_36_code
def yX6_look : MethodName := ⟨RX6, "look", "(III)I"⟩
abbrev cX6_deepest : ByteArray := prog_8_method_37_code
def yX6_deepest : MethodName := ⟨RX6, "deepest", "(I)I"⟩
abbrev cX6_potential : ByteArray := prog_8_method_38_code
def yX6_potential : MethodName := ⟨RX6, "potential", "(I)I"⟩
abbrev cX6_count : ByteArray := prog_8_method_39_code
def yX6_count : MethodName := ⟨RX6, "count", "(II)I"⟩
abbrev cX6_best : ByteArray := prog_8_method_40_code
def yX6_best : MethodName := ⟨RX6, "best", "(II)I"⟩
abbrev cX6_bestOf : ByteArray := prog_8_method_41_code
def yX6_bestOf : MethodName := ⟨RX6, "bestOf", "(II)V"⟩
abbrev cX6_interleave : ByteArray := prog_8_method_42_code
def yX6_interleave : MethodName := ⟨RX6, "interleave", "(I)I"⟩
abbrev cX6_touches : ByteArray := prog_8_method_43_code
def yX6_touches : MethodName := ⟨RX6, "touches", "(II)I"⟩
abbrev cX6_sweep : ByteArray := prog_8_method_44_code
def yX6_sweep : MethodName := ⟨RX6, "sweep", "(I)I"⟩
abbrev cX6_lays : ByteArray := prog_8_method_45_code
def yX6_lays : MethodName := ⟨RX6, "lays", "(III)V"⟩
abbrev cX6_pages : ByteArray := prog_8_method_46_code
def yX6_pages : MethodName := ⟨RX6, "pages", "(III)I"⟩
abbrev cX6_keep : ByteArray := prog_8_method_47_code
def yX6_keep : MethodName := ⟨RX6, "keep", "(I)I"⟩
abbrev cX6_kept : ByteArray := prog_8_method_48_code
def yX6_kept : MethodName := ⟨RX6, "kept", "(II)I"⟩
def RJ9 : String := "java/lang/Math"
def TJ9 : u_T := fun k => match k with
  | _ => ("", "", "", false)
def tyJ9 : Nat → FieldType := fun k => match k with
  | _ => .int
abbrev wsJ90 : List Cond := u_ws RJ9 TJ9 0
theorem nmJ9 : ∀ a, a < 0 → ∀ b, b < 0 → a ≠ b → (TJ9 a).2.1 ≠ (TJ9 b).2.1 := by decide +kernel
theorem tyJ9_ok : ∀ k, k < 0 → parseFieldDescriptor (TJ9 k).2.2.1 = some (tyJ9 k) := by decide +kernel
abbrev cJ9_max_7cf53 : ByteArray := prog_10_method_65_code
def yJ9_max_7cf53 : MethodName := ⟨RJ9, "max", "(II)I"⟩
def RJ0 : String := "java/lang/String"
def TJ0 : u_T := fun k => match k with
  | _ => ("", "", "", false)
def tyJ0 : Nat → FieldType := fun k => match k with
  | _ => .int
abbrev wsJ00 : List Cond := u_ws RJ0 TJ0 0
theorem nmJ0 : ∀ a, a < 0 → ∀ b, b < 0 → a ≠ b → (TJ0 a).2.1 ≠ (TJ0 b).2.1 := by decide +kernel
theorem tyJ0_ok : ∀ k, k < 0 → parseFieldDescriptor (TJ0 k).2.2.1 = some (tyJ0 k) := by decide +kernel
def RJ7 : String := "java/util/Arrays"
def TJ7 : u_T := fun k => match k with
  | _ => ("", "", "", false)
def tyJ7 : Nat → FieldType := fun k => match k with
  | _ => .int
abbrev wsJ70 : List Cond := u_ws RJ7 TJ7 0
theorem nmJ7 : ∀ a, a < 0 → ∀ b, b < 0 → a ≠ b → (TJ7 a).2.1 ≠ (TJ7 b).2.1 := by decide +kernel
theorem tyJ7_ok : ∀ k, k < 0 → parseFieldDescriptor (TJ7 k).2.2.1 = some (tyJ7 k) := by decide +kernel
abbrev cJ7_fill_53178 : ByteArray := prog_14_method_103_code
def yJ7_fill_53178 : MethodName := ⟨RJ7, "fill", "([II)V"⟩
def RL : String := "TurningTreesLaw"
abbrev cL_ask : ByteArray := method_3_code
def yL_ask : MethodName := ⟨RL, "ask", "(LTurningTrees;II[J)I"⟩
abbrev cL_remove : ByteArray := method_4_code
def yL_remove : MethodName := ⟨RL, "remove", "(LTurningTrees;II[J)I"⟩
abbrev cL_look : ByteArray := method_5_code
def yL_look : MethodName := ⟨RL, "look", "(LTurningTrees;III[J)I"⟩
abbrev cL_law : ByteArray := code
def yL_law : MethodName := ⟨RL, "law", "([I)Z"⟩
def wsX0_init : List Cond := .code yX0_init cX0_init 1 none :: ([.methodLink RX0 3 objectInit, .instanceMethod objectInit, .code objectInit ⟨#[0xb1]⟩ 1 none, .arrayClass .int, .fieldLink RX0 9 "TurningTrees$BestStill" "keys" "[I", .fieldLink RX0 15 "TurningTrees$BestStill" "asks" "[I", .fieldLink RX0 18 "TurningTrees$BestStill" "asksBefore" "[I", .fieldLink RX0 21 "TurningTrees$BestStill" "least" "[I", .fieldLink RX0 24 "TurningTrees$BestStill" "tops" "[I", .fieldLink RX0 27 "TurningTrees$BestStill" "sum" "I", .fieldLink RX0 31 "TurningTrees$BestStill" "root" "I"] ++ wsX00)
def wsJ7_fill_53178 : List Cond := .code yJ7_fill_53178 cJ7_fill_53178 4 none :: ([])
def wsX5_at : List Cond := .code yX5_at cX5_at 2 (some .int) :: ([])
def wsX2_keyAt : List Cond := .code yX2_keyAt cX2_keyAt 2 (some .int) :: ([.fieldLink RX2 9 "TurningTrees$Row" "keys" "[I", .static yX5_at, .initialized RX5, .code yX5_at cX5_at 2 (some .int)] ++ wsX20)
def wsX5_put : List Cond := .code yX5_put cX5_put 3 none :: ([])
def wsX0_countAsks : List Cond := .code yX0_countAsks cX0_countAsks 4 none :: ([.fieldLink RX0 15 "TurningTrees$BestStill" "asks" "[I", .fieldLink RX0 56 "TurningTrees$Row" "length" "I", .methodLink RX0 50 yJ7_fill_53178, .static yJ7_fill_53178, .initialized RJ7, .code yJ7_fill_53178 cJ7_fill_53178 4 none, .methodLink RX0 61 yX2_keyAt, .instanceMethod yX2_keyAt, .selects RX2 yX2_keyAt yX2_keyAt, .initialized RX2, .code yX2_keyAt cX2_keyAt 2 (some .int), .fieldLink RX2 9 "TurningTrees$Row" "keys" "[I", .static yX5_at, .initialized RX5, .code yX5_at cX5_at 2 (some .int), .static yX5_put, .code yX5_put cX5_put 3 none] ++ wsX00 ++ wsX20)
def wsX3_sizeOf : List Cond := .code yX3_sizeOf cX3_sizeOf 2 (some .int) :: ([.fieldLink RX3 21 "TurningTrees$Shape" "size" "[I"] ++ wsX30)
def wsX3_holds : List Cond := .code yX3_holds cX3_holds 2 (some .boolean) :: ([.methodLink RX3 44 yX3_sizeOf, .instanceMethod yX3_sizeOf, .selects RX3 yX3_sizeOf yX3_sizeOf, .initialized RX3, .code yX3_sizeOf cX3_sizeOf 2 (some .int), .fieldLink RX3 21 "TurningTrees$Shape" "size" "[I"] ++ wsX30)
def wsX0_gatherKeys : List Cond := .code yX0_gatherKeys cX0_gatherKeys 4 (some .int) :: ([.fieldLink RX0 9 "TurningTrees$BestStill" "keys" "[I", .fieldLink RX0 18 "TurningTrees$BestStill" "asksBefore" "[I", .fieldLink RX0 15 "TurningTrees$BestStill" "asks" "[I", .methodLink RX0 69 yX3_holds, .instanceMethod yX3_holds, .selects RX3 yX3_holds yX3_holds, .initialized RX3, .code yX3_holds cX3_holds 2 (some .boolean), .methodLink RX3 44 yX3_sizeOf, .instanceMethod yX3_sizeOf, .selects RX3 yX3_sizeOf yX3_sizeOf, .code yX3_sizeOf cX3_sizeOf 2 (some .int), .fieldLink RX3 21 "TurningTrees$Shape" "size" "[I", .static yX5_put, .initialized RX5, .code yX5_put cX5_put 3 none, .static yX5_at, .code yX5_at cX5_at 2 (some .int)] ++ wsX00 ++ wsX30)
def wsX0_sumBelow : List Cond := .code yX0_sumBelow cX0_sumBelow 4 (some .int) :: ([.fieldLink RX0 21 "TurningTrees$BestStill" "least" "[I", .static yX5_at, .initialized RX5, .code yX5_at cX5_at 2 (some .int)] ++ wsX00)
def wsX0_lowestTop : List Cond := .code yX0_lowestTop cX0_lowestTop 10 (some .int) :: ([.fieldLink RX0 24 "TurningTrees$BestStill" "tops" "[I", .static yX5_at, .initialized RX5, .code yX5_at cX5_at 2 (some .int), .methodLink RX0 79 yX0_sumBelow, .instanceMethod yX0_sumBelow, .selects RX0 yX0_sumBelow yX0_sumBelow, .initialized RX0, .code yX0_sumBelow cX0_sumBelow 4 (some .int), .fieldLink RX0 21 "TurningTrees$BestStill" "least" "[I"] ++ wsX00)
def wsX0_settle : List Cond := .code yX0_settle cX0_settle 5 none :: ([.fieldLink RX0 18 "TurningTrees$BestStill" "asksBefore" "[I", .fieldLink RX0 21 "TurningTrees$BestStill" "least" "[I", .fieldLink RX0 24 "TurningTrees$BestStill" "tops" "[I", .methodLink RX0 75 yX0_lowestTop, .instanceMethod yX0_lowestTop, .selects RX0 yX0_lowestTop yX0_lowestTop, .initialized RX0, .code yX0_lowestTop cX0_lowestTop 10 (some .int), .static yX5_at, .initialized RX5, .code yX5_at cX5_at 2 (some .int), .methodLink RX0 79 yX0_sumBelow, .instanceMethod yX0_sumBelow, .selects RX0 yX0_sumBelow yX0_sumBelow, .code yX0_sumBelow cX0_sumBelow 4 (some .int), .static yX5_put, .code yX5_put cX5_put 3 none] ++ wsX00)
def wsX0_workOut_r1 : List Cond := [Cond.fieldLink RX0 21 "TurningTrees$BestStill" "least" "[I", Cond.fieldLink RX0 27 "TurningTrees$BestStill" "sum" "I", Cond.fieldLink RX0 9 "TurningTrees$BestStill" "keys" "[I", Cond.fieldLink RX0 24 "TurningTrees$BestStill" "tops" "[I", Cond.fieldLink RX0 31 "TurningTrees$BestStill" "root" "I", Cond.methodLink RX0 34 yX0_countAsks, Cond.instanceMethod yX0_countAsks, Cond.selects RX0 yX0_countAsks yX0_countAsks, Cond.initialized RX0, Cond.code yX0_countAsks cX0_countAsks 4 none, Cond.fieldLink RX0 15 "TurningTrees$BestStill" "asks" "[I", Cond.fieldLink RX0 56 "TurningTrees$Row" "length" "I", Cond.methodLink RX0 50 yJ7_fill_53178, Cond.static yJ7_fill_53178, Cond.initialized RJ7, Cond.code yJ7_fill_53178 cJ7_fill_53178 4 none, Cond.methodLink RX0 61 yX2_keyAt, Cond.instanceMethod yX2_keyAt, Cond.selects RX2 yX2_keyAt yX2_keyAt, Cond.initialized RX2, Cond.code yX2_keyAt cX2_keyAt 2 (some .int), Cond.fieldLink RX2 9 "TurningTrees$Row" "keys" "[I", Cond.static yX5_at, Cond.initialized RX5]
def wsX0_workOut_r2 : List Cond := [Cond.code yX5_at cX5_at 2 (some .int), Cond.static yX5_put, Cond.code yX5_put cX5_put 3 none, Cond.methodLink RX0 38 yX0_gatherKeys, Cond.instanceMethod yX0_gatherKeys, Cond.selects RX0 yX0_gatherKeys yX0_gatherKeys, Cond.code yX0_gatherKeys cX0_gatherKeys 4 (some .int), Cond.fieldLink RX0 18 "TurningTrees$BestStill" "asksBefore" "[I", Cond.methodLink RX0 69 yX3_holds, Cond.instanceMethod yX3_holds, Cond.selects RX3 yX3_holds yX3_holds, Cond.initialized RX3, Cond.code yX3_holds cX3_holds 2 (some .boolean), Cond.methodLink RX3 44 yX3_sizeOf, Cond.instanceMethod yX3_sizeOf, Cond.selects RX3 yX3_sizeOf yX3_sizeOf, Cond.code yX3_sizeOf cX3_sizeOf 2 (some .int), Cond.fieldLink RX3 21 "TurningTrees$Shape" "size" "[I", Cond.methodLink RX0 42 yX0_settle, Cond.instanceMethod yX0_settle, Cond.selects RX0 yX0_settle yX0_settle, Cond.code yX0_settle cX0_settle 5 none, Cond.methodLink RX0 75 yX0_lowestTop, Cond.instanceMethod yX0_lowestTop]
def wsX0_workOut_r3 : List Cond := [Cond.selects RX0 yX0_lowestTop yX0_lowestTop, Cond.code yX0_lowestTop cX0_lowestTop 10 (some .int), Cond.methodLink RX0 79 yX0_sumBelow, Cond.instanceMethod yX0_sumBelow, Cond.selects RX0 yX0_sumBelow yX0_sumBelow, Cond.code yX0_sumBelow cX0_sumBelow 4 (some .int)]
def wsX0_workOut : List Cond := .code yX0_workOut cX0_workOut 6 none :: ((wsX0_workOut_r1 ++ (wsX0_workOut_r2 ++ wsX0_workOut_r3)) ++ wsX00 ++ wsX20 ++ wsX30)
def wsX1_init : List Cond := .code yX1_init cX1_init 1 none :: ([.methodLink RX1 3 objectInit, .instanceMethod objectInit, .code objectInit ⟨#[0xb1]⟩ 1 none, .arrayClass .int, .fieldLink RX1 9 "TurningTrees$Page" "keys" "[I", .fieldLink RX1 15 "TurningTrees$Page" "filled" "I"] ++ wsX10)
def wsX1_take : List Cond := .code yX1_take cX1_take 3 none :: ([.fieldLink RX1 15 "TurningTrees$Page" "filled" "I", .fieldLink RX1 9 "TurningTrees$Page" "keys" "[I", .static yX5_put, .initialized RX5, .code yX5_put cX5_put 3 none] ++ wsX10)
def wsX3_leftOf : List Cond := .code yX3_leftOf cX3_leftOf 2 (some .int) :: ([.fieldLink RX3 9 "TurningTrees$Shape" "left" "[I", .static yX5_at, .initialized RX5, .code yX5_at cX5_at 2 (some .int)] ++ wsX30)
def wsX3_rightOf : List Cond := .code yX3_rightOf cX3_rightOf 2 (some .int) :: ([.fieldLink RX3 15 "TurningTrees$Shape" "right" "[I", .static yX5_at, .initialized RX5, .code yX5_at cX5_at 2 (some .int)] ++ wsX30)
def wsX1_fill : List Cond := .code yX1_fill cX1_fill 5 none :: ([.fieldLink RX1 15 "TurningTrees$Page" "filled" "I", .fieldLink RX1 9 "TurningTrees$Page" "keys" "[I", .methodLink RX1 36 yX1_take, .instanceMethod yX1_take, .selects RX1 yX1_take yX1_take, .initialized RX1, .code yX1_take cX1_take 3 none, .static yX5_put, .initialized RX5, .code yX5_put cX5_put 3 none, .static yX5_at, .code yX5_at cX5_at 2 (some .int), .methodLink RX1 44 yX3_leftOf, .instanceMethod yX3_leftOf, .selects RX3 yX3_leftOf yX3_leftOf, .initialized RX3, .code yX3_leftOf cX3_leftOf 2 (some .int), .fieldLink RX3 9 "TurningTrees$Shape" "left" "[I", .methodLink RX1 48 yX3_rightOf, .instanceMethod yX3_rightOf, .selects RX3 yX3_rightOf yX3_rightOf, .code yX3_rightOf cX3_rightOf 2 (some .int), .fieldLink RX3 15 "TurningTrees$Shape" "right" "[I"] ++ wsX10 ++ wsX30)
def wsX1_has : List Cond := .code yX1_has cX1_has 3 (some .boolean) :: ([.fieldLink RX1 15 "TurningTrees$Page" "filled" "I", .fieldLink RX1 9 "TurningTrees$Page" "keys" "[I", .static yX5_at, .initialized RX5, .code yX5_at cX5_at 2 (some .int)] ++ wsX10)
def wsX3_upOf : List Cond := .code yX3_upOf cX3_upOf 2 (some .int) :: ([.fieldLink RX3 18 "TurningTrees$Shape" "up" "[I", .static yX5_at, .initialized RX5, .code yX5_at cX5_at 2 (some .int)] ++ wsX30)
def wsX1_startOfNext : List Cond := .code yX1_startOfNext cX1_startOfNext 6 (some .int) :: ([.methodLink RX1 55 yX3_upOf, .instanceMethod yX3_upOf, .selects RX3 yX3_upOf yX3_upOf, .initialized RX3, .code yX3_upOf cX3_upOf 2 (some .int), .fieldLink RX3 18 "TurningTrees$Shape" "up" "[I", .static yX5_at, .initialized RX5, .code yX5_at cX5_at 2 (some .int), .methodLink RX1 28 yX1_has, .instanceMethod yX1_has, .selects RX1 yX1_has yX1_has, .initialized RX1, .code yX1_has cX1_has 3 (some .boolean), .fieldLink RX1 15 "TurningTrees$Page" "filled" "I", .fieldLink RX1 9 "TurningTrees$Page" "keys" "[I"] ++ wsX30 ++ wsX10)
def wsX1_countOnWay_r1 : List Cond := [Cond.fieldLink RX1 19 "TurningTrees$Shape" "root" "I", Cond.methodLink RX1 24 yX1_fill, Cond.instanceMethod yX1_fill, Cond.selects RX1 yX1_fill yX1_fill, Cond.initialized RX1, Cond.code yX1_fill cX1_fill 5 none, Cond.fieldLink RX1 15 "TurningTrees$Page" "filled" "I", Cond.fieldLink RX1 9 "TurningTrees$Page" "keys" "[I", Cond.methodLink RX1 36 yX1_take, Cond.instanceMethod yX1_take, Cond.selects RX1 yX1_take yX1_take, Cond.code yX1_take cX1_take 3 none, Cond.static yX5_put, Cond.initialized RX5, Cond.code yX5_put cX5_put 3 none, Cond.static yX5_at, Cond.code yX5_at cX5_at 2 (some .int), Cond.methodLink RX1 44 yX3_leftOf, Cond.instanceMethod yX3_leftOf, Cond.selects RX3 yX3_leftOf yX3_leftOf, Cond.initialized RX3, Cond.code yX3_leftOf cX3_leftOf 2 (some .int), Cond.fieldLink RX3 9 "TurningTrees$Shape" "left" "[I", Cond.methodLink RX1 48 yX3_rightOf]
def wsX1_countOnWay_r2 : List Cond := [Cond.instanceMethod yX3_rightOf, Cond.selects RX3 yX3_rightOf yX3_rightOf, Cond.code yX3_rightOf cX3_rightOf 2 (some .int), Cond.fieldLink RX3 15 "TurningTrees$Shape" "right" "[I", Cond.methodLink RX1 28 yX1_has, Cond.instanceMethod yX1_has, Cond.selects RX1 yX1_has yX1_has, Cond.code yX1_has cX1_has 3 (some .boolean), Cond.methodLink RX1 32 yX1_startOfNext, Cond.instanceMethod yX1_startOfNext, Cond.selects RX1 yX1_startOfNext yX1_startOfNext, Cond.code yX1_startOfNext cX1_startOfNext 6 (some .int), Cond.methodLink RX1 55 yX3_upOf, Cond.instanceMethod yX3_upOf, Cond.selects RX3 yX3_upOf yX3_upOf, Cond.code yX3_upOf cX3_upOf 2 (some .int), Cond.fieldLink RX3 18 "TurningTrees$Shape" "up" "[I"]
def wsX1_countOnWay : List Cond := .code yX1_countOnWay cX1_countOnWay 6 (some .int) :: ((wsX1_countOnWay_r1 ++ wsX1_countOnWay_r2) ++ wsX30 ++ wsX10)
def wsX2_init : List Cond := .code yX2_init cX2_init 1 none :: ([.methodLink RX2 3 objectInit, .instanceMethod objectInit, .code objectInit ⟨#[0xb1]⟩ 1 none, .arrayClass .int, .fieldLink RX2 9 "TurningTrees$Row" "keys" "[I", .fieldLink RX2 15 "TurningTrees$Row" "length" "I"] ++ wsX20)
def wsX2_write : List Cond := .code yX2_write cX2_write 2 none :: ([.fieldLink RX2 15 "TurningTrees$Row" "length" "I", .fieldLink RX2 9 "TurningTrees$Row" "keys" "[I", .static yX5_put, .initialized RX5, .code yX5_put cX5_put 3 none] ++ wsX20)
def wsX2_wipe : List Cond := .code yX2_wipe cX2_wipe 2 (some .int) :: ([.fieldLink RX2 15 "TurningTrees$Row" "length" "I"] ++ wsX20)
def wsX2_changesInSpans : List Cond := .code yX2_changesInSpans cX2_changesInSpans 8 (some .int) :: ([.fieldLink RX2 15 "TurningTrees$Row" "length" "I", .methodLink RX2 37 yX2_keyAt, .instanceMethod yX2_keyAt, .selects RX2 yX2_keyAt yX2_keyAt, .initialized RX2, .code yX2_keyAt cX2_keyAt 2 (some .int), .fieldLink RX2 9 "TurningTrees$Row" "keys" "[I", .static yX5_at, .initialized RX5, .code yX5_at cX5_at 2 (some .int), .static yX5_put, .code yX5_put cX5_put 3 none] ++ wsX20)
def wsX2_changesOfHalf : List Cond := .code yX2_changesOfHalf cX2_changesOfHalf 4 (some .int) :: ([.methodLink RX2 27 yJ7_fill_53178, .static yJ7_fill_53178, .initialized RJ7, .code yJ7_fill_53178 cJ7_fill_53178 4 none, .methodLink RX2 33 yX2_changesInSpans, .instanceMethod yX2_changesInSpans, .selects RX2 yX2_changesInSpans yX2_changesInSpans, .initialized RX2, .code yX2_changesInSpans cX2_changesInSpans 8 (some .int), .fieldLink RX2 15 "TurningTrees$Row" "length" "I", .methodLink RX2 37 yX2_keyAt, .instanceMethod yX2_keyAt, .selects RX2 yX2_keyAt yX2_keyAt, .code yX2_keyAt cX2_keyAt 2 (some .int), .fieldLink RX2 9 "TurningTrees$Row" "keys" "[I", .static yX5_at, .initialized RX5, .code yX5_at cX5_at 2 (some .int), .static yX5_put, .code yX5_put cX5_put 3 none] ++ wsX20)
def wsX2_touchesToSide : List Cond := .code yX2_touchesToSide cX2_touchesToSide 9 (some .int) :: ([.static yX5_at, .initialized RX5, .code yX5_at cX5_at 2 (some .int), .static yX5_put, .code yX5_put cX5_put 3 none])
def wsX2_touches : List Cond := .code yX2_touches cX2_touches 5 (some .int) :: ([.fieldLink RX2 15 "TurningTrees$Row" "length" "I", .methodLink RX2 27 yJ7_fill_53178, .static yJ7_fill_53178, .initialized RJ7, .code yJ7_fill_53178 cJ7_fill_53178 4 none, .methodLink RX2 37 yX2_keyAt, .instanceMethod yX2_keyAt, .selects RX2 yX2_keyAt yX2_keyAt, .initialized RX2, .code yX2_keyAt cX2_keyAt 2 (some .int), .fieldLink RX2 9 "TurningTrees$Row" "keys" "[I", .static yX5_at, .initialized RX5, .code yX5_at cX5_at 2 (some .int), .methodLink RX2 41 yX2_touchesToSide, .static yX2_touchesToSide, .code yX2_touchesToSide cX2_touchesToSide 9 (some .int), .static yX5_put, .code yX5_put cX5_put 3 none] ++ wsX20)
def wsX3_init : List Cond := .code yX3_init cX3_init 1 none :: ([.methodLink RX3 3 objectInit, .instanceMethod objectInit, .code objectInit ⟨#[0xb1]⟩ 1 none, .arrayClass .int, .fieldLink RX3 9 "TurningTrees$Shape" "left" "[I", .fieldLink RX3 15 "TurningTrees$Shape" "right" "[I", .fieldLink RX3 18 "TurningTrees$Shape" "up" "[I", .fieldLink RX3 21 "TurningTrees$Shape" "size" "[I", .fieldLink RX3 24 "TurningTrees$Shape" "order" "[I", .fieldLink RX3 33 "TurningTrees$Shape" "root" "I", .fieldLink RX3 37 "TurningTrees$Shape" "turns" "I", .methodLink RX3 27 yJ7_fill_53178, .static yJ7_fill_53178, .initialized RJ7, .code yJ7_fill_53178 cJ7_fill_53178 4 none] ++ wsX30)
def wsX3_keysHeld : List Cond := .code yX3_keysHeld cX3_keysHeld 1 (some .int) :: ([.fieldLink RX3 33 "TurningTrees$Shape" "root" "I", .methodLink RX3 44 yX3_sizeOf, .instanceMethod yX3_sizeOf, .selects RX3 yX3_sizeOf yX3_sizeOf, .initialized RX3, .code yX3_sizeOf cX3_sizeOf 2 (some .int), .fieldLink RX3 21 "TurningTrees$Shape" "size" "[I"] ++ wsX30)
def wsX3_depthOf : List Cond := .code yX3_depthOf cX3_depthOf 4 (some .int) :: ([.methodLink RX3 48 yX3_holds, .instanceMethod yX3_holds, .selects RX3 yX3_holds yX3_holds, .initialized RX3, .code yX3_holds cX3_holds 2 (some .boolean), .methodLink RX3 44 yX3_sizeOf, .instanceMethod yX3_sizeOf, .selects RX3 yX3_sizeOf yX3_sizeOf, .code yX3_sizeOf cX3_sizeOf 2 (some .int), .fieldLink RX3 21 "TurningTrees$Shape" "size" "[I", .methodLink RX3 52 yX3_upOf, .instanceMethod yX3_upOf, .selects RX3 yX3_upOf yX3_upOf, .code yX3_upOf cX3_upOf 2 (some .int), .fieldLink RX3 18 "TurningTrees$Shape" "up" "[I", .static yX5_at, .initialized RX5, .code yX5_at cX5_at 2 (some .int)] ++ wsX30)
def wsX3_greatestDepth_r1 : List Cond := [Cond.methodLink RX3 58 Lib.Math.max.name, Cond.static Lib.Math.max.name, Cond.initialized "java/lang/Math", Cond.code Lib.Math.max.name Lib.Math.max.code 2 (some .int), Cond.methodLink RX3 55 yX3_depthOf, Cond.instanceMethod yX3_depthOf, Cond.selects RX3 yX3_depthOf yX3_depthOf, Cond.initialized RX3, Cond.code yX3_depthOf cX3_depthOf 4 (some .int), Cond.methodLink RX3 48 yX3_holds, Cond.instanceMethod yX3_holds, Cond.selects RX3 yX3_holds yX3_holds, Cond.code yX3_holds cX3_holds 2 (some .boolean), Cond.methodLink RX3 44 yX3_sizeOf, Cond.instanceMethod yX3_sizeOf, Cond.selects RX3 yX3_sizeOf yX3_sizeOf, Cond.code yX3_sizeOf cX3_sizeOf 2 (some .int), Cond.fieldLink RX3 21 "TurningTrees$Shape" "size" "[I", Cond.methodLink RX3 52 yX3_upOf, Cond.instanceMethod yX3_upOf, Cond.selects RX3 yX3_upOf yX3_upOf, Cond.code yX3_upOf cX3_upOf 2 (some .int), Cond.fieldLink RX3 18 "TurningTrees$Shape" "up" "[I", Cond.static yX5_at]
def wsX3_greatestDepth_r2 : List Cond := [Cond.initialized RX5, Cond.code yX5_at cX5_at 2 (some .int)]
def wsX3_greatestDepth : List Cond := .code yX3_greatestDepth cX3_greatestDepth 3 (some .int) :: ((wsX3_greatestDepth_r1 ++ wsX3_greatestDepth_r2) ++ wsX30)
def wsX3_potential : List Cond := .code yX3_potential cX3_potential 4 (some .int) :: ([.methodLink RX3 44 yX3_sizeOf, .instanceMethod yX3_sizeOf, .selects RX3 yX3_sizeOf yX3_sizeOf, .initialized RX3, .code yX3_sizeOf cX3_sizeOf 2 (some .int), .fieldLink RX3 21 "TurningTrees$Shape" "size" "[I"] ++ wsX30)
def wsX3_lastOnWay : List Cond := .code yX3_lastOnWay cX3_lastOnWay 5 (some .int) :: ([.fieldLink RX3 33 "TurningTrees$Shape" "root" "I", .methodLink RX3 64 yX3_leftOf, .instanceMethod yX3_leftOf, .selects RX3 yX3_leftOf yX3_leftOf, .initialized RX3, .code yX3_leftOf cX3_leftOf 2 (some .int), .fieldLink RX3 9 "TurningTrees$Shape" "left" "[I", .static yX5_at, .initialized RX5, .code yX5_at cX5_at 2 (some .int), .methodLink RX3 67 yX3_rightOf, .instanceMethod yX3_rightOf, .selects RX3 yX3_rightOf yX3_rightOf, .code yX3_rightOf cX3_rightOf 2 (some .int), .fieldLink RX3 15 "TurningTrees$Shape" "right" "[I"] ++ wsX30)
def wsX3_leastUnder : List Cond := .code yX3_leastUnder cX3_leastUnder 4 (some .int) :: ([.methodLink RX3 64 yX3_leftOf, .instanceMethod yX3_leftOf, .selects RX3 yX3_leftOf yX3_leftOf, .initialized RX3, .code yX3_leftOf cX3_leftOf 2 (some .int), .fieldLink RX3 9 "TurningTrees$Shape" "left" "[I", .static yX5_at, .initialized RX5, .code yX5_at cX5_at 2 (some .int)] ++ wsX30)
def wsX3_greatestUnder : List Cond := .code yX3_greatestUnder cX3_greatestUnder 4 (some .int) :: ([.methodLink RX3 67 yX3_rightOf, .instanceMethod yX3_rightOf, .selects RX3 yX3_rightOf yX3_rightOf, .initialized RX3, .code yX3_rightOf cX3_rightOf 2 (some .int), .fieldLink RX3 15 "TurningTrees$Shape" "right" "[I", .static yX5_at, .initialized RX5, .code yX5_at cX5_at 2 (some .int)] ++ wsX30)
def wsX3_isBelow : List Cond := .code yX3_isBelow cX3_isBelow 2 (some .boolean) :: ([.fieldLink RX3 33 "TurningTrees$Shape" "root" "I", .methodLink RX3 70 yX3_greatestUnder, .instanceMethod yX3_greatestUnder, .selects RX3 yX3_greatestUnder yX3_greatestUnder, .initialized RX3, .code yX3_greatestUnder cX3_greatestUnder 4 (some .int), .methodLink RX3 67 yX3_rightOf, .instanceMethod yX3_rightOf, .selects RX3 yX3_rightOf yX3_rightOf, .code yX3_rightOf cX3_rightOf 2 (some .int), .fieldLink RX3 15 "TurningTrees$Shape" "right" "[I", .static yX5_at, .initialized RX5, .code yX5_at cX5_at 2 (some .int), .methodLink RX3 73 yX3_leastUnder, .instanceMethod yX3_leastUnder, .selects RX3 yX3_leastUnder yX3_leastUnder, .code yX3_leastUnder cX3_leastUnder 4 (some .int), .methodLink RX3 64 yX3_leftOf, .instanceMethod yX3_leftOf, .selects RX3 yX3_leftOf yX3_leftOf, .code yX3_leftOf cX3_leftOf 2 (some .int), .fieldLink RX3 9 "TurningTrees$Shape" "left" "[I"] ++ wsX30)
def wsX3_hang : List Cond := .code yX3_hang cX3_hang 3 none :: ([.fieldLink RX3 18 "TurningTrees$Shape" "up" "[I", .fieldLink RX3 33 "TurningTrees$Shape" "root" "I", .fieldLink RX3 9 "TurningTrees$Shape" "left" "[I", .fieldLink RX3 15 "TurningTrees$Shape" "right" "[I", .static yX5_put, .initialized RX5, .code yX5_put cX5_put 3 none] ++ wsX30)
def wsX3_hangLeft : List Cond := .code yX3_hangLeft cX3_hangLeft 3 none :: ([.fieldLink RX3 9 "TurningTrees$Shape" "left" "[I", .fieldLink RX3 18 "TurningTrees$Shape" "up" "[I", .static yX5_put, .initialized RX5, .code yX5_put cX5_put 3 none] ++ wsX30)
def wsX3_hangRight : List Cond := .code yX3_hangRight cX3_hangRight 3 none :: ([.fieldLink RX3 15 "TurningTrees$Shape" "right" "[I", .fieldLink RX3 18 "TurningTrees$Shape" "up" "[I", .static yX5_put, .initialized RX5, .code yX5_put cX5_put 3 none] ++ wsX30)
def wsX3_resize : List Cond := .code yX3_resize cX3_resize 2 none :: ([.fieldLink RX3 21 "TurningTrees$Shape" "size" "[I", .fieldLink RX3 9 "TurningTrees$Shape" "left" "[I", .fieldLink RX3 15 "TurningTrees$Shape" "right" "[I", .static yX5_at, .initialized RX5, .code yX5_at cX5_at 2 (some .int), .methodLink RX3 44 yX3_sizeOf, .instanceMethod yX3_sizeOf, .selects RX3 yX3_sizeOf yX3_sizeOf, .initialized RX3, .code yX3_sizeOf cX3_sizeOf 2 (some .int), .static yX5_put, .code yX5_put cX5_put 3 none] ++ wsX30)
def wsX3_resizeUpFrom : List Cond := .code yX3_resizeUpFrom cX3_resizeUpFrom 4 none :: ([.methodLink RX3 91 yX3_resize, .instanceMethod yX3_resize, .selects RX3 yX3_resize yX3_resize, .initialized RX3, .code yX3_resize cX3_resize 2 none, .fieldLink RX3 21 "TurningTrees$Shape" "size" "[I", .fieldLink RX3 9 "TurningTrees$Shape" "left" "[I", .fieldLink RX3 15 "TurningTrees$Shape" "right" "[I", .static yX5_at, .initialized RX5, .code yX5_at cX5_at 2 (some .int), .methodLink RX3 44 yX3_sizeOf, .instanceMethod yX3_sizeOf, .selects RX3 yX3_sizeOf yX3_sizeOf, .code yX3_sizeOf cX3_sizeOf 2 (some .int), .static yX5_put, .code yX5_put cX5_put 3 none, .methodLink RX3 52 yX3_upOf, .instanceMethod yX3_upOf, .selects RX3 yX3_upOf yX3_upOf, .code yX3_upOf cX3_upOf 2 (some .int), .fieldLink RX3 18 "TurningTrees$Shape" "up" "[I"] ++ wsX30)
def wsX3_hangNew_r1 : List Cond := [Cond.methodLink RX3 80 yX3_hang, Cond.instanceMethod yX3_hang, Cond.selects RX3 yX3_hang yX3_hang, Cond.initialized RX3, Cond.code yX3_hang cX3_hang 3 none, Cond.fieldLink RX3 18 "TurningTrees$Shape" "up" "[I", Cond.fieldLink RX3 33 "TurningTrees$Shape" "root" "I", Cond.fieldLink RX3 9 "TurningTrees$Shape" "left" "[I", Cond.fieldLink RX3 15 "TurningTrees$Shape" "right" "[I", Cond.static yX5_put, Cond.initialized RX5, Cond.code yX5_put cX5_put 3 none, Cond.methodLink RX3 84 yX3_resizeUpFrom, Cond.instanceMethod yX3_resizeUpFrom, Cond.selects RX3 yX3_resizeUpFrom yX3_resizeUpFrom, Cond.code yX3_resizeUpFrom cX3_resizeUpFrom 4 none, Cond.methodLink RX3 91 yX3_resize, Cond.instanceMethod yX3_resize, Cond.selects RX3 yX3_resize yX3_resize, Cond.code yX3_resize cX3_resize 2 none, Cond.fieldLink RX3 21 "TurningTrees$Shape" "size" "[I", Cond.static yX5_at, Cond.code yX5_at cX5_at 2 (some .int), Cond.methodLink RX3 44 yX3_sizeOf]
def wsX3_hangNew_r2 : List Cond := [Cond.instanceMethod yX3_sizeOf, Cond.selects RX3 yX3_sizeOf yX3_sizeOf, Cond.code yX3_sizeOf cX3_sizeOf 2 (some .int), Cond.methodLink RX3 52 yX3_upOf, Cond.instanceMethod yX3_upOf, Cond.selects RX3 yX3_upOf yX3_upOf, Cond.code yX3_upOf cX3_upOf 2 (some .int)]
def wsX3_hangNew : List Cond := .code yX3_hangNew cX3_hangNew 3 none :: ((wsX3_hangNew_r1 ++ wsX3_hangNew_r2) ++ wsX30)
def wsX3_forget : List Cond := .code yX3_forget cX3_forget 2 none :: ([.fieldLink RX3 9 "TurningTrees$Shape" "left" "[I", .fieldLink RX3 15 "TurningTrees$Shape" "right" "[I", .fieldLink RX3 18 "TurningTrees$Shape" "up" "[I", .fieldLink RX3 21 "TurningTrees$Shape" "size" "[I", .static yX5_put, .initialized RX5, .code yX5_put cX5_put 3 none] ++ wsX30)
def wsX3_takeOff_r1 : List Cond := [Cond.fieldLink RX3 33 "TurningTrees$Shape" "root" "I", Cond.fieldLink RX3 9 "TurningTrees$Shape" "left" "[I", Cond.fieldLink RX3 15 "TurningTrees$Shape" "right" "[I", Cond.methodLink RX3 52 yX3_upOf, Cond.instanceMethod yX3_upOf, Cond.selects RX3 yX3_upOf yX3_upOf, Cond.initialized RX3, Cond.code yX3_upOf cX3_upOf 2 (some .int), Cond.fieldLink RX3 18 "TurningTrees$Shape" "up" "[I", Cond.static yX5_at, Cond.initialized RX5, Cond.code yX5_at cX5_at 2 (some .int), Cond.static yX5_put, Cond.code yX5_put cX5_put 3 none, Cond.methodLink RX3 88 yX3_forget, Cond.instanceMethod yX3_forget, Cond.selects RX3 yX3_forget yX3_forget, Cond.code yX3_forget cX3_forget 2 none, Cond.fieldLink RX3 21 "TurningTrees$Shape" "size" "[I", Cond.methodLink RX3 84 yX3_resizeUpFrom, Cond.instanceMethod yX3_resizeUpFrom, Cond.selects RX3 yX3_resizeUpFrom yX3_resizeUpFrom, Cond.code yX3_resizeUpFrom cX3_resizeUpFrom 4 none, Cond.methodLink RX3 91 yX3_resize]
def wsX3_takeOff_r2 : List Cond := [Cond.instanceMethod yX3_resize, Cond.selects RX3 yX3_resize yX3_resize, Cond.code yX3_resize cX3_resize 2 none, Cond.methodLink RX3 44 yX3_sizeOf, Cond.instanceMethod yX3_sizeOf, Cond.selects RX3 yX3_sizeOf yX3_sizeOf, Cond.code yX3_sizeOf cX3_sizeOf 2 (some .int)]
def wsX3_takeOff : List Cond := .code yX3_takeOff cX3_takeOff 3 none :: ((wsX3_takeOff_r1 ++ wsX3_takeOff_r2) ++ wsX30)
def wsX3_turn_r1 : List Cond := [Cond.fieldLink RX3 37 "TurningTrees$Shape" "turns" "I", Cond.methodLink RX3 52 yX3_upOf, Cond.instanceMethod yX3_upOf, Cond.selects RX3 yX3_upOf yX3_upOf, Cond.initialized RX3, Cond.code yX3_upOf cX3_upOf 2 (some .int), Cond.fieldLink RX3 18 "TurningTrees$Shape" "up" "[I", Cond.static yX5_at, Cond.initialized RX5, Cond.code yX5_at cX5_at 2 (some .int), Cond.methodLink RX3 67 yX3_rightOf, Cond.instanceMethod yX3_rightOf, Cond.selects RX3 yX3_rightOf yX3_rightOf, Cond.code yX3_rightOf cX3_rightOf 2 (some .int), Cond.fieldLink RX3 15 "TurningTrees$Shape" "right" "[I", Cond.methodLink RX3 94 yX3_hangLeft, Cond.instanceMethod yX3_hangLeft, Cond.selects RX3 yX3_hangLeft yX3_hangLeft, Cond.code yX3_hangLeft cX3_hangLeft 3 none, Cond.fieldLink RX3 9 "TurningTrees$Shape" "left" "[I", Cond.static yX5_put, Cond.code yX5_put cX5_put 3 none, Cond.methodLink RX3 97 yX3_hangRight, Cond.instanceMethod yX3_hangRight]
def wsX3_turn_r2 : List Cond := [Cond.selects RX3 yX3_hangRight yX3_hangRight, Cond.code yX3_hangRight cX3_hangRight 3 none, Cond.methodLink RX3 64 yX3_leftOf, Cond.instanceMethod yX3_leftOf, Cond.selects RX3 yX3_leftOf yX3_leftOf, Cond.code yX3_leftOf cX3_leftOf 2 (some .int), Cond.methodLink RX3 80 yX3_hang, Cond.instanceMethod yX3_hang, Cond.selects RX3 yX3_hang yX3_hang, Cond.code yX3_hang cX3_hang 3 none, Cond.fieldLink RX3 33 "TurningTrees$Shape" "root" "I", Cond.methodLink RX3 91 yX3_resize, Cond.instanceMethod yX3_resize, Cond.selects RX3 yX3_resize yX3_resize, Cond.code yX3_resize cX3_resize 2 none, Cond.fieldLink RX3 21 "TurningTrees$Shape" "size" "[I", Cond.methodLink RX3 44 yX3_sizeOf, Cond.instanceMethod yX3_sizeOf, Cond.selects RX3 yX3_sizeOf yX3_sizeOf, Cond.code yX3_sizeOf cX3_sizeOf 2 (some .int)]
def wsX3_turn : List Cond := .code yX3_turn cX3_turn 4 none :: ((wsX3_turn_r1 ++ wsX3_turn_r2) ++ wsX30)
def wsX3_evenOf_r1 : List Cond := [Cond.fieldLink RX3 24 "TurningTrees$Shape" "order" "[I", Cond.static yX5_at, Cond.initialized RX5, Cond.code yX5_at cX5_at 2 (some .int), Cond.methodLink RX3 100 yX3_evenOf, Cond.static yX3_evenOf, Cond.initialized RX3, Cond.methodLink RX3 94 yX3_hangLeft, Cond.instanceMethod yX3_hangLeft, Cond.selects RX3 yX3_hangLeft yX3_hangLeft, Cond.code yX3_hangLeft cX3_hangLeft 3 none, Cond.fieldLink RX3 9 "TurningTrees$Shape" "left" "[I", Cond.fieldLink RX3 18 "TurningTrees$Shape" "up" "[I", Cond.static yX5_put, Cond.code yX5_put cX5_put 3 none, Cond.methodLink RX3 97 yX3_hangRight, Cond.instanceMethod yX3_hangRight, Cond.selects RX3 yX3_hangRight yX3_hangRight, Cond.code yX3_hangRight cX3_hangRight 3 none, Cond.fieldLink RX3 15 "TurningTrees$Shape" "right" "[I", Cond.methodLink RX3 91 yX3_resize, Cond.instanceMethod yX3_resize, Cond.selects RX3 yX3_resize yX3_resize, Cond.code yX3_resize cX3_resize 2 none]
def wsX3_evenOf_r2 : List Cond := [Cond.fieldLink RX3 21 "TurningTrees$Shape" "size" "[I", Cond.methodLink RX3 44 yX3_sizeOf, Cond.instanceMethod yX3_sizeOf, Cond.selects RX3 yX3_sizeOf yX3_sizeOf, Cond.code yX3_sizeOf cX3_sizeOf 2 (some .int)]
def wsX3_evenOf : List Cond := .code yX3_evenOf cX3_evenOf 6 (some .int) :: ((wsX3_evenOf_r1 ++ wsX3_evenOf_r2) ++ wsX30)
def wsX3_makeEven_r1 : List Cond := [Cond.fieldLink RX3 24 "TurningTrees$Shape" "order" "[I", Cond.methodLink RX3 52 yX3_upOf, Cond.instanceMethod yX3_upOf, Cond.selects RX3 yX3_upOf yX3_upOf, Cond.initialized RX3, Cond.code yX3_upOf cX3_upOf 2 (some .int), Cond.fieldLink RX3 18 "TurningTrees$Shape" "up" "[I", Cond.static yX5_at, Cond.initialized RX5, Cond.code yX5_at cX5_at 2 (some .int), Cond.methodLink RX3 73 yX3_leastUnder, Cond.instanceMethod yX3_leastUnder, Cond.selects RX3 yX3_leastUnder yX3_leastUnder, Cond.code yX3_leastUnder cX3_leastUnder 4 (some .int), Cond.methodLink RX3 64 yX3_leftOf, Cond.instanceMethod yX3_leftOf, Cond.selects RX3 yX3_leftOf yX3_leftOf, Cond.code yX3_leftOf cX3_leftOf 2 (some .int), Cond.fieldLink RX3 9 "TurningTrees$Shape" "left" "[I", Cond.methodLink RX3 70 yX3_greatestUnder, Cond.instanceMethod yX3_greatestUnder, Cond.selects RX3 yX3_greatestUnder yX3_greatestUnder, Cond.code yX3_greatestUnder cX3_greatestUnder 4 (some .int), Cond.methodLink RX3 67 yX3_rightOf]
def wsX3_makeEven_r2 : List Cond := [Cond.instanceMethod yX3_rightOf, Cond.selects RX3 yX3_rightOf yX3_rightOf, Cond.code yX3_rightOf cX3_rightOf 2 (some .int), Cond.fieldLink RX3 15 "TurningTrees$Shape" "right" "[I", Cond.methodLink RX3 48 yX3_holds, Cond.instanceMethod yX3_holds, Cond.selects RX3 yX3_holds yX3_holds, Cond.code yX3_holds cX3_holds 2 (some .boolean), Cond.methodLink RX3 44 yX3_sizeOf, Cond.instanceMethod yX3_sizeOf, Cond.selects RX3 yX3_sizeOf yX3_sizeOf, Cond.code yX3_sizeOf cX3_sizeOf 2 (some .int), Cond.fieldLink RX3 21 "TurningTrees$Shape" "size" "[I", Cond.static yX5_put, Cond.code yX5_put cX5_put 3 none, Cond.methodLink RX3 100 yX3_evenOf, Cond.static yX3_evenOf, Cond.code yX3_evenOf cX3_evenOf 6 (some .int), Cond.methodLink RX3 94 yX3_hangLeft, Cond.instanceMethod yX3_hangLeft, Cond.selects RX3 yX3_hangLeft yX3_hangLeft, Cond.code yX3_hangLeft cX3_hangLeft 3 none, Cond.methodLink RX3 97 yX3_hangRight, Cond.instanceMethod yX3_hangRight]
def wsX3_makeEven_r3 : List Cond := [Cond.selects RX3 yX3_hangRight yX3_hangRight, Cond.code yX3_hangRight cX3_hangRight 3 none, Cond.methodLink RX3 91 yX3_resize, Cond.instanceMethod yX3_resize, Cond.selects RX3 yX3_resize yX3_resize, Cond.code yX3_resize cX3_resize 2 none, Cond.methodLink RX3 80 yX3_hang, Cond.instanceMethod yX3_hang, Cond.selects RX3 yX3_hang yX3_hang, Cond.code yX3_hang cX3_hang 3 none, Cond.fieldLink RX3 33 "TurningTrees$Shape" "root" "I"]
def wsX3_makeEven : List Cond := .code yX3_makeEven cX3_makeEven 7 none :: ((wsX3_makeEven_r1 ++ (wsX3_makeEven_r2 ++ wsX3_makeEven_r3)) ++ wsX30)
def wsX3_moveKeys_r1 : List Cond := [Cond.fieldLink RX3 9 "TurningTrees$Shape" "left" "[I", Cond.fieldLink RX3 15 "TurningTrees$Shape" "right" "[I", Cond.fieldLink RX3 18 "TurningTrees$Shape" "up" "[I", Cond.fieldLink RX3 21 "TurningTrees$Shape" "size" "[I", Cond.methodLink RX3 48 yX3_holds, Cond.instanceMethod yX3_holds, Cond.selects RX3 yX3_holds yX3_holds, Cond.initialized RX3, Cond.code yX3_holds cX3_holds 2 (some .boolean), Cond.methodLink RX3 44 yX3_sizeOf, Cond.instanceMethod yX3_sizeOf, Cond.selects RX3 yX3_sizeOf yX3_sizeOf, Cond.code yX3_sizeOf cX3_sizeOf 2 (some .int), Cond.methodLink RX3 64 yX3_leftOf, Cond.instanceMethod yX3_leftOf, Cond.selects RX3 yX3_leftOf yX3_leftOf, Cond.code yX3_leftOf cX3_leftOf 2 (some .int), Cond.static yX5_at, Cond.initialized RX5, Cond.code yX5_at cX5_at 2 (some .int), Cond.static yX5_put, Cond.code yX5_put cX5_put 3 none, Cond.methodLink RX3 67 yX3_rightOf, Cond.instanceMethod yX3_rightOf]
def wsX3_moveKeys_r2 : List Cond := [Cond.selects RX3 yX3_rightOf yX3_rightOf, Cond.code yX3_rightOf cX3_rightOf 2 (some .int), Cond.methodLink RX3 52 yX3_upOf, Cond.instanceMethod yX3_upOf, Cond.selects RX3 yX3_upOf yX3_upOf, Cond.code yX3_upOf cX3_upOf 2 (some .int), Cond.methodLink RX3 88 yX3_forget, Cond.instanceMethod yX3_forget, Cond.selects RX3 yX3_forget yX3_forget, Cond.code yX3_forget cX3_forget 2 none]
def wsX3_moveKeys : List Cond := .code yX3_moveKeys cX3_moveKeys 4 none :: ((wsX3_moveKeys_r1 ++ wsX3_moveKeys_r2) ++ wsX30)
def wsX3_cutAt_r1 : List Cond := [Cond.fieldLink RX3 33 "TurningTrees$Shape" "root" "I", Cond.fieldLink RX3 15 "TurningTrees$Shape" "right" "[I", Cond.fieldLink RX3 9 "TurningTrees$Shape" "left" "[I", Cond.methodLink RX3 67 yX3_rightOf, Cond.instanceMethod yX3_rightOf, Cond.selects RX3 yX3_rightOf yX3_rightOf, Cond.initialized RX3, Cond.code yX3_rightOf cX3_rightOf 2 (some .int), Cond.static yX5_at, Cond.initialized RX5, Cond.code yX5_at cX5_at 2 (some .int), Cond.methodLink RX3 80 yX3_hang, Cond.instanceMethod yX3_hang, Cond.selects RX3 yX3_hang yX3_hang, Cond.code yX3_hang cX3_hang 3 none, Cond.fieldLink RX3 18 "TurningTrees$Shape" "up" "[I", Cond.static yX5_put, Cond.code yX5_put cX5_put 3 none, Cond.methodLink RX3 64 yX3_leftOf, Cond.instanceMethod yX3_leftOf, Cond.selects RX3 yX3_leftOf yX3_leftOf, Cond.code yX3_leftOf cX3_leftOf 2 (some .int), Cond.methodLink RX3 94 yX3_hangLeft, Cond.instanceMethod yX3_hangLeft]
def wsX3_cutAt_r2 : List Cond := [Cond.selects RX3 yX3_hangLeft yX3_hangLeft, Cond.code yX3_hangLeft cX3_hangLeft 3 none, Cond.methodLink RX3 84 yX3_resizeUpFrom, Cond.instanceMethod yX3_resizeUpFrom, Cond.selects RX3 yX3_resizeUpFrom yX3_resizeUpFrom, Cond.code yX3_resizeUpFrom cX3_resizeUpFrom 4 none, Cond.methodLink RX3 91 yX3_resize, Cond.instanceMethod yX3_resize, Cond.selects RX3 yX3_resize yX3_resize, Cond.code yX3_resize cX3_resize 2 none, Cond.fieldLink RX3 21 "TurningTrees$Shape" "size" "[I", Cond.methodLink RX3 44 yX3_sizeOf, Cond.instanceMethod yX3_sizeOf, Cond.selects RX3 yX3_sizeOf yX3_sizeOf, Cond.code yX3_sizeOf cX3_sizeOf 2 (some .int), Cond.methodLink RX3 52 yX3_upOf, Cond.instanceMethod yX3_upOf, Cond.selects RX3 yX3_upOf yX3_upOf, Cond.code yX3_upOf cX3_upOf 2 (some .int), Cond.methodLink RX3 104 yX3_moveKeys, Cond.instanceMethod yX3_moveKeys, Cond.selects RX3 yX3_moveKeys yX3_moveKeys, Cond.code yX3_moveKeys cX3_moveKeys 4 none, Cond.methodLink RX3 48 yX3_holds]
def wsX3_cutAt_r3 : List Cond := [Cond.instanceMethod yX3_holds, Cond.selects RX3 yX3_holds yX3_holds, Cond.code yX3_holds cX3_holds 2 (some .boolean), Cond.methodLink RX3 88 yX3_forget, Cond.instanceMethod yX3_forget, Cond.selects RX3 yX3_forget yX3_forget, Cond.code yX3_forget cX3_forget 2 none]
def wsX3_cutAt : List Cond := .code yX3_cutAt cX3_cutAt 8 none :: ((wsX3_cutAt_r1 ++ (wsX3_cutAt_r2 ++ wsX3_cutAt_r3)) ++ wsX30)
def wsX4_init_r1 : List Cond := [Cond.methodLink RX4 3 objectInit, Cond.instanceMethod objectInit, Cond.code objectInit ⟨#[0xb1]⟩ 1 none, Cond.fieldLink RX4 9 "TurningTrees$Tree" "kind" "I", Cond.classLink RX4 15 RX3, Cond.instantiable RX3 7, Cond.initialized RX3, Cond.fieldLink RX4 18 "TurningTrees$Tree" "shape" "LTurningTrees$Shape;", Cond.classLink RX4 22 RX2, Cond.instantiable RX2 2, Cond.initialized RX2, Cond.fieldLink RX4 25 "TurningTrees$Tree" "row" "LTurningTrees$Row;", Cond.fieldLink RX4 29 "TurningTrees$Tree" "costs" "I", Cond.fieldLink RX4 32 "TurningTrees$Tree" "most" "I", Cond.methodLink RX4 17 yX3_init, Cond.instanceMethod yX3_init, Cond.code yX3_init cX3_init 1 none, Cond.methodLink RX3 3 objectInit, Cond.arrayClass .int, Cond.fieldLink RX3 9 "TurningTrees$Shape" "left" "[I", Cond.fieldLink RX3 15 "TurningTrees$Shape" "right" "[I", Cond.fieldLink RX3 18 "TurningTrees$Shape" "up" "[I", Cond.fieldLink RX3 21 "TurningTrees$Shape" "size" "[I", Cond.fieldLink RX3 24 "TurningTrees$Shape" "order" "[I"]
def wsX4_init_r2 : List Cond := [Cond.fieldLink RX3 33 "TurningTrees$Shape" "root" "I", Cond.fieldLink RX3 37 "TurningTrees$Shape" "turns" "I", Cond.methodLink RX3 27 yJ7_fill_53178, Cond.static yJ7_fill_53178, Cond.initialized RJ7, Cond.code yJ7_fill_53178 cJ7_fill_53178 4 none, Cond.methodLink RX4 24 yX2_init, Cond.instanceMethod yX2_init, Cond.code yX2_init cX2_init 1 none, Cond.methodLink RX2 3 objectInit, Cond.fieldLink RX2 9 "TurningTrees$Row" "keys" "[I", Cond.fieldLink RX2 15 "TurningTrees$Row" "length" "I"]
def wsX4_init : List Cond := .code yX4_init cX4_init 2 none :: ((wsX4_init_r1 ++ wsX4_init_r2) ++ wsX40 ++ wsX30 ++ wsX20)
def wsX4_isTooDeep : List Cond := .code yX4_isTooDeep cX4_isTooDeep 7 (some .boolean) :: ([.constantLong RX4 126 (3), .constantLong RX4 128 (2)])
def wsX4_isLopsided : List Cond := .code yX4_isLopsided cX4_isLopsided 3 (some .boolean) :: ([.fieldLink RX4 18 "TurningTrees$Tree" "shape" "LTurningTrees$Shape;", .methodLink RX4 50 Lib.Math.max.name, .static Lib.Math.max.name, .initialized "java/lang/Math", .code Lib.Math.max.name Lib.Math.max.code 2 (some .int), .methodLink RX4 130 yX3_leftOf, .instanceMethod yX3_leftOf, .selects RX3 yX3_leftOf yX3_leftOf, .initialized RX3, .code yX3_leftOf cX3_leftOf 2 (some .int), .fieldLink RX3 9 "TurningTrees$Shape" "left" "[I", .static yX5_at, .initialized RX5, .code yX5_at cX5_at 2 (some .int), .methodLink RX4 133 yX3_sizeOf, .instanceMethod yX3_sizeOf, .selects RX3 yX3_sizeOf yX3_sizeOf, .code yX3_sizeOf cX3_sizeOf 2 (some .int), .fieldLink RX3 21 "TurningTrees$Shape" "size" "[I", .methodLink RX4 136 yX3_rightOf, .instanceMethod yX3_rightOf, .selects RX3 yX3_rightOf yX3_rightOf, .code yX3_rightOf cX3_rightOf 2 (some .int), .fieldLink RX3 15 "TurningTrees$Shape" "right" "[I"] ++ wsX40 ++ wsX30)
def wsX4_lopsidedAbove_r1 : List Cond := [Cond.fieldLink RX4 18 "TurningTrees$Tree" "shape" "LTurningTrees$Shape;", Cond.methodLink RX4 79 yX3_upOf, Cond.instanceMethod yX3_upOf, Cond.selects RX3 yX3_upOf yX3_upOf, Cond.initialized RX3, Cond.code yX3_upOf cX3_upOf 2 (some .int), Cond.fieldLink RX3 18 "TurningTrees$Shape" "up" "[I", Cond.static yX5_at, Cond.initialized RX5, Cond.code yX5_at cX5_at 2 (some .int), Cond.methodLink RX4 116 yX4_isLopsided, Cond.instanceMethod yX4_isLopsided, Cond.selects RX4 yX4_isLopsided yX4_isLopsided, Cond.initialized RX4, Cond.code yX4_isLopsided cX4_isLopsided 3 (some .boolean), Cond.methodLink RX4 50 Lib.Math.max.name, Cond.static Lib.Math.max.name, Cond.initialized "java/lang/Math", Cond.code Lib.Math.max.name Lib.Math.max.code 2 (some .int), Cond.methodLink RX4 130 yX3_leftOf, Cond.instanceMethod yX3_leftOf, Cond.selects RX3 yX3_leftOf yX3_leftOf, Cond.code yX3_leftOf cX3_leftOf 2 (some .int), Cond.fieldLink RX3 9 "TurningTrees$Shape" "left" "[I"]
def wsX4_lopsidedAbove_r2 : List Cond := [Cond.methodLink RX4 133 yX3_sizeOf, Cond.instanceMethod yX3_sizeOf, Cond.selects RX3 yX3_sizeOf yX3_sizeOf, Cond.code yX3_sizeOf cX3_sizeOf 2 (some .int), Cond.fieldLink RX3 21 "TurningTrees$Shape" "size" "[I", Cond.methodLink RX4 136 yX3_rightOf, Cond.instanceMethod yX3_rightOf, Cond.selects RX3 yX3_rightOf yX3_rightOf, Cond.code yX3_rightOf cX3_rightOf 2 (some .int), Cond.fieldLink RX3 15 "TurningTrees$Shape" "right" "[I"]
def wsX4_lopsidedAbove : List Cond := .code yX4_lopsidedAbove cX4_lopsidedAbove 4 (some .int) :: ((wsX4_lopsidedAbove_r1 ++ wsX4_lopsidedAbove_r2) ++ wsX40 ++ wsX30)
def wsX4_beginMost : List Cond := .code yX4_beginMost cX4_beginMost 1 none :: ([.fieldLink RX4 9 "TurningTrees$Tree" "kind" "I", .fieldLink RX4 18 "TurningTrees$Tree" "shape" "LTurningTrees$Shape;", .fieldLink RX4 32 "TurningTrees$Tree" "most" "I", .methodLink RX4 46 yX3_keysHeld, .instanceMethod yX3_keysHeld, .selects RX3 yX3_keysHeld yX3_keysHeld, .initialized RX3, .code yX3_keysHeld cX3_keysHeld 1 (some .int), .fieldLink RX3 33 "TurningTrees$Shape" "root" "I", .methodLink RX3 44 yX3_sizeOf, .instanceMethod yX3_sizeOf, .selects RX3 yX3_sizeOf yX3_sizeOf, .code yX3_sizeOf cX3_sizeOf 2 (some .int), .fieldLink RX3 21 "TurningTrees$Shape" "size" "[I"] ++ wsX40 ++ wsX30)
def wsX4_evenOut_r1 : List Cond := [Cond.fieldLink RX4 18 "TurningTrees$Tree" "shape" "LTurningTrees$Shape;", Cond.fieldLink RX4 85 "TurningTrees$Shape" "root" "I", Cond.methodLink RX4 120 yX3_makeEven, Cond.instanceMethod yX3_makeEven, Cond.selects RX3 yX3_makeEven yX3_makeEven, Cond.initialized RX3, Cond.code yX3_makeEven cX3_makeEven 7 none, Cond.fieldLink RX3 24 "TurningTrees$Shape" "order" "[I", Cond.methodLink RX3 52 yX3_upOf, Cond.instanceMethod yX3_upOf, Cond.selects RX3 yX3_upOf yX3_upOf, Cond.code yX3_upOf cX3_upOf 2 (some .int), Cond.fieldLink RX3 18 "TurningTrees$Shape" "up" "[I", Cond.static yX5_at, Cond.initialized RX5, Cond.code yX5_at cX5_at 2 (some .int), Cond.methodLink RX3 73 yX3_leastUnder, Cond.instanceMethod yX3_leastUnder, Cond.selects RX3 yX3_leastUnder yX3_leastUnder, Cond.code yX3_leastUnder cX3_leastUnder 4 (some .int), Cond.methodLink RX3 64 yX3_leftOf, Cond.instanceMethod yX3_leftOf, Cond.selects RX3 yX3_leftOf yX3_leftOf, Cond.code yX3_leftOf cX3_leftOf 2 (some .int)]
def wsX4_evenOut_r2 : List Cond := [Cond.fieldLink RX3 9 "TurningTrees$Shape" "left" "[I", Cond.methodLink RX3 70 yX3_greatestUnder, Cond.instanceMethod yX3_greatestUnder, Cond.selects RX3 yX3_greatestUnder yX3_greatestUnder, Cond.code yX3_greatestUnder cX3_greatestUnder 4 (some .int), Cond.methodLink RX3 67 yX3_rightOf, Cond.instanceMethod yX3_rightOf, Cond.selects RX3 yX3_rightOf yX3_rightOf, Cond.code yX3_rightOf cX3_rightOf 2 (some .int), Cond.fieldLink RX3 15 "TurningTrees$Shape" "right" "[I", Cond.methodLink RX3 48 yX3_holds, Cond.instanceMethod yX3_holds, Cond.selects RX3 yX3_holds yX3_holds, Cond.code yX3_holds cX3_holds 2 (some .boolean), Cond.methodLink RX3 44 yX3_sizeOf, Cond.instanceMethod yX3_sizeOf, Cond.selects RX3 yX3_sizeOf yX3_sizeOf, Cond.code yX3_sizeOf cX3_sizeOf 2 (some .int), Cond.fieldLink RX3 21 "TurningTrees$Shape" "size" "[I", Cond.static yX5_put, Cond.code yX5_put cX5_put 3 none, Cond.methodLink RX3 100 yX3_evenOf, Cond.static yX3_evenOf, Cond.code yX3_evenOf cX3_evenOf 6 (some .int)]
def wsX4_evenOut_r3 : List Cond := [Cond.methodLink RX3 94 yX3_hangLeft, Cond.instanceMethod yX3_hangLeft, Cond.selects RX3 yX3_hangLeft yX3_hangLeft, Cond.code yX3_hangLeft cX3_hangLeft 3 none, Cond.methodLink RX3 97 yX3_hangRight, Cond.instanceMethod yX3_hangRight, Cond.selects RX3 yX3_hangRight yX3_hangRight, Cond.code yX3_hangRight cX3_hangRight 3 none, Cond.methodLink RX3 91 yX3_resize, Cond.instanceMethod yX3_resize, Cond.selects RX3 yX3_resize yX3_resize, Cond.code yX3_resize cX3_resize 2 none, Cond.methodLink RX3 80 yX3_hang, Cond.instanceMethod yX3_hang, Cond.selects RX3 yX3_hang yX3_hang, Cond.code yX3_hang cX3_hang 3 none, Cond.fieldLink RX3 33 "TurningTrees$Shape" "root" "I", Cond.methodLink RX4 123 yX4_beginMost, Cond.instanceMethod yX4_beginMost, Cond.selects RX4 yX4_beginMost yX4_beginMost, Cond.initialized RX4, Cond.code yX4_beginMost cX4_beginMost 1 none, Cond.fieldLink RX4 9 "TurningTrees$Tree" "kind" "I", Cond.fieldLink RX4 32 "TurningTrees$Tree" "most" "I"]
def wsX4_evenOut_r4 : List Cond := [Cond.methodLink RX4 46 yX3_keysHeld, Cond.instanceMethod yX3_keysHeld, Cond.selects RX3 yX3_keysHeld yX3_keysHeld, Cond.code yX3_keysHeld cX3_keysHeld 1 (some .int)]
def wsX4_evenOut : List Cond := .code yX4_evenOut cX4_evenOut 3 none :: ((wsX4_evenOut_r1 ++ (wsX4_evenOut_r2 ++ (wsX4_evenOut_r3 ++ wsX4_evenOut_r4))) ++ wsX40 ++ wsX30)
def wsX5_weight : List Cond := .code yX5_weight cX5_weight 1 (some .int) :: ([])
def wsX4_riseByWeight_r1 : List Cond := [Cond.fieldLink RX4 18 "TurningTrees$Tree" "shape" "LTurningTrees$Shape;", Cond.methodLink RX4 79 yX3_upOf, Cond.instanceMethod yX3_upOf, Cond.selects RX3 yX3_upOf yX3_upOf, Cond.initialized RX3, Cond.code yX3_upOf cX3_upOf 2 (some .int), Cond.fieldLink RX3 18 "TurningTrees$Shape" "up" "[I", Cond.static yX5_at, Cond.initialized RX5, Cond.code yX5_at cX5_at 2 (some .int), Cond.static yX5_weight, Cond.code yX5_weight cX5_weight 1 (some .int), Cond.methodLink RX4 110 yX3_turn, Cond.instanceMethod yX3_turn, Cond.selects RX3 yX3_turn yX3_turn, Cond.code yX3_turn cX3_turn 4 none, Cond.fieldLink RX3 37 "TurningTrees$Shape" "turns" "I", Cond.methodLink RX3 52 yX3_upOf, Cond.methodLink RX3 67 yX3_rightOf, Cond.instanceMethod yX3_rightOf, Cond.selects RX3 yX3_rightOf yX3_rightOf, Cond.code yX3_rightOf cX3_rightOf 2 (some .int), Cond.fieldLink RX3 15 "TurningTrees$Shape" "right" "[I", Cond.methodLink RX3 94 yX3_hangLeft]
def wsX4_riseByWeight_r2 : List Cond := [Cond.instanceMethod yX3_hangLeft, Cond.selects RX3 yX3_hangLeft yX3_hangLeft, Cond.code yX3_hangLeft cX3_hangLeft 3 none, Cond.fieldLink RX3 9 "TurningTrees$Shape" "left" "[I", Cond.static yX5_put, Cond.code yX5_put cX5_put 3 none, Cond.methodLink RX3 97 yX3_hangRight, Cond.instanceMethod yX3_hangRight, Cond.selects RX3 yX3_hangRight yX3_hangRight, Cond.code yX3_hangRight cX3_hangRight 3 none, Cond.methodLink RX3 64 yX3_leftOf, Cond.instanceMethod yX3_leftOf, Cond.selects RX3 yX3_leftOf yX3_leftOf, Cond.code yX3_leftOf cX3_leftOf 2 (some .int), Cond.methodLink RX3 80 yX3_hang, Cond.instanceMethod yX3_hang, Cond.selects RX3 yX3_hang yX3_hang, Cond.code yX3_hang cX3_hang 3 none, Cond.fieldLink RX3 33 "TurningTrees$Shape" "root" "I", Cond.methodLink RX3 91 yX3_resize, Cond.instanceMethod yX3_resize, Cond.selects RX3 yX3_resize yX3_resize, Cond.code yX3_resize cX3_resize 2 none, Cond.fieldLink RX3 21 "TurningTrees$Shape" "size" "[I"]
def wsX4_riseByWeight_r3 : List Cond := [Cond.methodLink RX3 44 yX3_sizeOf, Cond.instanceMethod yX3_sizeOf, Cond.selects RX3 yX3_sizeOf yX3_sizeOf, Cond.code yX3_sizeOf cX3_sizeOf 2 (some .int)]
def wsX4_riseByWeight : List Cond := .code yX4_riseByWeight cX4_riseByWeight 4 none :: ((wsX4_riseByWeight_r1 ++ (wsX4_riseByWeight_r2 ++ wsX4_riseByWeight_r3)) ++ wsX40 ++ wsX30)
def wsX4_splay_r1 : List Cond := [Cond.fieldLink RX4 18 "TurningTrees$Tree" "shape" "LTurningTrees$Shape;", Cond.methodLink RX4 79 yX3_upOf, Cond.instanceMethod yX3_upOf, Cond.selects RX3 yX3_upOf yX3_upOf, Cond.initialized RX3, Cond.code yX3_upOf cX3_upOf 2 (some .int), Cond.fieldLink RX3 18 "TurningTrees$Shape" "up" "[I", Cond.static yX5_at, Cond.initialized RX5, Cond.code yX5_at cX5_at 2 (some .int), Cond.methodLink RX4 110 yX3_turn, Cond.instanceMethod yX3_turn, Cond.selects RX3 yX3_turn yX3_turn, Cond.code yX3_turn cX3_turn 4 none, Cond.fieldLink RX3 37 "TurningTrees$Shape" "turns" "I", Cond.methodLink RX3 52 yX3_upOf, Cond.methodLink RX3 67 yX3_rightOf, Cond.instanceMethod yX3_rightOf, Cond.selects RX3 yX3_rightOf yX3_rightOf, Cond.code yX3_rightOf cX3_rightOf 2 (some .int), Cond.fieldLink RX3 15 "TurningTrees$Shape" "right" "[I", Cond.methodLink RX3 94 yX3_hangLeft, Cond.instanceMethod yX3_hangLeft, Cond.selects RX3 yX3_hangLeft yX3_hangLeft]
def wsX4_splay_r2 : List Cond := [Cond.code yX3_hangLeft cX3_hangLeft 3 none, Cond.fieldLink RX3 9 "TurningTrees$Shape" "left" "[I", Cond.static yX5_put, Cond.code yX5_put cX5_put 3 none, Cond.methodLink RX3 97 yX3_hangRight, Cond.instanceMethod yX3_hangRight, Cond.selects RX3 yX3_hangRight yX3_hangRight, Cond.code yX3_hangRight cX3_hangRight 3 none, Cond.methodLink RX3 64 yX3_leftOf, Cond.instanceMethod yX3_leftOf, Cond.selects RX3 yX3_leftOf yX3_leftOf, Cond.code yX3_leftOf cX3_leftOf 2 (some .int), Cond.methodLink RX3 80 yX3_hang, Cond.instanceMethod yX3_hang, Cond.selects RX3 yX3_hang yX3_hang, Cond.code yX3_hang cX3_hang 3 none, Cond.fieldLink RX3 33 "TurningTrees$Shape" "root" "I", Cond.methodLink RX3 91 yX3_resize, Cond.instanceMethod yX3_resize, Cond.selects RX3 yX3_resize yX3_resize, Cond.code yX3_resize cX3_resize 2 none, Cond.fieldLink RX3 21 "TurningTrees$Shape" "size" "[I", Cond.methodLink RX3 44 yX3_sizeOf, Cond.instanceMethod yX3_sizeOf]
def wsX4_splay_r3 : List Cond := [Cond.selects RX3 yX3_sizeOf yX3_sizeOf, Cond.code yX3_sizeOf cX3_sizeOf 2 (some .int)]
def wsX4_splay : List Cond := .code yX4_splay cX4_splay 5 none :: ((wsX4_splay_r1 ++ (wsX4_splay_r2 ++ wsX4_splay_r3)) ++ wsX40 ++ wsX30)
def wsX4_raiseToRoot_r1 : List Cond := [Cond.fieldLink RX4 18 "TurningTrees$Tree" "shape" "LTurningTrees$Shape;", Cond.methodLink RX4 79 yX3_upOf, Cond.instanceMethod yX3_upOf, Cond.selects RX3 yX3_upOf yX3_upOf, Cond.initialized RX3, Cond.code yX3_upOf cX3_upOf 2 (some .int), Cond.fieldLink RX3 18 "TurningTrees$Shape" "up" "[I", Cond.static yX5_at, Cond.initialized RX5, Cond.code yX5_at cX5_at 2 (some .int), Cond.methodLink RX4 110 yX3_turn, Cond.instanceMethod yX3_turn, Cond.selects RX3 yX3_turn yX3_turn, Cond.code yX3_turn cX3_turn 4 none, Cond.fieldLink RX3 37 "TurningTrees$Shape" "turns" "I", Cond.methodLink RX3 52 yX3_upOf, Cond.methodLink RX3 67 yX3_rightOf, Cond.instanceMethod yX3_rightOf, Cond.selects RX3 yX3_rightOf yX3_rightOf, Cond.code yX3_rightOf cX3_rightOf 2 (some .int), Cond.fieldLink RX3 15 "TurningTrees$Shape" "right" "[I", Cond.methodLink RX3 94 yX3_hangLeft, Cond.instanceMethod yX3_hangLeft, Cond.selects RX3 yX3_hangLeft yX3_hangLeft]
def wsX4_raiseToRoot_r2 : List Cond := [Cond.code yX3_hangLeft cX3_hangLeft 3 none, Cond.fieldLink RX3 9 "TurningTrees$Shape" "left" "[I", Cond.static yX5_put, Cond.code yX5_put cX5_put 3 none, Cond.methodLink RX3 97 yX3_hangRight, Cond.instanceMethod yX3_hangRight, Cond.selects RX3 yX3_hangRight yX3_hangRight, Cond.code yX3_hangRight cX3_hangRight 3 none, Cond.methodLink RX3 64 yX3_leftOf, Cond.instanceMethod yX3_leftOf, Cond.selects RX3 yX3_leftOf yX3_leftOf, Cond.code yX3_leftOf cX3_leftOf 2 (some .int), Cond.methodLink RX3 80 yX3_hang, Cond.instanceMethod yX3_hang, Cond.selects RX3 yX3_hang yX3_hang, Cond.code yX3_hang cX3_hang 3 none, Cond.fieldLink RX3 33 "TurningTrees$Shape" "root" "I", Cond.methodLink RX3 91 yX3_resize, Cond.instanceMethod yX3_resize, Cond.selects RX3 yX3_resize yX3_resize, Cond.code yX3_resize cX3_resize 2 none, Cond.fieldLink RX3 21 "TurningTrees$Shape" "size" "[I", Cond.methodLink RX3 44 yX3_sizeOf, Cond.instanceMethod yX3_sizeOf]
def wsX4_raiseToRoot_r3 : List Cond := [Cond.selects RX3 yX3_sizeOf yX3_sizeOf, Cond.code yX3_sizeOf cX3_sizeOf 2 (some .int)]
def wsX4_raiseToRoot : List Cond := .code yX4_raiseToRoot cX4_raiseToRoot 3 none :: ((wsX4_raiseToRoot_r1 ++ (wsX4_raiseToRoot_r2 ++ wsX4_raiseToRoot_r3)) ++ wsX40 ++ wsX30)
def wsX4_act_r1 : List Cond := [Cond.fieldLink RX4 9 "TurningTrees$Tree" "kind" "I", Cond.fieldLink RX4 18 "TurningTrees$Tree" "shape" "LTurningTrees$Shape;", Cond.methodLink RX4 107 yX4_splay, Cond.instanceMethod yX4_splay, Cond.selects RX4 yX4_splay yX4_splay, Cond.initialized RX4, Cond.code yX4_splay cX4_splay 5 none, Cond.methodLink RX4 79 yX3_upOf, Cond.instanceMethod yX3_upOf, Cond.selects RX3 yX3_upOf yX3_upOf, Cond.initialized RX3, Cond.code yX3_upOf cX3_upOf 2 (some .int), Cond.fieldLink RX3 18 "TurningTrees$Shape" "up" "[I", Cond.static yX5_at, Cond.initialized RX5, Cond.code yX5_at cX5_at 2 (some .int), Cond.methodLink RX4 110 yX3_turn, Cond.instanceMethod yX3_turn, Cond.selects RX3 yX3_turn yX3_turn, Cond.code yX3_turn cX3_turn 4 none, Cond.fieldLink RX3 37 "TurningTrees$Shape" "turns" "I", Cond.methodLink RX3 52 yX3_upOf, Cond.methodLink RX3 67 yX3_rightOf, Cond.instanceMethod yX3_rightOf]
def wsX4_act_r2 : List Cond := [Cond.selects RX3 yX3_rightOf yX3_rightOf, Cond.code yX3_rightOf cX3_rightOf 2 (some .int), Cond.fieldLink RX3 15 "TurningTrees$Shape" "right" "[I", Cond.methodLink RX3 94 yX3_hangLeft, Cond.instanceMethod yX3_hangLeft, Cond.selects RX3 yX3_hangLeft yX3_hangLeft, Cond.code yX3_hangLeft cX3_hangLeft 3 none, Cond.fieldLink RX3 9 "TurningTrees$Shape" "left" "[I", Cond.static yX5_put, Cond.code yX5_put cX5_put 3 none, Cond.methodLink RX3 97 yX3_hangRight, Cond.instanceMethod yX3_hangRight, Cond.selects RX3 yX3_hangRight yX3_hangRight, Cond.code yX3_hangRight cX3_hangRight 3 none, Cond.methodLink RX3 64 yX3_leftOf, Cond.instanceMethod yX3_leftOf, Cond.selects RX3 yX3_leftOf yX3_leftOf, Cond.code yX3_leftOf cX3_leftOf 2 (some .int), Cond.methodLink RX3 80 yX3_hang, Cond.instanceMethod yX3_hang, Cond.selects RX3 yX3_hang yX3_hang, Cond.code yX3_hang cX3_hang 3 none, Cond.fieldLink RX3 33 "TurningTrees$Shape" "root" "I", Cond.methodLink RX3 91 yX3_resize]
def wsX4_act_r3 : List Cond := [Cond.instanceMethod yX3_resize, Cond.selects RX3 yX3_resize yX3_resize, Cond.code yX3_resize cX3_resize 2 none, Cond.fieldLink RX3 21 "TurningTrees$Shape" "size" "[I", Cond.methodLink RX3 44 yX3_sizeOf, Cond.instanceMethod yX3_sizeOf, Cond.selects RX3 yX3_sizeOf yX3_sizeOf, Cond.code yX3_sizeOf cX3_sizeOf 2 (some .int), Cond.methodLink RX4 101 yX4_raiseToRoot, Cond.instanceMethod yX4_raiseToRoot, Cond.selects RX4 yX4_raiseToRoot yX4_raiseToRoot, Cond.code yX4_raiseToRoot cX4_raiseToRoot 3 none]
def wsX4_act : List Cond := .code yX4_act cX4_act 2 none :: ((wsX4_act_r1 ++ (wsX4_act_r2 ++ wsX4_act_r3)) ++ wsX40 ++ wsX30)
def wsX4_takeIn_r1 : List Cond := [Cond.fieldLink RX4 18 "TurningTrees$Tree" "shape" "LTurningTrees$Shape;", Cond.fieldLink RX4 9 "TurningTrees$Tree" "kind" "I", Cond.fieldLink RX4 32 "TurningTrees$Tree" "most" "I", Cond.methodLink RX4 50 Lib.Math.max.name, Cond.static Lib.Math.max.name, Cond.initialized "java/lang/Math", Cond.code Lib.Math.max.name Lib.Math.max.code 2 (some .int), Cond.methodLink RX4 35 yX3_lastOnWay, Cond.instanceMethod yX3_lastOnWay, Cond.selects RX3 yX3_lastOnWay yX3_lastOnWay, Cond.initialized RX3, Cond.code yX3_lastOnWay cX3_lastOnWay 5 (some .int), Cond.fieldLink RX3 33 "TurningTrees$Shape" "root" "I", Cond.methodLink RX3 64 yX3_leftOf, Cond.instanceMethod yX3_leftOf, Cond.selects RX3 yX3_leftOf yX3_leftOf, Cond.code yX3_leftOf cX3_leftOf 2 (some .int), Cond.fieldLink RX3 9 "TurningTrees$Shape" "left" "[I", Cond.static yX5_at, Cond.initialized RX5, Cond.code yX5_at cX5_at 2 (some .int), Cond.methodLink RX3 67 yX3_rightOf, Cond.instanceMethod yX3_rightOf, Cond.selects RX3 yX3_rightOf yX3_rightOf]
def wsX4_takeIn_r2 : List Cond := [Cond.code yX3_rightOf cX3_rightOf 2 (some .int), Cond.fieldLink RX3 15 "TurningTrees$Shape" "right" "[I", Cond.methodLink RX4 39 yX3_depthOf, Cond.instanceMethod yX3_depthOf, Cond.selects RX3 yX3_depthOf yX3_depthOf, Cond.code yX3_depthOf cX3_depthOf 4 (some .int), Cond.methodLink RX3 48 yX3_holds, Cond.instanceMethod yX3_holds, Cond.selects RX3 yX3_holds yX3_holds, Cond.code yX3_holds cX3_holds 2 (some .boolean), Cond.methodLink RX3 44 yX3_sizeOf, Cond.instanceMethod yX3_sizeOf, Cond.selects RX3 yX3_sizeOf yX3_sizeOf, Cond.code yX3_sizeOf cX3_sizeOf 2 (some .int), Cond.fieldLink RX3 21 "TurningTrees$Shape" "size" "[I", Cond.methodLink RX3 52 yX3_upOf, Cond.instanceMethod yX3_upOf, Cond.selects RX3 yX3_upOf yX3_upOf, Cond.code yX3_upOf cX3_upOf 2 (some .int), Cond.fieldLink RX3 18 "TurningTrees$Shape" "up" "[I", Cond.methodLink RX4 42 yX3_hangNew, Cond.instanceMethod yX3_hangNew, Cond.selects RX3 yX3_hangNew yX3_hangNew, Cond.code yX3_hangNew cX3_hangNew 3 none]
def wsX4_takeIn_r3 : List Cond := [Cond.methodLink RX3 80 yX3_hang, Cond.instanceMethod yX3_hang, Cond.selects RX3 yX3_hang yX3_hang, Cond.code yX3_hang cX3_hang 3 none, Cond.static yX5_put, Cond.code yX5_put cX5_put 3 none, Cond.methodLink RX3 84 yX3_resizeUpFrom, Cond.instanceMethod yX3_resizeUpFrom, Cond.selects RX3 yX3_resizeUpFrom yX3_resizeUpFrom, Cond.code yX3_resizeUpFrom cX3_resizeUpFrom 4 none, Cond.methodLink RX3 91 yX3_resize, Cond.instanceMethod yX3_resize, Cond.selects RX3 yX3_resize yX3_resize, Cond.code yX3_resize cX3_resize 2 none, Cond.methodLink RX4 46 yX3_keysHeld, Cond.instanceMethod yX3_keysHeld, Cond.selects RX3 yX3_keysHeld yX3_keysHeld, Cond.code yX3_keysHeld cX3_keysHeld 1 (some .int), Cond.methodLink RX4 56 yX4_isTooDeep, Cond.static yX4_isTooDeep, Cond.initialized RX4, Cond.code yX4_isTooDeep cX4_isTooDeep 7 (some .boolean), Cond.constantLong RX4 126 (3), Cond.constantLong RX4 128 (2)]
def wsX4_takeIn_r4 : List Cond := [Cond.methodLink RX4 60 yX4_lopsidedAbove, Cond.instanceMethod yX4_lopsidedAbove, Cond.selects RX4 yX4_lopsidedAbove yX4_lopsidedAbove, Cond.code yX4_lopsidedAbove cX4_lopsidedAbove 4 (some .int), Cond.methodLink RX4 79 yX3_upOf, Cond.methodLink RX4 116 yX4_isLopsided, Cond.instanceMethod yX4_isLopsided, Cond.selects RX4 yX4_isLopsided yX4_isLopsided, Cond.code yX4_isLopsided cX4_isLopsided 3 (some .boolean), Cond.methodLink RX4 130 yX3_leftOf, Cond.methodLink RX4 133 yX3_sizeOf, Cond.methodLink RX4 136 yX3_rightOf, Cond.methodLink RX4 63 yX4_evenOut, Cond.instanceMethod yX4_evenOut, Cond.selects RX4 yX4_evenOut yX4_evenOut, Cond.code yX4_evenOut cX4_evenOut 3 none, Cond.fieldLink RX4 85 "TurningTrees$Shape" "root" "I", Cond.methodLink RX4 120 yX3_makeEven, Cond.instanceMethod yX3_makeEven, Cond.selects RX3 yX3_makeEven yX3_makeEven, Cond.code yX3_makeEven cX3_makeEven 7 none, Cond.fieldLink RX3 24 "TurningTrees$Shape" "order" "[I", Cond.methodLink RX3 73 yX3_leastUnder, Cond.instanceMethod yX3_leastUnder]
def wsX4_takeIn_r5 : List Cond := [Cond.selects RX3 yX3_leastUnder yX3_leastUnder, Cond.code yX3_leastUnder cX3_leastUnder 4 (some .int), Cond.methodLink RX3 70 yX3_greatestUnder, Cond.instanceMethod yX3_greatestUnder, Cond.selects RX3 yX3_greatestUnder yX3_greatestUnder, Cond.code yX3_greatestUnder cX3_greatestUnder 4 (some .int), Cond.methodLink RX3 100 yX3_evenOf, Cond.static yX3_evenOf, Cond.code yX3_evenOf cX3_evenOf 6 (some .int), Cond.methodLink RX3 94 yX3_hangLeft, Cond.instanceMethod yX3_hangLeft, Cond.selects RX3 yX3_hangLeft yX3_hangLeft, Cond.code yX3_hangLeft cX3_hangLeft 3 none, Cond.methodLink RX3 97 yX3_hangRight, Cond.instanceMethod yX3_hangRight, Cond.selects RX3 yX3_hangRight yX3_hangRight, Cond.code yX3_hangRight cX3_hangRight 3 none, Cond.methodLink RX4 123 yX4_beginMost, Cond.instanceMethod yX4_beginMost, Cond.selects RX4 yX4_beginMost yX4_beginMost, Cond.code yX4_beginMost cX4_beginMost 1 none, Cond.methodLink RX4 67 yX4_riseByWeight, Cond.instanceMethod yX4_riseByWeight, Cond.selects RX4 yX4_riseByWeight yX4_riseByWeight]
def wsX4_takeIn_r6 : List Cond := [Cond.code yX4_riseByWeight cX4_riseByWeight 4 none, Cond.static yX5_weight, Cond.code yX5_weight cX5_weight 1 (some .int), Cond.methodLink RX4 110 yX3_turn, Cond.instanceMethod yX3_turn, Cond.selects RX3 yX3_turn yX3_turn, Cond.code yX3_turn cX3_turn 4 none, Cond.fieldLink RX3 37 "TurningTrees$Shape" "turns" "I", Cond.methodLink RX4 70 yX4_act, Cond.instanceMethod yX4_act, Cond.selects RX4 yX4_act yX4_act, Cond.code yX4_act cX4_act 2 none, Cond.methodLink RX4 107 yX4_splay, Cond.instanceMethod yX4_splay, Cond.selects RX4 yX4_splay yX4_splay, Cond.code yX4_splay cX4_splay 5 none, Cond.methodLink RX4 101 yX4_raiseToRoot, Cond.instanceMethod yX4_raiseToRoot, Cond.selects RX4 yX4_raiseToRoot yX4_raiseToRoot, Cond.code yX4_raiseToRoot cX4_raiseToRoot 3 none]
def wsX4_takeIn : List Cond := .code yX4_takeIn cX4_takeIn 4 (some .int) :: ((wsX4_takeIn_r1 ++ (wsX4_takeIn_r2 ++ (wsX4_takeIn_r3 ++ (wsX4_takeIn_r4 ++ (wsX4_takeIn_r5 ++ wsX4_takeIn_r6))))) ++ wsX40 ++ wsX30)
def wsX4_seek_r1 : List Cond := [Cond.fieldLink RX4 18 "TurningTrees$Tree" "shape" "LTurningTrees$Shape;", Cond.fieldLink RX4 29 "TurningTrees$Tree" "costs" "I", Cond.fieldLink RX4 25 "TurningTrees$Tree" "row" "LTurningTrees$Row;", Cond.methodLink RX4 35 yX3_lastOnWay, Cond.instanceMethod yX3_lastOnWay, Cond.selects RX3 yX3_lastOnWay yX3_lastOnWay, Cond.initialized RX3, Cond.code yX3_lastOnWay cX3_lastOnWay 5 (some .int), Cond.fieldLink RX3 33 "TurningTrees$Shape" "root" "I", Cond.methodLink RX3 64 yX3_leftOf, Cond.instanceMethod yX3_leftOf, Cond.selects RX3 yX3_leftOf yX3_leftOf, Cond.code yX3_leftOf cX3_leftOf 2 (some .int), Cond.fieldLink RX3 9 "TurningTrees$Shape" "left" "[I", Cond.static yX5_at, Cond.initialized RX5, Cond.code yX5_at cX5_at 2 (some .int), Cond.methodLink RX3 67 yX3_rightOf, Cond.instanceMethod yX3_rightOf, Cond.selects RX3 yX3_rightOf yX3_rightOf, Cond.code yX3_rightOf cX3_rightOf 2 (some .int), Cond.fieldLink RX3 15 "TurningTrees$Shape" "right" "[I", Cond.methodLink RX4 39 yX3_depthOf, Cond.instanceMethod yX3_depthOf]
def wsX4_seek_r2 : List Cond := [Cond.selects RX3 yX3_depthOf yX3_depthOf, Cond.code yX3_depthOf cX3_depthOf 4 (some .int), Cond.methodLink RX3 48 yX3_holds, Cond.instanceMethod yX3_holds, Cond.selects RX3 yX3_holds yX3_holds, Cond.code yX3_holds cX3_holds 2 (some .boolean), Cond.methodLink RX3 44 yX3_sizeOf, Cond.instanceMethod yX3_sizeOf, Cond.selects RX3 yX3_sizeOf yX3_sizeOf, Cond.code yX3_sizeOf cX3_sizeOf 2 (some .int), Cond.fieldLink RX3 21 "TurningTrees$Shape" "size" "[I", Cond.methodLink RX3 52 yX3_upOf, Cond.instanceMethod yX3_upOf, Cond.selects RX3 yX3_upOf yX3_upOf, Cond.code yX3_upOf cX3_upOf 2 (some .int), Cond.fieldLink RX3 18 "TurningTrees$Shape" "up" "[I", Cond.methodLink RX4 73 yX2_write, Cond.instanceMethod yX2_write, Cond.selects RX2 yX2_write yX2_write, Cond.initialized RX2, Cond.code yX2_write cX2_write 2 none, Cond.fieldLink RX2 15 "TurningTrees$Row" "length" "I", Cond.fieldLink RX2 9 "TurningTrees$Row" "keys" "[I", Cond.static yX5_put]
def wsX4_seek_r3 : List Cond := [Cond.code yX5_put cX5_put 3 none, Cond.methodLink RX4 70 yX4_act, Cond.instanceMethod yX4_act, Cond.selects RX4 yX4_act yX4_act, Cond.initialized RX4, Cond.code yX4_act cX4_act 2 none, Cond.fieldLink RX4 9 "TurningTrees$Tree" "kind" "I", Cond.methodLink RX4 107 yX4_splay, Cond.instanceMethod yX4_splay, Cond.selects RX4 yX4_splay yX4_splay, Cond.code yX4_splay cX4_splay 5 none, Cond.methodLink RX4 79 yX3_upOf, Cond.methodLink RX4 110 yX3_turn, Cond.instanceMethod yX3_turn, Cond.selects RX3 yX3_turn yX3_turn, Cond.code yX3_turn cX3_turn 4 none, Cond.fieldLink RX3 37 "TurningTrees$Shape" "turns" "I", Cond.methodLink RX3 94 yX3_hangLeft, Cond.instanceMethod yX3_hangLeft, Cond.selects RX3 yX3_hangLeft yX3_hangLeft, Cond.code yX3_hangLeft cX3_hangLeft 3 none, Cond.methodLink RX3 97 yX3_hangRight, Cond.instanceMethod yX3_hangRight, Cond.selects RX3 yX3_hangRight yX3_hangRight]
def wsX4_seek_r4 : List Cond := [Cond.code yX3_hangRight cX3_hangRight 3 none, Cond.methodLink RX3 80 yX3_hang, Cond.instanceMethod yX3_hang, Cond.selects RX3 yX3_hang yX3_hang, Cond.code yX3_hang cX3_hang 3 none, Cond.methodLink RX3 91 yX3_resize, Cond.instanceMethod yX3_resize, Cond.selects RX3 yX3_resize yX3_resize, Cond.code yX3_resize cX3_resize 2 none, Cond.methodLink RX4 101 yX4_raiseToRoot, Cond.instanceMethod yX4_raiseToRoot, Cond.selects RX4 yX4_raiseToRoot yX4_raiseToRoot, Cond.code yX4_raiseToRoot cX4_raiseToRoot 3 none]
def wsX4_seek : List Cond := .code yX4_seek cX4_seek 4 (some .int) :: ((wsX4_seek_r1 ++ (wsX4_seek_r2 ++ (wsX4_seek_r3 ++ wsX4_seek_r4))) ++ wsX40 ++ wsX30 ++ wsX20)
def wsX4_childToTurn : List Cond := .code yX4_childToTurn cX4_childToTurn 4 (some .int) :: ([.fieldLink RX4 18 "TurningTrees$Tree" "shape" "LTurningTrees$Shape;", .fieldLink RX4 9 "TurningTrees$Tree" "kind" "I", .methodLink RX4 130 yX3_leftOf, .instanceMethod yX3_leftOf, .selects RX3 yX3_leftOf yX3_leftOf, .initialized RX3, .code yX3_leftOf cX3_leftOf 2 (some .int), .fieldLink RX3 9 "TurningTrees$Shape" "left" "[I", .static yX5_at, .initialized RX5, .code yX5_at cX5_at 2 (some .int), .methodLink RX4 136 yX3_rightOf, .instanceMethod yX3_rightOf, .selects RX3 yX3_rightOf yX3_rightOf, .code yX3_rightOf cX3_rightOf 2 (some .int), .fieldLink RX3 15 "TurningTrees$Shape" "right" "[I", .static yX5_weight, .code yX5_weight cX5_weight 1 (some .int), .methodLink RX4 133 yX3_sizeOf, .instanceMethod yX3_sizeOf, .selects RX3 yX3_sizeOf yX3_sizeOf, .code yX3_sizeOf cX3_sizeOf 2 (some .int), .fieldLink RX3 21 "TurningTrees$Shape" "size" "[I"] ++ wsX40 ++ wsX30)
def wsX4_sink_r1 : List Cond := [Cond.fieldLink RX4 18 "TurningTrees$Tree" "shape" "LTurningTrees$Shape;", Cond.methodLink RX4 133 yX3_sizeOf, Cond.instanceMethod yX3_sizeOf, Cond.selects RX3 yX3_sizeOf yX3_sizeOf, Cond.initialized RX3, Cond.code yX3_sizeOf cX3_sizeOf 2 (some .int), Cond.fieldLink RX3 21 "TurningTrees$Shape" "size" "[I", Cond.methodLink RX4 139 yX4_childToTurn, Cond.instanceMethod yX4_childToTurn, Cond.selects RX4 yX4_childToTurn yX4_childToTurn, Cond.initialized RX4, Cond.code yX4_childToTurn cX4_childToTurn 4 (some .int), Cond.fieldLink RX4 9 "TurningTrees$Tree" "kind" "I", Cond.methodLink RX4 130 yX3_leftOf, Cond.instanceMethod yX3_leftOf, Cond.selects RX3 yX3_leftOf yX3_leftOf, Cond.code yX3_leftOf cX3_leftOf 2 (some .int), Cond.fieldLink RX3 9 "TurningTrees$Shape" "left" "[I", Cond.static yX5_at, Cond.initialized RX5, Cond.code yX5_at cX5_at 2 (some .int), Cond.methodLink RX4 136 yX3_rightOf, Cond.instanceMethod yX3_rightOf, Cond.selects RX3 yX3_rightOf yX3_rightOf]
def wsX4_sink_r2 : List Cond := [Cond.code yX3_rightOf cX3_rightOf 2 (some .int), Cond.fieldLink RX3 15 "TurningTrees$Shape" "right" "[I", Cond.static yX5_weight, Cond.code yX5_weight cX5_weight 1 (some .int), Cond.methodLink RX4 110 yX3_turn, Cond.instanceMethod yX3_turn, Cond.selects RX3 yX3_turn yX3_turn, Cond.code yX3_turn cX3_turn 4 none, Cond.fieldLink RX3 37 "TurningTrees$Shape" "turns" "I", Cond.methodLink RX3 52 yX3_upOf, Cond.instanceMethod yX3_upOf, Cond.selects RX3 yX3_upOf yX3_upOf, Cond.code yX3_upOf cX3_upOf 2 (some .int), Cond.fieldLink RX3 18 "TurningTrees$Shape" "up" "[I", Cond.methodLink RX3 67 yX3_rightOf, Cond.methodLink RX3 94 yX3_hangLeft, Cond.instanceMethod yX3_hangLeft, Cond.selects RX3 yX3_hangLeft yX3_hangLeft, Cond.code yX3_hangLeft cX3_hangLeft 3 none, Cond.static yX5_put, Cond.code yX5_put cX5_put 3 none, Cond.methodLink RX3 97 yX3_hangRight, Cond.instanceMethod yX3_hangRight, Cond.selects RX3 yX3_hangRight yX3_hangRight]
def wsX4_sink_r3 : List Cond := [Cond.code yX3_hangRight cX3_hangRight 3 none, Cond.methodLink RX3 64 yX3_leftOf, Cond.methodLink RX3 80 yX3_hang, Cond.instanceMethod yX3_hang, Cond.selects RX3 yX3_hang yX3_hang, Cond.code yX3_hang cX3_hang 3 none, Cond.fieldLink RX3 33 "TurningTrees$Shape" "root" "I", Cond.methodLink RX3 91 yX3_resize, Cond.instanceMethod yX3_resize, Cond.selects RX3 yX3_resize yX3_resize, Cond.code yX3_resize cX3_resize 2 none, Cond.methodLink RX3 44 yX3_sizeOf]
def wsX4_sink : List Cond := .code yX4_sink cX4_sink 3 none :: ((wsX4_sink_r1 ++ (wsX4_sink_r2 ++ wsX4_sink_r3)) ++ wsX40 ++ wsX30)
def wsX4_giveUp_r1 : List Cond := [Cond.fieldLink RX4 18 "TurningTrees$Tree" "shape" "LTurningTrees$Shape;", Cond.fieldLink RX4 9 "TurningTrees$Tree" "kind" "I", Cond.fieldLink RX4 32 "TurningTrees$Tree" "most" "I", Cond.fieldLink RX4 85 "TurningTrees$Shape" "root" "I", Cond.methodLink RX4 35 yX3_lastOnWay, Cond.instanceMethod yX3_lastOnWay, Cond.selects RX3 yX3_lastOnWay yX3_lastOnWay, Cond.initialized RX3, Cond.code yX3_lastOnWay cX3_lastOnWay 5 (some .int), Cond.fieldLink RX3 33 "TurningTrees$Shape" "root" "I", Cond.methodLink RX3 64 yX3_leftOf, Cond.instanceMethod yX3_leftOf, Cond.selects RX3 yX3_leftOf yX3_leftOf, Cond.code yX3_leftOf cX3_leftOf 2 (some .int), Cond.fieldLink RX3 9 "TurningTrees$Shape" "left" "[I", Cond.static yX5_at, Cond.initialized RX5, Cond.code yX5_at cX5_at 2 (some .int), Cond.methodLink RX3 67 yX3_rightOf, Cond.instanceMethod yX3_rightOf, Cond.selects RX3 yX3_rightOf yX3_rightOf, Cond.code yX3_rightOf cX3_rightOf 2 (some .int), Cond.fieldLink RX3 15 "TurningTrees$Shape" "right" "[I", Cond.methodLink RX4 39 yX3_depthOf]
def wsX4_giveUp_r2 : List Cond := [Cond.instanceMethod yX3_depthOf, Cond.selects RX3 yX3_depthOf yX3_depthOf, Cond.code yX3_depthOf cX3_depthOf 4 (some .int), Cond.methodLink RX3 48 yX3_holds, Cond.instanceMethod yX3_holds, Cond.selects RX3 yX3_holds yX3_holds, Cond.code yX3_holds cX3_holds 2 (some .boolean), Cond.methodLink RX3 44 yX3_sizeOf, Cond.instanceMethod yX3_sizeOf, Cond.selects RX3 yX3_sizeOf yX3_sizeOf, Cond.code yX3_sizeOf cX3_sizeOf 2 (some .int), Cond.fieldLink RX3 21 "TurningTrees$Shape" "size" "[I", Cond.methodLink RX3 52 yX3_upOf, Cond.instanceMethod yX3_upOf, Cond.selects RX3 yX3_upOf yX3_upOf, Cond.code yX3_upOf cX3_upOf 2 (some .int), Cond.fieldLink RX3 18 "TurningTrees$Shape" "up" "[I", Cond.methodLink RX4 70 yX4_act, Cond.instanceMethod yX4_act, Cond.selects RX4 yX4_act yX4_act, Cond.initialized RX4, Cond.code yX4_act cX4_act 2 none, Cond.methodLink RX4 107 yX4_splay, Cond.instanceMethod yX4_splay]
def wsX4_giveUp_r3 : List Cond := [Cond.selects RX4 yX4_splay yX4_splay, Cond.code yX4_splay cX4_splay 5 none, Cond.methodLink RX4 79 yX3_upOf, Cond.methodLink RX4 110 yX3_turn, Cond.instanceMethod yX3_turn, Cond.selects RX3 yX3_turn yX3_turn, Cond.code yX3_turn cX3_turn 4 none, Cond.fieldLink RX3 37 "TurningTrees$Shape" "turns" "I", Cond.methodLink RX3 94 yX3_hangLeft, Cond.instanceMethod yX3_hangLeft, Cond.selects RX3 yX3_hangLeft yX3_hangLeft, Cond.code yX3_hangLeft cX3_hangLeft 3 none, Cond.static yX5_put, Cond.code yX5_put cX5_put 3 none, Cond.methodLink RX3 97 yX3_hangRight, Cond.instanceMethod yX3_hangRight, Cond.selects RX3 yX3_hangRight yX3_hangRight, Cond.code yX3_hangRight cX3_hangRight 3 none, Cond.methodLink RX3 80 yX3_hang, Cond.instanceMethod yX3_hang, Cond.selects RX3 yX3_hang yX3_hang, Cond.code yX3_hang cX3_hang 3 none, Cond.methodLink RX3 91 yX3_resize, Cond.instanceMethod yX3_resize]
def wsX4_giveUp_r4 : List Cond := [Cond.selects RX3 yX3_resize yX3_resize, Cond.code yX3_resize cX3_resize 2 none, Cond.methodLink RX4 101 yX4_raiseToRoot, Cond.instanceMethod yX4_raiseToRoot, Cond.selects RX4 yX4_raiseToRoot yX4_raiseToRoot, Cond.code yX4_raiseToRoot cX4_raiseToRoot 3 none, Cond.methodLink RX4 76 yX4_sink, Cond.instanceMethod yX4_sink, Cond.selects RX4 yX4_sink yX4_sink, Cond.code yX4_sink cX4_sink 3 none, Cond.methodLink RX4 133 yX3_sizeOf, Cond.methodLink RX4 139 yX4_childToTurn, Cond.instanceMethod yX4_childToTurn, Cond.selects RX4 yX4_childToTurn yX4_childToTurn, Cond.code yX4_childToTurn cX4_childToTurn 4 (some .int), Cond.methodLink RX4 130 yX3_leftOf, Cond.methodLink RX4 136 yX3_rightOf, Cond.static yX5_weight, Cond.code yX5_weight cX5_weight 1 (some .int), Cond.methodLink RX4 82 yX3_takeOff, Cond.instanceMethod yX3_takeOff, Cond.selects RX3 yX3_takeOff yX3_takeOff, Cond.code yX3_takeOff cX3_takeOff 3 none, Cond.methodLink RX3 88 yX3_forget]
def wsX4_giveUp_r5 : List Cond := [Cond.instanceMethod yX3_forget, Cond.selects RX3 yX3_forget yX3_forget, Cond.code yX3_forget cX3_forget 2 none, Cond.methodLink RX3 84 yX3_resizeUpFrom, Cond.instanceMethod yX3_resizeUpFrom, Cond.selects RX3 yX3_resizeUpFrom yX3_resizeUpFrom, Cond.code yX3_resizeUpFrom cX3_resizeUpFrom 4 none, Cond.methodLink RX4 46 yX3_keysHeld, Cond.instanceMethod yX3_keysHeld, Cond.selects RX3 yX3_keysHeld yX3_keysHeld, Cond.code yX3_keysHeld cX3_keysHeld 1 (some .int), Cond.methodLink RX4 63 yX4_evenOut, Cond.instanceMethod yX4_evenOut, Cond.selects RX4 yX4_evenOut yX4_evenOut, Cond.code yX4_evenOut cX4_evenOut 3 none, Cond.methodLink RX4 120 yX3_makeEven, Cond.instanceMethod yX3_makeEven, Cond.selects RX3 yX3_makeEven yX3_makeEven, Cond.code yX3_makeEven cX3_makeEven 7 none, Cond.fieldLink RX3 24 "TurningTrees$Shape" "order" "[I", Cond.methodLink RX3 73 yX3_leastUnder, Cond.instanceMethod yX3_leastUnder, Cond.selects RX3 yX3_leastUnder yX3_leastUnder, Cond.code yX3_leastUnder cX3_leastUnder 4 (some .int)]
def wsX4_giveUp_r6 : List Cond := [Cond.methodLink RX3 70 yX3_greatestUnder, Cond.instanceMethod yX3_greatestUnder, Cond.selects RX3 yX3_greatestUnder yX3_greatestUnder, Cond.code yX3_greatestUnder cX3_greatestUnder 4 (some .int), Cond.methodLink RX3 100 yX3_evenOf, Cond.static yX3_evenOf, Cond.code yX3_evenOf cX3_evenOf 6 (some .int), Cond.methodLink RX4 123 yX4_beginMost, Cond.instanceMethod yX4_beginMost, Cond.selects RX4 yX4_beginMost yX4_beginMost, Cond.code yX4_beginMost cX4_beginMost 1 none]
def wsX4_giveUp : List Cond := .code yX4_giveUp cX4_giveUp 5 (some .int) :: ((wsX4_giveUp_r1 ++ (wsX4_giveUp_r2 ++ (wsX4_giveUp_r3 ++ (wsX4_giveUp_r4 ++ (wsX4_giveUp_r5 ++ wsX4_giveUp_r6))))) ++ wsX40 ++ wsX30)
def wsX4_mergeByWeight_r1 : List Cond := [Cond.fieldLink RX4 18 "TurningTrees$Tree" "shape" "LTurningTrees$Shape;", Cond.static yX5_weight, Cond.initialized RX5, Cond.code yX5_weight cX5_weight 1 (some .int), Cond.methodLink RX4 92 yX3_hang, Cond.instanceMethod yX3_hang, Cond.selects RX3 yX3_hang yX3_hang, Cond.initialized RX3, Cond.code yX3_hang cX3_hang 3 none, Cond.fieldLink RX3 18 "TurningTrees$Shape" "up" "[I", Cond.fieldLink RX3 33 "TurningTrees$Shape" "root" "I", Cond.fieldLink RX3 9 "TurningTrees$Shape" "left" "[I", Cond.fieldLink RX3 15 "TurningTrees$Shape" "right" "[I", Cond.static yX5_put, Cond.code yX5_put cX5_put 3 none, Cond.methodLink RX4 136 yX3_rightOf, Cond.instanceMethod yX3_rightOf, Cond.selects RX3 yX3_rightOf yX3_rightOf, Cond.code yX3_rightOf cX3_rightOf 2 (some .int), Cond.static yX5_at, Cond.code yX5_at cX5_at 2 (some .int), Cond.methodLink RX4 130 yX3_leftOf, Cond.instanceMethod yX3_leftOf, Cond.selects RX3 yX3_leftOf yX3_leftOf]
def wsX4_mergeByWeight_r2 : List Cond := [Cond.code yX3_leftOf cX3_leftOf 2 (some .int), Cond.methodLink RX4 104 yX3_resizeUpFrom, Cond.instanceMethod yX3_resizeUpFrom, Cond.selects RX3 yX3_resizeUpFrom yX3_resizeUpFrom, Cond.code yX3_resizeUpFrom cX3_resizeUpFrom 4 none, Cond.methodLink RX3 91 yX3_resize, Cond.instanceMethod yX3_resize, Cond.selects RX3 yX3_resize yX3_resize, Cond.code yX3_resize cX3_resize 2 none, Cond.fieldLink RX3 21 "TurningTrees$Shape" "size" "[I", Cond.methodLink RX3 44 yX3_sizeOf, Cond.instanceMethod yX3_sizeOf, Cond.selects RX3 yX3_sizeOf yX3_sizeOf, Cond.code yX3_sizeOf cX3_sizeOf 2 (some .int), Cond.methodLink RX3 52 yX3_upOf, Cond.instanceMethod yX3_upOf, Cond.selects RX3 yX3_upOf yX3_upOf, Cond.code yX3_upOf cX3_upOf 2 (some .int)]
def wsX4_mergeByWeight : List Cond := .code yX4_mergeByWeight cX4_mergeByWeight 7 none :: ((wsX4_mergeByWeight_r1 ++ wsX4_mergeByWeight_r2) ++ wsX40 ++ wsX30)
def wsX4_takeOver_r1 : List Cond := [Cond.fieldLink RX4 18 "TurningTrees$Tree" "shape" "LTurningTrees$Shape;", Cond.fieldLink RX4 85 "TurningTrees$Shape" "root" "I", Cond.fieldLink RX4 9 "TurningTrees$Tree" "kind" "I", Cond.methodLink RX4 88 yX3_moveKeys, Cond.instanceMethod yX3_moveKeys, Cond.selects RX3 yX3_moveKeys yX3_moveKeys, Cond.initialized RX3, Cond.code yX3_moveKeys cX3_moveKeys 4 none, Cond.fieldLink RX3 9 "TurningTrees$Shape" "left" "[I", Cond.fieldLink RX3 15 "TurningTrees$Shape" "right" "[I", Cond.fieldLink RX3 18 "TurningTrees$Shape" "up" "[I", Cond.fieldLink RX3 21 "TurningTrees$Shape" "size" "[I", Cond.methodLink RX3 48 yX3_holds, Cond.instanceMethod yX3_holds, Cond.selects RX3 yX3_holds yX3_holds, Cond.code yX3_holds cX3_holds 2 (some .boolean), Cond.methodLink RX3 44 yX3_sizeOf, Cond.instanceMethod yX3_sizeOf, Cond.selects RX3 yX3_sizeOf yX3_sizeOf, Cond.code yX3_sizeOf cX3_sizeOf 2 (some .int), Cond.methodLink RX3 64 yX3_leftOf, Cond.instanceMethod yX3_leftOf, Cond.selects RX3 yX3_leftOf yX3_leftOf, Cond.code yX3_leftOf cX3_leftOf 2 (some .int)]
def wsX4_takeOver_r2 : List Cond := [Cond.static yX5_at, Cond.initialized RX5, Cond.code yX5_at cX5_at 2 (some .int), Cond.static yX5_put, Cond.code yX5_put cX5_put 3 none, Cond.methodLink RX3 67 yX3_rightOf, Cond.instanceMethod yX3_rightOf, Cond.selects RX3 yX3_rightOf yX3_rightOf, Cond.code yX3_rightOf cX3_rightOf 2 (some .int), Cond.methodLink RX3 52 yX3_upOf, Cond.instanceMethod yX3_upOf, Cond.selects RX3 yX3_upOf yX3_upOf, Cond.code yX3_upOf cX3_upOf 2 (some .int), Cond.methodLink RX3 88 yX3_forget, Cond.instanceMethod yX3_forget, Cond.selects RX3 yX3_forget yX3_forget, Cond.code yX3_forget cX3_forget 2 none, Cond.methodLink RX4 92 yX3_hang, Cond.instanceMethod yX3_hang, Cond.selects RX3 yX3_hang yX3_hang, Cond.code yX3_hang cX3_hang 3 none, Cond.fieldLink RX3 33 "TurningTrees$Shape" "root" "I", Cond.methodLink RX4 95 yX4_mergeByWeight, Cond.instanceMethod yX4_mergeByWeight]
def wsX4_takeOver_r3 : List Cond := [Cond.selects RX4 yX4_mergeByWeight yX4_mergeByWeight, Cond.initialized RX4, Cond.code yX4_mergeByWeight cX4_mergeByWeight 7 none, Cond.static yX5_weight, Cond.code yX5_weight cX5_weight 1 (some .int), Cond.methodLink RX4 136 yX3_rightOf, Cond.methodLink RX4 130 yX3_leftOf, Cond.methodLink RX4 104 yX3_resizeUpFrom, Cond.instanceMethod yX3_resizeUpFrom, Cond.selects RX3 yX3_resizeUpFrom yX3_resizeUpFrom, Cond.code yX3_resizeUpFrom cX3_resizeUpFrom 4 none, Cond.methodLink RX3 91 yX3_resize, Cond.instanceMethod yX3_resize, Cond.selects RX3 yX3_resize yX3_resize, Cond.code yX3_resize cX3_resize 2 none, Cond.methodLink RX4 98 yX3_greatestUnder, Cond.instanceMethod yX3_greatestUnder, Cond.selects RX3 yX3_greatestUnder yX3_greatestUnder, Cond.code yX3_greatestUnder cX3_greatestUnder 4 (some .int), Cond.methodLink RX4 101 yX4_raiseToRoot, Cond.instanceMethod yX4_raiseToRoot, Cond.selects RX4 yX4_raiseToRoot yX4_raiseToRoot, Cond.code yX4_raiseToRoot cX4_raiseToRoot 3 none, Cond.methodLink RX4 79 yX3_upOf]
def wsX4_takeOver_r4 : List Cond := [Cond.methodLink RX4 110 yX3_turn, Cond.instanceMethod yX3_turn, Cond.selects RX3 yX3_turn yX3_turn, Cond.code yX3_turn cX3_turn 4 none, Cond.fieldLink RX3 37 "TurningTrees$Shape" "turns" "I", Cond.methodLink RX3 94 yX3_hangLeft, Cond.instanceMethod yX3_hangLeft, Cond.selects RX3 yX3_hangLeft yX3_hangLeft, Cond.code yX3_hangLeft cX3_hangLeft 3 none, Cond.methodLink RX3 97 yX3_hangRight, Cond.instanceMethod yX3_hangRight, Cond.selects RX3 yX3_hangRight yX3_hangRight, Cond.code yX3_hangRight cX3_hangRight 3 none, Cond.methodLink RX3 80 yX3_hang]
def wsX4_takeOver : List Cond := .code yX4_takeOver cX4_takeOver 5 none :: ((wsX4_takeOver_r1 ++ (wsX4_takeOver_r2 ++ (wsX4_takeOver_r3 ++ wsX4_takeOver_r4))) ++ wsX40 ++ wsX30)
def wsX5_init_r1 : List Cond := [Cond.methodLink RX5 1 objectInit, Cond.instanceMethod objectInit, Cond.code objectInit ⟨#[0xb1]⟩ 1 none, Cond.classLink RX5 9 RX4, Cond.fieldLink RX5 11 "TurningTrees" "trees" "[LTurningTrees$Tree;", Cond.fieldLink RX5 15 "TurningTrees" "treesMade" "I", Cond.arrayClass .int, Cond.fieldLink RX5 19 "TurningTrees" "keptDepths" "[I", Cond.fieldLink RX5 23 "TurningTrees" "keptMade" "I", Cond.fieldLink RX5 26 "TurningTrees" "marks" "[I", Cond.classLink RX5 29 RX1, Cond.instantiable RX1 2, Cond.initialized RX1, Cond.fieldLink RX5 32 "TurningTrees" "page" "LTurningTrees$Page;", Cond.classLink RX5 36 RX0, Cond.instantiable RX0 7, Cond.initialized RX0, Cond.fieldLink RX5 39 "TurningTrees" "bestStill" "LTurningTrees$BestStill;", Cond.methodLink RX5 31 yX1_init, Cond.instanceMethod yX1_init, Cond.code yX1_init cX1_init 1 none, Cond.methodLink RX1 3 objectInit, Cond.fieldLink RX1 9 "TurningTrees$Page" "keys" "[I", Cond.fieldLink RX1 15 "TurningTrees$Page" "filled" "I"]
def wsX5_init_r2 : List Cond := [Cond.methodLink RX5 38 yX0_init, Cond.instanceMethod yX0_init, Cond.code yX0_init cX0_init 1 none, Cond.methodLink RX0 3 objectInit, Cond.fieldLink RX0 9 "TurningTrees$BestStill" "keys" "[I", Cond.fieldLink RX0 15 "TurningTrees$BestStill" "asks" "[I", Cond.fieldLink RX0 18 "TurningTrees$BestStill" "asksBefore" "[I", Cond.fieldLink RX0 21 "TurningTrees$BestStill" "least" "[I", Cond.fieldLink RX0 24 "TurningTrees$BestStill" "tops" "[I", Cond.fieldLink RX0 27 "TurningTrees$BestStill" "sum" "I", Cond.fieldLink RX0 31 "TurningTrees$BestStill" "root" "I"]
def wsX5_init : List Cond := .code yX5_init cX5_init 1 none :: ((wsX5_init_r1 ++ wsX5_init_r2) ++ wsX50 ++ wsX10 ++ wsX00)
def wsX5_newTree_r1 : List Cond := [Cond.fieldLink RX5 15 "TurningTrees" "treesMade" "I", Cond.fieldLink RX5 11 "TurningTrees" "trees" "[LTurningTrees$Tree;", Cond.classLink RX5 9 RX4, Cond.instantiable RX4 5, Cond.initialized RX4, Cond.methodLink RX5 178 yX4_init, Cond.instanceMethod yX4_init, Cond.code yX4_init cX4_init 2 none, Cond.methodLink RX4 3 objectInit, Cond.instanceMethod objectInit, Cond.code objectInit ⟨#[0xb1]⟩ 1 none, Cond.fieldLink RX4 9 "TurningTrees$Tree" "kind" "I", Cond.classLink RX4 15 RX3, Cond.instantiable RX3 7, Cond.initialized RX3, Cond.fieldLink RX4 18 "TurningTrees$Tree" "shape" "LTurningTrees$Shape;", Cond.classLink RX4 22 RX2, Cond.instantiable RX2 2, Cond.initialized RX2, Cond.fieldLink RX4 25 "TurningTrees$Tree" "row" "LTurningTrees$Row;", Cond.fieldLink RX4 29 "TurningTrees$Tree" "costs" "I", Cond.fieldLink RX4 32 "TurningTrees$Tree" "most" "I", Cond.methodLink RX4 17 yX3_init, Cond.instanceMethod yX3_init]
def wsX5_newTree_r2 : List Cond := [Cond.code yX3_init cX3_init 1 none, Cond.methodLink RX3 3 objectInit, Cond.arrayClass .int, Cond.fieldLink RX3 9 "TurningTrees$Shape" "left" "[I", Cond.fieldLink RX3 15 "TurningTrees$Shape" "right" "[I", Cond.fieldLink RX3 18 "TurningTrees$Shape" "up" "[I", Cond.fieldLink RX3 21 "TurningTrees$Shape" "size" "[I", Cond.fieldLink RX3 24 "TurningTrees$Shape" "order" "[I", Cond.fieldLink RX3 33 "TurningTrees$Shape" "root" "I", Cond.fieldLink RX3 37 "TurningTrees$Shape" "turns" "I", Cond.methodLink RX3 27 yJ7_fill_53178, Cond.static yJ7_fill_53178, Cond.initialized RJ7, Cond.code yJ7_fill_53178 cJ7_fill_53178 4 none, Cond.methodLink RX4 24 yX2_init, Cond.instanceMethod yX2_init, Cond.code yX2_init cX2_init 1 none, Cond.methodLink RX2 3 objectInit, Cond.fieldLink RX2 9 "TurningTrees$Row" "keys" "[I", Cond.fieldLink RX2 15 "TurningTrees$Row" "length" "I"]
def wsX5_newTree : List Cond := .code yX5_newTree cX5_newTree 2 (some .int) :: ((wsX5_newTree_r1 ++ wsX5_newTree_r2) ++ wsX50 ++ wsX40 ++ wsX30 ++ wsX20)
def wsX5_tree_r1 : List Cond := [Cond.methodLink RX5 43 yX5_newTree, Cond.instanceMethod yX5_newTree, Cond.selects RX5 yX5_newTree yX5_newTree, Cond.initialized RX5, Cond.code yX5_newTree cX5_newTree 2 (some .int), Cond.fieldLink RX5 15 "TurningTrees" "treesMade" "I", Cond.fieldLink RX5 11 "TurningTrees" "trees" "[LTurningTrees$Tree;", Cond.classLink RX5 9 RX4, Cond.instantiable RX4 5, Cond.initialized RX4, Cond.methodLink RX5 178 yX4_init, Cond.instanceMethod yX4_init, Cond.code yX4_init cX4_init 2 none, Cond.methodLink RX4 3 objectInit, Cond.instanceMethod objectInit, Cond.code objectInit ⟨#[0xb1]⟩ 1 none, Cond.fieldLink RX4 9 "TurningTrees$Tree" "kind" "I", Cond.classLink RX4 15 RX3, Cond.instantiable RX3 7, Cond.initialized RX3, Cond.fieldLink RX4 18 "TurningTrees$Tree" "shape" "LTurningTrees$Shape;", Cond.classLink RX4 22 RX2, Cond.instantiable RX2 2, Cond.initialized RX2]
def wsX5_tree_r2 : List Cond := [Cond.fieldLink RX4 25 "TurningTrees$Tree" "row" "LTurningTrees$Row;", Cond.fieldLink RX4 29 "TurningTrees$Tree" "costs" "I", Cond.fieldLink RX4 32 "TurningTrees$Tree" "most" "I", Cond.methodLink RX4 17 yX3_init, Cond.instanceMethod yX3_init, Cond.code yX3_init cX3_init 1 none, Cond.methodLink RX3 3 objectInit, Cond.arrayClass .int, Cond.fieldLink RX3 9 "TurningTrees$Shape" "left" "[I", Cond.fieldLink RX3 15 "TurningTrees$Shape" "right" "[I", Cond.fieldLink RX3 18 "TurningTrees$Shape" "up" "[I", Cond.fieldLink RX3 21 "TurningTrees$Shape" "size" "[I", Cond.fieldLink RX3 24 "TurningTrees$Shape" "order" "[I", Cond.fieldLink RX3 33 "TurningTrees$Shape" "root" "I", Cond.fieldLink RX3 37 "TurningTrees$Shape" "turns" "I", Cond.methodLink RX3 27 yJ7_fill_53178, Cond.static yJ7_fill_53178, Cond.initialized RJ7, Cond.code yJ7_fill_53178 cJ7_fill_53178 4 none, Cond.methodLink RX4 24 yX2_init, Cond.instanceMethod yX2_init, Cond.code yX2_init cX2_init 1 none, Cond.methodLink RX2 3 objectInit, Cond.fieldLink RX2 9 "TurningTrees$Row" "keys" "[I"]
def wsX5_tree_r3 : List Cond := [Cond.fieldLink RX2 15 "TurningTrees$Row" "length" "I"]
def wsX5_tree : List Cond := .code yX5_tree cX5_tree 2 (some .int) :: ((wsX5_tree_r1 ++ (wsX5_tree_r2 ++ wsX5_tree_r3)) ++ wsX50 ++ wsX40 ++ wsX30 ++ wsX20)
def wsX5_treeOf : List Cond := .code yX5_treeOf cX5_treeOf 2 (some (.object "TurningTrees$Tree")) :: ([.fieldLink RX5 11 "TurningTrees" "trees" "[LTurningTrees$Tree;"] ++ wsX50)
def wsX5_isKey : List Cond := .code yX5_isKey cX5_isKey 1 (some .boolean) :: ([])
def wsX5_add_r1 : List Cond := [Cond.fieldLink RX5 55 "TurningTrees$Tree" "shape" "LTurningTrees$Shape;", Cond.methodLink RX5 47 yX5_treeOf, Cond.instanceMethod yX5_treeOf, Cond.selects RX5 yX5_treeOf yX5_treeOf, Cond.initialized RX5, Cond.code yX5_treeOf cX5_treeOf 2 (some (.object "TurningTrees$Tree")), Cond.fieldLink RX5 11 "TurningTrees" "trees" "[LTurningTrees$Tree;", Cond.methodLink RX5 51 yX5_isKey, Cond.static yX5_isKey, Cond.code yX5_isKey cX5_isKey 1 (some .boolean), Cond.methodLink RX5 59 yX3_holds, Cond.instanceMethod yX3_holds, Cond.selects RX3 yX3_holds yX3_holds, Cond.initialized RX3, Cond.code yX3_holds cX3_holds 2 (some .boolean), Cond.methodLink RX3 44 yX3_sizeOf, Cond.instanceMethod yX3_sizeOf, Cond.selects RX3 yX3_sizeOf yX3_sizeOf, Cond.code yX3_sizeOf cX3_sizeOf 2 (some .int), Cond.fieldLink RX3 21 "TurningTrees$Shape" "size" "[I", Cond.methodLink RX5 64 yX4_takeIn, Cond.instanceMethod yX4_takeIn, Cond.selects RX4 yX4_takeIn yX4_takeIn, Cond.initialized RX4]
def wsX5_add_r2 : List Cond := [Cond.code yX4_takeIn cX4_takeIn 4 (some .int), Cond.fieldLink RX4 18 "TurningTrees$Tree" "shape" "LTurningTrees$Shape;", Cond.fieldLink RX4 9 "TurningTrees$Tree" "kind" "I", Cond.fieldLink RX4 32 "TurningTrees$Tree" "most" "I", Cond.methodLink RX4 50 Lib.Math.max.name, Cond.static Lib.Math.max.name, Cond.initialized "java/lang/Math", Cond.code Lib.Math.max.name Lib.Math.max.code 2 (some .int), Cond.methodLink RX4 35 yX3_lastOnWay, Cond.instanceMethod yX3_lastOnWay, Cond.selects RX3 yX3_lastOnWay yX3_lastOnWay, Cond.code yX3_lastOnWay cX3_lastOnWay 5 (some .int), Cond.fieldLink RX3 33 "TurningTrees$Shape" "root" "I", Cond.methodLink RX3 64 yX3_leftOf, Cond.instanceMethod yX3_leftOf, Cond.selects RX3 yX3_leftOf yX3_leftOf, Cond.code yX3_leftOf cX3_leftOf 2 (some .int), Cond.fieldLink RX3 9 "TurningTrees$Shape" "left" "[I", Cond.static yX5_at, Cond.code yX5_at cX5_at 2 (some .int), Cond.methodLink RX3 67 yX3_rightOf, Cond.instanceMethod yX3_rightOf, Cond.selects RX3 yX3_rightOf yX3_rightOf, Cond.code yX3_rightOf cX3_rightOf 2 (some .int)]
def wsX5_add_r3 : List Cond := [Cond.fieldLink RX3 15 "TurningTrees$Shape" "right" "[I", Cond.methodLink RX4 39 yX3_depthOf, Cond.instanceMethod yX3_depthOf, Cond.selects RX3 yX3_depthOf yX3_depthOf, Cond.code yX3_depthOf cX3_depthOf 4 (some .int), Cond.methodLink RX3 48 yX3_holds, Cond.methodLink RX3 52 yX3_upOf, Cond.instanceMethod yX3_upOf, Cond.selects RX3 yX3_upOf yX3_upOf, Cond.code yX3_upOf cX3_upOf 2 (some .int), Cond.fieldLink RX3 18 "TurningTrees$Shape" "up" "[I", Cond.methodLink RX4 42 yX3_hangNew, Cond.instanceMethod yX3_hangNew, Cond.selects RX3 yX3_hangNew yX3_hangNew, Cond.code yX3_hangNew cX3_hangNew 3 none, Cond.methodLink RX3 80 yX3_hang, Cond.instanceMethod yX3_hang, Cond.selects RX3 yX3_hang yX3_hang, Cond.code yX3_hang cX3_hang 3 none, Cond.static yX5_put, Cond.code yX5_put cX5_put 3 none, Cond.methodLink RX3 84 yX3_resizeUpFrom, Cond.instanceMethod yX3_resizeUpFrom, Cond.selects RX3 yX3_resizeUpFrom yX3_resizeUpFrom]
def wsX5_add_r4 : List Cond := [Cond.code yX3_resizeUpFrom cX3_resizeUpFrom 4 none, Cond.methodLink RX3 91 yX3_resize, Cond.instanceMethod yX3_resize, Cond.selects RX3 yX3_resize yX3_resize, Cond.code yX3_resize cX3_resize 2 none, Cond.methodLink RX4 46 yX3_keysHeld, Cond.instanceMethod yX3_keysHeld, Cond.selects RX3 yX3_keysHeld yX3_keysHeld, Cond.code yX3_keysHeld cX3_keysHeld 1 (some .int), Cond.methodLink RX4 56 yX4_isTooDeep, Cond.static yX4_isTooDeep, Cond.code yX4_isTooDeep cX4_isTooDeep 7 (some .boolean), Cond.constantLong RX4 126 (3), Cond.constantLong RX4 128 (2), Cond.methodLink RX4 60 yX4_lopsidedAbove, Cond.instanceMethod yX4_lopsidedAbove, Cond.selects RX4 yX4_lopsidedAbove yX4_lopsidedAbove, Cond.code yX4_lopsidedAbove cX4_lopsidedAbove 4 (some .int), Cond.methodLink RX4 79 yX3_upOf, Cond.methodLink RX4 116 yX4_isLopsided, Cond.instanceMethod yX4_isLopsided, Cond.selects RX4 yX4_isLopsided yX4_isLopsided, Cond.code yX4_isLopsided cX4_isLopsided 3 (some .boolean), Cond.methodLink RX4 130 yX3_leftOf]
def wsX5_add_r5 : List Cond := [Cond.methodLink RX4 133 yX3_sizeOf, Cond.methodLink RX4 136 yX3_rightOf, Cond.methodLink RX4 63 yX4_evenOut, Cond.instanceMethod yX4_evenOut, Cond.selects RX4 yX4_evenOut yX4_evenOut, Cond.code yX4_evenOut cX4_evenOut 3 none, Cond.fieldLink RX4 85 "TurningTrees$Shape" "root" "I", Cond.methodLink RX4 120 yX3_makeEven, Cond.instanceMethod yX3_makeEven, Cond.selects RX3 yX3_makeEven yX3_makeEven, Cond.code yX3_makeEven cX3_makeEven 7 none, Cond.fieldLink RX3 24 "TurningTrees$Shape" "order" "[I", Cond.methodLink RX3 73 yX3_leastUnder, Cond.instanceMethod yX3_leastUnder, Cond.selects RX3 yX3_leastUnder yX3_leastUnder, Cond.code yX3_leastUnder cX3_leastUnder 4 (some .int), Cond.methodLink RX3 70 yX3_greatestUnder, Cond.instanceMethod yX3_greatestUnder, Cond.selects RX3 yX3_greatestUnder yX3_greatestUnder, Cond.code yX3_greatestUnder cX3_greatestUnder 4 (some .int), Cond.methodLink RX3 100 yX3_evenOf, Cond.static yX3_evenOf, Cond.code yX3_evenOf cX3_evenOf 6 (some .int), Cond.methodLink RX3 94 yX3_hangLeft]
def wsX5_add_r6 : List Cond := [Cond.instanceMethod yX3_hangLeft, Cond.selects RX3 yX3_hangLeft yX3_hangLeft, Cond.code yX3_hangLeft cX3_hangLeft 3 none, Cond.methodLink RX3 97 yX3_hangRight, Cond.instanceMethod yX3_hangRight, Cond.selects RX3 yX3_hangRight yX3_hangRight, Cond.code yX3_hangRight cX3_hangRight 3 none, Cond.methodLink RX4 123 yX4_beginMost, Cond.instanceMethod yX4_beginMost, Cond.selects RX4 yX4_beginMost yX4_beginMost, Cond.code yX4_beginMost cX4_beginMost 1 none, Cond.methodLink RX4 67 yX4_riseByWeight, Cond.instanceMethod yX4_riseByWeight, Cond.selects RX4 yX4_riseByWeight yX4_riseByWeight, Cond.code yX4_riseByWeight cX4_riseByWeight 4 none, Cond.static yX5_weight, Cond.code yX5_weight cX5_weight 1 (some .int), Cond.methodLink RX4 110 yX3_turn, Cond.instanceMethod yX3_turn, Cond.selects RX3 yX3_turn yX3_turn, Cond.code yX3_turn cX3_turn 4 none, Cond.fieldLink RX3 37 "TurningTrees$Shape" "turns" "I", Cond.methodLink RX4 70 yX4_act, Cond.instanceMethod yX4_act]
def wsX5_add_r7 : List Cond := [Cond.selects RX4 yX4_act yX4_act, Cond.code yX4_act cX4_act 2 none, Cond.methodLink RX4 107 yX4_splay, Cond.instanceMethod yX4_splay, Cond.selects RX4 yX4_splay yX4_splay, Cond.code yX4_splay cX4_splay 5 none, Cond.methodLink RX4 101 yX4_raiseToRoot, Cond.instanceMethod yX4_raiseToRoot, Cond.selects RX4 yX4_raiseToRoot yX4_raiseToRoot, Cond.code yX4_raiseToRoot cX4_raiseToRoot 3 none]
def wsX5_add : List Cond := .code yX5_add cX5_add 4 (some .int) :: ((wsX5_add_r1 ++ (wsX5_add_r2 ++ (wsX5_add_r3 ++ (wsX5_add_r4 ++ (wsX5_add_r5 ++ (wsX5_add_r6 ++ wsX5_add_r7)))))) ++ wsX40 ++ wsX50 ++ wsX30)
def wsX5_ask_r1 : List Cond := [Cond.classLink RX5 67 "java/util/NoSuchElementException", Cond.initialized "java/util/NoSuchElementException", Cond.methodLink RX5 47 yX5_treeOf, Cond.instanceMethod yX5_treeOf, Cond.selects RX5 yX5_treeOf yX5_treeOf, Cond.initialized RX5, Cond.code yX5_treeOf cX5_treeOf 2 (some (.object "TurningTrees$Tree")), Cond.fieldLink RX5 11 "TurningTrees" "trees" "[LTurningTrees$Tree;", Cond.methodLink RX5 51 yX5_isKey, Cond.static yX5_isKey, Cond.code yX5_isKey cX5_isKey 1 (some .boolean), Cond.methodLink RX5 74 yX4_seek, Cond.instanceMethod yX4_seek, Cond.selects RX4 yX4_seek yX4_seek, Cond.initialized RX4, Cond.code yX4_seek cX4_seek 4 (some .int), Cond.fieldLink RX4 18 "TurningTrees$Tree" "shape" "LTurningTrees$Shape;", Cond.fieldLink RX4 29 "TurningTrees$Tree" "costs" "I", Cond.fieldLink RX4 25 "TurningTrees$Tree" "row" "LTurningTrees$Row;", Cond.methodLink RX4 35 yX3_lastOnWay, Cond.instanceMethod yX3_lastOnWay, Cond.selects RX3 yX3_lastOnWay yX3_lastOnWay, Cond.initialized RX3, Cond.code yX3_lastOnWay cX3_lastOnWay 5 (some .int)]
def wsX5_ask_r2 : List Cond := [Cond.fieldLink RX3 33 "TurningTrees$Shape" "root" "I", Cond.methodLink RX3 64 yX3_leftOf, Cond.instanceMethod yX3_leftOf, Cond.selects RX3 yX3_leftOf yX3_leftOf, Cond.code yX3_leftOf cX3_leftOf 2 (some .int), Cond.fieldLink RX3 9 "TurningTrees$Shape" "left" "[I", Cond.static yX5_at, Cond.code yX5_at cX5_at 2 (some .int), Cond.methodLink RX3 67 yX3_rightOf, Cond.instanceMethod yX3_rightOf, Cond.selects RX3 yX3_rightOf yX3_rightOf, Cond.code yX3_rightOf cX3_rightOf 2 (some .int), Cond.fieldLink RX3 15 "TurningTrees$Shape" "right" "[I", Cond.methodLink RX4 39 yX3_depthOf, Cond.instanceMethod yX3_depthOf, Cond.selects RX3 yX3_depthOf yX3_depthOf, Cond.code yX3_depthOf cX3_depthOf 4 (some .int), Cond.methodLink RX3 48 yX3_holds, Cond.instanceMethod yX3_holds, Cond.selects RX3 yX3_holds yX3_holds, Cond.code yX3_holds cX3_holds 2 (some .boolean), Cond.methodLink RX3 44 yX3_sizeOf, Cond.instanceMethod yX3_sizeOf, Cond.selects RX3 yX3_sizeOf yX3_sizeOf]
def wsX5_ask_r3 : List Cond := [Cond.code yX3_sizeOf cX3_sizeOf 2 (some .int), Cond.fieldLink RX3 21 "TurningTrees$Shape" "size" "[I", Cond.methodLink RX3 52 yX3_upOf, Cond.instanceMethod yX3_upOf, Cond.selects RX3 yX3_upOf yX3_upOf, Cond.code yX3_upOf cX3_upOf 2 (some .int), Cond.fieldLink RX3 18 "TurningTrees$Shape" "up" "[I", Cond.methodLink RX4 73 yX2_write, Cond.instanceMethod yX2_write, Cond.selects RX2 yX2_write yX2_write, Cond.initialized RX2, Cond.code yX2_write cX2_write 2 none, Cond.fieldLink RX2 15 "TurningTrees$Row" "length" "I", Cond.fieldLink RX2 9 "TurningTrees$Row" "keys" "[I", Cond.static yX5_put, Cond.code yX5_put cX5_put 3 none, Cond.methodLink RX4 70 yX4_act, Cond.instanceMethod yX4_act, Cond.selects RX4 yX4_act yX4_act, Cond.code yX4_act cX4_act 2 none, Cond.fieldLink RX4 9 "TurningTrees$Tree" "kind" "I", Cond.methodLink RX4 107 yX4_splay, Cond.instanceMethod yX4_splay, Cond.selects RX4 yX4_splay yX4_splay]
def wsX5_ask_r4 : List Cond := [Cond.code yX4_splay cX4_splay 5 none, Cond.methodLink RX4 79 yX3_upOf, Cond.methodLink RX4 110 yX3_turn, Cond.instanceMethod yX3_turn, Cond.selects RX3 yX3_turn yX3_turn, Cond.code yX3_turn cX3_turn 4 none, Cond.fieldLink RX3 37 "TurningTrees$Shape" "turns" "I", Cond.methodLink RX3 94 yX3_hangLeft, Cond.instanceMethod yX3_hangLeft, Cond.selects RX3 yX3_hangLeft yX3_hangLeft, Cond.code yX3_hangLeft cX3_hangLeft 3 none, Cond.methodLink RX3 97 yX3_hangRight, Cond.instanceMethod yX3_hangRight, Cond.selects RX3 yX3_hangRight yX3_hangRight, Cond.code yX3_hangRight cX3_hangRight 3 none, Cond.methodLink RX3 80 yX3_hang, Cond.instanceMethod yX3_hang, Cond.selects RX3 yX3_hang yX3_hang, Cond.code yX3_hang cX3_hang 3 none, Cond.methodLink RX3 91 yX3_resize, Cond.instanceMethod yX3_resize, Cond.selects RX3 yX3_resize yX3_resize, Cond.code yX3_resize cX3_resize 2 none, Cond.methodLink RX4 101 yX4_raiseToRoot]
def wsX5_ask_r5 : List Cond := [Cond.instanceMethod yX4_raiseToRoot, Cond.selects RX4 yX4_raiseToRoot yX4_raiseToRoot, Cond.code yX4_raiseToRoot cX4_raiseToRoot 3 none]
def wsX5_ask : List Cond := .code yX5_ask cX5_ask 4 (some .int) :: ((wsX5_ask_r1 ++ (wsX5_ask_r2 ++ (wsX5_ask_r3 ++ (wsX5_ask_r4 ++ wsX5_ask_r5)))) ++ wsX50 ++ wsX40 ++ wsX30 ++ wsX20 ++ at13.filter goodWord)
def wsX5_remove_r1 : List Cond := [Cond.classLink RX5 67 "java/util/NoSuchElementException", Cond.initialized "java/util/NoSuchElementException", Cond.methodLink RX5 47 yX5_treeOf, Cond.instanceMethod yX5_treeOf, Cond.selects RX5 yX5_treeOf yX5_treeOf, Cond.initialized RX5, Cond.code yX5_treeOf cX5_treeOf 2 (some (.object "TurningTrees$Tree")), Cond.fieldLink RX5 11 "TurningTrees" "trees" "[LTurningTrees$Tree;", Cond.methodLink RX5 51 yX5_isKey, Cond.static yX5_isKey, Cond.code yX5_isKey cX5_isKey 1 (some .boolean), Cond.methodLink RX5 77 yX4_giveUp, Cond.instanceMethod yX4_giveUp, Cond.selects RX4 yX4_giveUp yX4_giveUp, Cond.initialized RX4, Cond.code yX4_giveUp cX4_giveUp 5 (some .int), Cond.fieldLink RX4 18 "TurningTrees$Tree" "shape" "LTurningTrees$Shape;", Cond.fieldLink RX4 9 "TurningTrees$Tree" "kind" "I", Cond.fieldLink RX4 32 "TurningTrees$Tree" "most" "I", Cond.fieldLink RX4 85 "TurningTrees$Shape" "root" "I", Cond.methodLink RX4 35 yX3_lastOnWay, Cond.instanceMethod yX3_lastOnWay, Cond.selects RX3 yX3_lastOnWay yX3_lastOnWay, Cond.initialized RX3]
def wsX5_remove_r2 : List Cond := [Cond.code yX3_lastOnWay cX3_lastOnWay 5 (some .int), Cond.fieldLink RX3 33 "TurningTrees$Shape" "root" "I", Cond.methodLink RX3 64 yX3_leftOf, Cond.instanceMethod yX3_leftOf, Cond.selects RX3 yX3_leftOf yX3_leftOf, Cond.code yX3_leftOf cX3_leftOf 2 (some .int), Cond.fieldLink RX3 9 "TurningTrees$Shape" "left" "[I", Cond.static yX5_at, Cond.code yX5_at cX5_at 2 (some .int), Cond.methodLink RX3 67 yX3_rightOf, Cond.instanceMethod yX3_rightOf, Cond.selects RX3 yX3_rightOf yX3_rightOf, Cond.code yX3_rightOf cX3_rightOf 2 (some .int), Cond.fieldLink RX3 15 "TurningTrees$Shape" "right" "[I", Cond.methodLink RX4 39 yX3_depthOf, Cond.instanceMethod yX3_depthOf, Cond.selects RX3 yX3_depthOf yX3_depthOf, Cond.code yX3_depthOf cX3_depthOf 4 (some .int), Cond.methodLink RX3 48 yX3_holds, Cond.instanceMethod yX3_holds, Cond.selects RX3 yX3_holds yX3_holds, Cond.code yX3_holds cX3_holds 2 (some .boolean), Cond.methodLink RX3 44 yX3_sizeOf, Cond.instanceMethod yX3_sizeOf]
def wsX5_remove_r3 : List Cond := [Cond.selects RX3 yX3_sizeOf yX3_sizeOf, Cond.code yX3_sizeOf cX3_sizeOf 2 (some .int), Cond.fieldLink RX3 21 "TurningTrees$Shape" "size" "[I", Cond.methodLink RX3 52 yX3_upOf, Cond.instanceMethod yX3_upOf, Cond.selects RX3 yX3_upOf yX3_upOf, Cond.code yX3_upOf cX3_upOf 2 (some .int), Cond.fieldLink RX3 18 "TurningTrees$Shape" "up" "[I", Cond.methodLink RX4 70 yX4_act, Cond.instanceMethod yX4_act, Cond.selects RX4 yX4_act yX4_act, Cond.code yX4_act cX4_act 2 none, Cond.methodLink RX4 107 yX4_splay, Cond.instanceMethod yX4_splay, Cond.selects RX4 yX4_splay yX4_splay, Cond.code yX4_splay cX4_splay 5 none, Cond.methodLink RX4 79 yX3_upOf, Cond.methodLink RX4 110 yX3_turn, Cond.instanceMethod yX3_turn, Cond.selects RX3 yX3_turn yX3_turn, Cond.code yX3_turn cX3_turn 4 none, Cond.fieldLink RX3 37 "TurningTrees$Shape" "turns" "I", Cond.methodLink RX3 94 yX3_hangLeft, Cond.instanceMethod yX3_hangLeft]
def wsX5_remove_r4 : List Cond := [Cond.selects RX3 yX3_hangLeft yX3_hangLeft, Cond.code yX3_hangLeft cX3_hangLeft 3 none, Cond.static yX5_put, Cond.code yX5_put cX5_put 3 none, Cond.methodLink RX3 97 yX3_hangRight, Cond.instanceMethod yX3_hangRight, Cond.selects RX3 yX3_hangRight yX3_hangRight, Cond.code yX3_hangRight cX3_hangRight 3 none, Cond.methodLink RX3 80 yX3_hang, Cond.instanceMethod yX3_hang, Cond.selects RX3 yX3_hang yX3_hang, Cond.code yX3_hang cX3_hang 3 none, Cond.methodLink RX3 91 yX3_resize, Cond.instanceMethod yX3_resize, Cond.selects RX3 yX3_resize yX3_resize, Cond.code yX3_resize cX3_resize 2 none, Cond.methodLink RX4 101 yX4_raiseToRoot, Cond.instanceMethod yX4_raiseToRoot, Cond.selects RX4 yX4_raiseToRoot yX4_raiseToRoot, Cond.code yX4_raiseToRoot cX4_raiseToRoot 3 none, Cond.methodLink RX4 76 yX4_sink, Cond.instanceMethod yX4_sink, Cond.selects RX4 yX4_sink yX4_sink, Cond.code yX4_sink cX4_sink 3 none]
def wsX5_remove_r5 : List Cond := [Cond.methodLink RX4 133 yX3_sizeOf, Cond.methodLink RX4 139 yX4_childToTurn, Cond.instanceMethod yX4_childToTurn, Cond.selects RX4 yX4_childToTurn yX4_childToTurn, Cond.code yX4_childToTurn cX4_childToTurn 4 (some .int), Cond.methodLink RX4 130 yX3_leftOf, Cond.methodLink RX4 136 yX3_rightOf, Cond.static yX5_weight, Cond.code yX5_weight cX5_weight 1 (some .int), Cond.methodLink RX4 82 yX3_takeOff, Cond.instanceMethod yX3_takeOff, Cond.selects RX3 yX3_takeOff yX3_takeOff, Cond.code yX3_takeOff cX3_takeOff 3 none, Cond.methodLink RX3 88 yX3_forget, Cond.instanceMethod yX3_forget, Cond.selects RX3 yX3_forget yX3_forget, Cond.code yX3_forget cX3_forget 2 none, Cond.methodLink RX3 84 yX3_resizeUpFrom, Cond.instanceMethod yX3_resizeUpFrom, Cond.selects RX3 yX3_resizeUpFrom yX3_resizeUpFrom, Cond.code yX3_resizeUpFrom cX3_resizeUpFrom 4 none, Cond.methodLink RX4 46 yX3_keysHeld, Cond.instanceMethod yX3_keysHeld, Cond.selects RX3 yX3_keysHeld yX3_keysHeld]
def wsX5_remove_r6 : List Cond := [Cond.code yX3_keysHeld cX3_keysHeld 1 (some .int), Cond.methodLink RX4 63 yX4_evenOut, Cond.instanceMethod yX4_evenOut, Cond.selects RX4 yX4_evenOut yX4_evenOut, Cond.code yX4_evenOut cX4_evenOut 3 none, Cond.methodLink RX4 120 yX3_makeEven, Cond.instanceMethod yX3_makeEven, Cond.selects RX3 yX3_makeEven yX3_makeEven, Cond.code yX3_makeEven cX3_makeEven 7 none, Cond.fieldLink RX3 24 "TurningTrees$Shape" "order" "[I", Cond.methodLink RX3 73 yX3_leastUnder, Cond.instanceMethod yX3_leastUnder, Cond.selects RX3 yX3_leastUnder yX3_leastUnder, Cond.code yX3_leastUnder cX3_leastUnder 4 (some .int), Cond.methodLink RX3 70 yX3_greatestUnder, Cond.instanceMethod yX3_greatestUnder, Cond.selects RX3 yX3_greatestUnder yX3_greatestUnder, Cond.code yX3_greatestUnder cX3_greatestUnder 4 (some .int), Cond.methodLink RX3 100 yX3_evenOf, Cond.static yX3_evenOf, Cond.code yX3_evenOf cX3_evenOf 6 (some .int), Cond.methodLink RX4 123 yX4_beginMost, Cond.instanceMethod yX4_beginMost, Cond.selects RX4 yX4_beginMost yX4_beginMost]
def wsX5_remove_r7 : List Cond := [Cond.code yX4_beginMost cX4_beginMost 1 none]
def wsX5_remove : List Cond := .code yX5_remove cX5_remove 4 (some .int) :: ((wsX5_remove_r1 ++ (wsX5_remove_r2 ++ (wsX5_remove_r3 ++ (wsX5_remove_r4 ++ (wsX5_remove_r5 ++ (wsX5_remove_r6 ++ wsX5_remove_r7)))))) ++ wsX50 ++ wsX40 ++ wsX30 ++ at13.filter goodWord)
def wsX5_split_r1 : List Cond := [Cond.fieldLink RX5 80 "TurningTrees$Tree" "kind" "I", Cond.fieldLink RX5 55 "TurningTrees$Tree" "shape" "LTurningTrees$Shape;", Cond.methodLink RX5 47 yX5_treeOf, Cond.instanceMethod yX5_treeOf, Cond.selects RX5 yX5_treeOf yX5_treeOf, Cond.initialized RX5, Cond.code yX5_treeOf cX5_treeOf 2 (some (.object "TurningTrees$Tree")), Cond.fieldLink RX5 11 "TurningTrees" "trees" "[LTurningTrees$Tree;", Cond.methodLink RX5 51 yX5_isKey, Cond.static yX5_isKey, Cond.code yX5_isKey cX5_isKey 1 (some .boolean), Cond.methodLink RX5 43 yX5_newTree, Cond.instanceMethod yX5_newTree, Cond.selects RX5 yX5_newTree yX5_newTree, Cond.code yX5_newTree cX5_newTree 2 (some .int), Cond.fieldLink RX5 15 "TurningTrees" "treesMade" "I", Cond.classLink RX5 9 RX4, Cond.instantiable RX4 5, Cond.initialized RX4, Cond.methodLink RX5 178 yX4_init, Cond.instanceMethod yX4_init, Cond.code yX4_init cX4_init 2 none, Cond.methodLink RX4 3 objectInit, Cond.instanceMethod objectInit]
def wsX5_split_r2 : List Cond := [Cond.code objectInit ⟨#[0xb1]⟩ 1 none, Cond.fieldLink RX4 9 "TurningTrees$Tree" "kind" "I", Cond.classLink RX4 15 RX3, Cond.instantiable RX3 7, Cond.initialized RX3, Cond.fieldLink RX4 18 "TurningTrees$Tree" "shape" "LTurningTrees$Shape;", Cond.classLink RX4 22 RX2, Cond.instantiable RX2 2, Cond.initialized RX2, Cond.fieldLink RX4 25 "TurningTrees$Tree" "row" "LTurningTrees$Row;", Cond.fieldLink RX4 29 "TurningTrees$Tree" "costs" "I", Cond.fieldLink RX4 32 "TurningTrees$Tree" "most" "I", Cond.methodLink RX4 17 yX3_init, Cond.instanceMethod yX3_init, Cond.code yX3_init cX3_init 1 none, Cond.methodLink RX3 3 objectInit, Cond.arrayClass .int, Cond.fieldLink RX3 9 "TurningTrees$Shape" "left" "[I", Cond.fieldLink RX3 15 "TurningTrees$Shape" "right" "[I", Cond.fieldLink RX3 18 "TurningTrees$Shape" "up" "[I", Cond.fieldLink RX3 21 "TurningTrees$Shape" "size" "[I", Cond.fieldLink RX3 24 "TurningTrees$Shape" "order" "[I", Cond.fieldLink RX3 33 "TurningTrees$Shape" "root" "I", Cond.fieldLink RX3 37 "TurningTrees$Shape" "turns" "I"]
def wsX5_split_r3 : List Cond := [Cond.methodLink RX3 27 yJ7_fill_53178, Cond.static yJ7_fill_53178, Cond.initialized RJ7, Cond.code yJ7_fill_53178 cJ7_fill_53178 4 none, Cond.methodLink RX4 24 yX2_init, Cond.instanceMethod yX2_init, Cond.code yX2_init cX2_init 1 none, Cond.methodLink RX2 3 objectInit, Cond.fieldLink RX2 9 "TurningTrees$Row" "keys" "[I", Cond.fieldLink RX2 15 "TurningTrees$Row" "length" "I", Cond.methodLink RX5 83 yX3_cutAt, Cond.instanceMethod yX3_cutAt, Cond.selects RX3 yX3_cutAt yX3_cutAt, Cond.code yX3_cutAt cX3_cutAt 8 none, Cond.methodLink RX3 67 yX3_rightOf, Cond.instanceMethod yX3_rightOf, Cond.selects RX3 yX3_rightOf yX3_rightOf, Cond.code yX3_rightOf cX3_rightOf 2 (some .int), Cond.static yX5_at, Cond.code yX5_at cX5_at 2 (some .int), Cond.methodLink RX3 80 yX3_hang, Cond.instanceMethod yX3_hang, Cond.selects RX3 yX3_hang yX3_hang, Cond.code yX3_hang cX3_hang 3 none]
def wsX5_split_r4 : List Cond := [Cond.static yX5_put, Cond.code yX5_put cX5_put 3 none, Cond.methodLink RX3 64 yX3_leftOf, Cond.instanceMethod yX3_leftOf, Cond.selects RX3 yX3_leftOf yX3_leftOf, Cond.code yX3_leftOf cX3_leftOf 2 (some .int), Cond.methodLink RX3 94 yX3_hangLeft, Cond.instanceMethod yX3_hangLeft, Cond.selects RX3 yX3_hangLeft yX3_hangLeft, Cond.code yX3_hangLeft cX3_hangLeft 3 none, Cond.methodLink RX3 84 yX3_resizeUpFrom, Cond.instanceMethod yX3_resizeUpFrom, Cond.selects RX3 yX3_resizeUpFrom yX3_resizeUpFrom, Cond.code yX3_resizeUpFrom cX3_resizeUpFrom 4 none, Cond.methodLink RX3 91 yX3_resize, Cond.instanceMethod yX3_resize, Cond.selects RX3 yX3_resize yX3_resize, Cond.code yX3_resize cX3_resize 2 none, Cond.methodLink RX3 44 yX3_sizeOf, Cond.instanceMethod yX3_sizeOf, Cond.selects RX3 yX3_sizeOf yX3_sizeOf, Cond.code yX3_sizeOf cX3_sizeOf 2 (some .int), Cond.methodLink RX3 52 yX3_upOf, Cond.instanceMethod yX3_upOf]
def wsX5_split_r5 : List Cond := [Cond.selects RX3 yX3_upOf yX3_upOf, Cond.code yX3_upOf cX3_upOf 2 (some .int), Cond.methodLink RX3 104 yX3_moveKeys, Cond.instanceMethod yX3_moveKeys, Cond.selects RX3 yX3_moveKeys yX3_moveKeys, Cond.code yX3_moveKeys cX3_moveKeys 4 none, Cond.methodLink RX3 48 yX3_holds, Cond.instanceMethod yX3_holds, Cond.selects RX3 yX3_holds yX3_holds, Cond.code yX3_holds cX3_holds 2 (some .boolean), Cond.methodLink RX3 88 yX3_forget, Cond.instanceMethod yX3_forget, Cond.selects RX3 yX3_forget yX3_forget, Cond.code yX3_forget cX3_forget 2 none, Cond.methodLink RX5 87 yX4_beginMost, Cond.instanceMethod yX4_beginMost, Cond.selects RX4 yX4_beginMost yX4_beginMost, Cond.code yX4_beginMost cX4_beginMost 1 none, Cond.methodLink RX4 46 yX3_keysHeld, Cond.instanceMethod yX3_keysHeld, Cond.selects RX3 yX3_keysHeld yX3_keysHeld, Cond.code yX3_keysHeld cX3_keysHeld 1 (some .int)]
def wsX5_split : List Cond := .code yX5_split cX5_split 6 (some .int) :: ((wsX5_split_r1 ++ (wsX5_split_r2 ++ (wsX5_split_r3 ++ (wsX5_split_r4 ++ wsX5_split_r5)))) ++ wsX40 ++ wsX50 ++ wsX30 ++ wsX20)
def wsX5_join_r1 : List Cond := [Cond.fieldLink RX5 80 "TurningTrees$Tree" "kind" "I", Cond.fieldLink RX5 55 "TurningTrees$Tree" "shape" "LTurningTrees$Shape;", Cond.methodLink RX5 47 yX5_treeOf, Cond.instanceMethod yX5_treeOf, Cond.selects RX5 yX5_treeOf yX5_treeOf, Cond.initialized RX5, Cond.code yX5_treeOf cX5_treeOf 2 (some (.object "TurningTrees$Tree")), Cond.fieldLink RX5 11 "TurningTrees" "trees" "[LTurningTrees$Tree;", Cond.methodLink RX5 90 yX3_isBelow, Cond.instanceMethod yX3_isBelow, Cond.selects RX3 yX3_isBelow yX3_isBelow, Cond.initialized RX3, Cond.code yX3_isBelow cX3_isBelow 2 (some .boolean), Cond.fieldLink RX3 33 "TurningTrees$Shape" "root" "I", Cond.methodLink RX3 70 yX3_greatestUnder, Cond.instanceMethod yX3_greatestUnder, Cond.selects RX3 yX3_greatestUnder yX3_greatestUnder, Cond.code yX3_greatestUnder cX3_greatestUnder 4 (some .int), Cond.methodLink RX3 67 yX3_rightOf, Cond.instanceMethod yX3_rightOf, Cond.selects RX3 yX3_rightOf yX3_rightOf, Cond.code yX3_rightOf cX3_rightOf 2 (some .int), Cond.fieldLink RX3 15 "TurningTrees$Shape" "right" "[I", Cond.static yX5_at]
def wsX5_join_r2 : List Cond := [Cond.code yX5_at cX5_at 2 (some .int), Cond.methodLink RX3 73 yX3_leastUnder, Cond.instanceMethod yX3_leastUnder, Cond.selects RX3 yX3_leastUnder yX3_leastUnder, Cond.code yX3_leastUnder cX3_leastUnder 4 (some .int), Cond.methodLink RX3 64 yX3_leftOf, Cond.instanceMethod yX3_leftOf, Cond.selects RX3 yX3_leftOf yX3_leftOf, Cond.code yX3_leftOf cX3_leftOf 2 (some .int), Cond.fieldLink RX3 9 "TurningTrees$Shape" "left" "[I", Cond.methodLink RX5 94 yX4_takeOver, Cond.instanceMethod yX4_takeOver, Cond.selects RX4 yX4_takeOver yX4_takeOver, Cond.initialized RX4, Cond.code yX4_takeOver cX4_takeOver 5 none, Cond.fieldLink RX4 18 "TurningTrees$Tree" "shape" "LTurningTrees$Shape;", Cond.fieldLink RX4 85 "TurningTrees$Shape" "root" "I", Cond.fieldLink RX4 9 "TurningTrees$Tree" "kind" "I", Cond.methodLink RX4 88 yX3_moveKeys, Cond.instanceMethod yX3_moveKeys, Cond.selects RX3 yX3_moveKeys yX3_moveKeys, Cond.code yX3_moveKeys cX3_moveKeys 4 none, Cond.fieldLink RX3 18 "TurningTrees$Shape" "up" "[I", Cond.fieldLink RX3 21 "TurningTrees$Shape" "size" "[I"]
def wsX5_join_r3 : List Cond := [Cond.methodLink RX3 48 yX3_holds, Cond.instanceMethod yX3_holds, Cond.selects RX3 yX3_holds yX3_holds, Cond.code yX3_holds cX3_holds 2 (some .boolean), Cond.methodLink RX3 44 yX3_sizeOf, Cond.instanceMethod yX3_sizeOf, Cond.selects RX3 yX3_sizeOf yX3_sizeOf, Cond.code yX3_sizeOf cX3_sizeOf 2 (some .int), Cond.static yX5_put, Cond.code yX5_put cX5_put 3 none, Cond.methodLink RX3 52 yX3_upOf, Cond.instanceMethod yX3_upOf, Cond.selects RX3 yX3_upOf yX3_upOf, Cond.code yX3_upOf cX3_upOf 2 (some .int), Cond.methodLink RX3 88 yX3_forget, Cond.instanceMethod yX3_forget, Cond.selects RX3 yX3_forget yX3_forget, Cond.code yX3_forget cX3_forget 2 none, Cond.methodLink RX4 92 yX3_hang, Cond.instanceMethod yX3_hang, Cond.selects RX3 yX3_hang yX3_hang, Cond.code yX3_hang cX3_hang 3 none, Cond.methodLink RX4 95 yX4_mergeByWeight, Cond.instanceMethod yX4_mergeByWeight]
def wsX5_join_r4 : List Cond := [Cond.selects RX4 yX4_mergeByWeight yX4_mergeByWeight, Cond.code yX4_mergeByWeight cX4_mergeByWeight 7 none, Cond.static yX5_weight, Cond.code yX5_weight cX5_weight 1 (some .int), Cond.methodLink RX4 136 yX3_rightOf, Cond.methodLink RX4 130 yX3_leftOf, Cond.methodLink RX4 104 yX3_resizeUpFrom, Cond.instanceMethod yX3_resizeUpFrom, Cond.selects RX3 yX3_resizeUpFrom yX3_resizeUpFrom, Cond.code yX3_resizeUpFrom cX3_resizeUpFrom 4 none, Cond.methodLink RX3 91 yX3_resize, Cond.instanceMethod yX3_resize, Cond.selects RX3 yX3_resize yX3_resize, Cond.code yX3_resize cX3_resize 2 none, Cond.methodLink RX4 98 yX3_greatestUnder, Cond.methodLink RX4 101 yX4_raiseToRoot, Cond.instanceMethod yX4_raiseToRoot, Cond.selects RX4 yX4_raiseToRoot yX4_raiseToRoot, Cond.code yX4_raiseToRoot cX4_raiseToRoot 3 none, Cond.methodLink RX4 79 yX3_upOf, Cond.methodLink RX4 110 yX3_turn, Cond.instanceMethod yX3_turn, Cond.selects RX3 yX3_turn yX3_turn, Cond.code yX3_turn cX3_turn 4 none]
def wsX5_join_r5 : List Cond := [Cond.fieldLink RX3 37 "TurningTrees$Shape" "turns" "I", Cond.methodLink RX3 94 yX3_hangLeft, Cond.instanceMethod yX3_hangLeft, Cond.selects RX3 yX3_hangLeft yX3_hangLeft, Cond.code yX3_hangLeft cX3_hangLeft 3 none, Cond.methodLink RX3 97 yX3_hangRight, Cond.instanceMethod yX3_hangRight, Cond.selects RX3 yX3_hangRight yX3_hangRight, Cond.code yX3_hangRight cX3_hangRight 3 none, Cond.methodLink RX3 80 yX3_hang, Cond.methodLink RX5 87 yX4_beginMost, Cond.instanceMethod yX4_beginMost, Cond.selects RX4 yX4_beginMost yX4_beginMost, Cond.code yX4_beginMost cX4_beginMost 1 none, Cond.fieldLink RX4 32 "TurningTrees$Tree" "most" "I", Cond.methodLink RX4 46 yX3_keysHeld, Cond.instanceMethod yX3_keysHeld, Cond.selects RX3 yX3_keysHeld yX3_keysHeld, Cond.code yX3_keysHeld cX3_keysHeld 1 (some .int)]
def wsX5_join : List Cond := .code yX5_join cX5_join 5 (some .boolean) :: ((wsX5_join_r1 ++ (wsX5_join_r2 ++ (wsX5_join_r3 ++ (wsX5_join_r4 ++ wsX5_join_r5)))) ++ wsX40 ++ wsX50 ++ wsX30)
def wsX5_clear : List Cond := .code yX5_clear cX5_clear 3 (some .int) :: ([.fieldLink RX5 98 "TurningTrees$Tree" "row" "LTurningTrees$Row;", .methodLink RX5 47 yX5_treeOf, .instanceMethod yX5_treeOf, .selects RX5 yX5_treeOf yX5_treeOf, .initialized RX5, .code yX5_treeOf cX5_treeOf 2 (some (.object "TurningTrees$Tree")), .fieldLink RX5 11 "TurningTrees" "trees" "[LTurningTrees$Tree;", .methodLink RX5 102 yX2_wipe, .instanceMethod yX2_wipe, .selects RX2 yX2_wipe yX2_wipe, .initialized RX2, .code yX2_wipe cX2_wipe 2 (some .int), .fieldLink RX2 15 "TurningTrees$Row" "length" "I"] ++ wsX40 ++ wsX50 ++ wsX20)
def wsX5_look_r1 : List Cond := [Cond.classLink RX5 67 "java/util/NoSuchElementException", Cond.initialized "java/util/NoSuchElementException", Cond.fieldLink RX5 55 "TurningTrees$Tree" "shape" "LTurningTrees$Shape;", Cond.methodLink RX5 47 yX5_treeOf, Cond.instanceMethod yX5_treeOf, Cond.selects RX5 yX5_treeOf yX5_treeOf, Cond.initialized RX5, Cond.code yX5_treeOf cX5_treeOf 2 (some (.object "TurningTrees$Tree")), Cond.fieldLink RX5 11 "TurningTrees" "trees" "[LTurningTrees$Tree;", Cond.methodLink RX5 59 yX3_holds, Cond.instanceMethod yX3_holds, Cond.selects RX3 yX3_holds yX3_holds, Cond.initialized RX3, Cond.code yX3_holds cX3_holds 2 (some .boolean), Cond.methodLink RX3 44 yX3_sizeOf, Cond.instanceMethod yX3_sizeOf, Cond.selects RX3 yX3_sizeOf yX3_sizeOf, Cond.code yX3_sizeOf cX3_sizeOf 2 (some .int), Cond.fieldLink RX3 21 "TurningTrees$Shape" "size" "[I", Cond.methodLink RX5 110 yX3_depthOf, Cond.instanceMethod yX3_depthOf, Cond.selects RX3 yX3_depthOf yX3_depthOf, Cond.code yX3_depthOf cX3_depthOf 4 (some .int), Cond.methodLink RX3 48 yX3_holds]
def wsX5_look_r2 : List Cond := [Cond.methodLink RX3 52 yX3_upOf, Cond.instanceMethod yX3_upOf, Cond.selects RX3 yX3_upOf yX3_upOf, Cond.code yX3_upOf cX3_upOf 2 (some .int), Cond.fieldLink RX3 18 "TurningTrees$Shape" "up" "[I", Cond.static yX5_at, Cond.code yX5_at cX5_at 2 (some .int), Cond.methodLink RX5 113 yX3_upOf, Cond.methodLink RX5 116 yX3_leftOf, Cond.instanceMethod yX3_leftOf, Cond.selects RX3 yX3_leftOf yX3_leftOf, Cond.code yX3_leftOf cX3_leftOf 2 (some .int), Cond.fieldLink RX3 9 "TurningTrees$Shape" "left" "[I", Cond.methodLink RX5 119 yX3_rightOf, Cond.instanceMethod yX3_rightOf, Cond.selects RX3 yX3_rightOf yX3_rightOf, Cond.code yX3_rightOf cX3_rightOf 2 (some .int), Cond.fieldLink RX3 15 "TurningTrees$Shape" "right" "[I", Cond.methodLink RX5 122 yX3_sizeOf]
def wsX5_look : List Cond := .code yX5_look cX5_look 5 (some .int) :: ((wsX5_look_r1 ++ wsX5_look_r2) ++ wsX40 ++ wsX50 ++ wsX30 ++ at13.filter goodWord)
def wsX5_count_r1 : List Cond := [Cond.fieldLink RX5 80 "TurningTrees$Tree" "kind" "I", Cond.fieldLink RX5 55 "TurningTrees$Tree" "shape" "LTurningTrees$Shape;", Cond.fieldLink RX5 130 "TurningTrees$Shape" "root" "I", Cond.fieldLink RX5 136 "TurningTrees$Shape" "turns" "I", Cond.fieldLink RX5 139 "TurningTrees$Tree" "costs" "I", Cond.fieldLink RX5 98 "TurningTrees$Tree" "row" "LTurningTrees$Row;", Cond.fieldLink RX5 142 "TurningTrees$Row" "length" "I", Cond.fieldLink RX5 148 "TurningTrees$Tree" "most" "I", Cond.methodLink RX5 47 yX5_treeOf, Cond.instanceMethod yX5_treeOf, Cond.selects RX5 yX5_treeOf yX5_treeOf, Cond.initialized RX5, Cond.code yX5_treeOf cX5_treeOf 2 (some (.object "TurningTrees$Tree")), Cond.fieldLink RX5 11 "TurningTrees" "trees" "[LTurningTrees$Tree;", Cond.methodLink RX5 127 yX3_keysHeld, Cond.instanceMethod yX3_keysHeld, Cond.selects RX3 yX3_keysHeld yX3_keysHeld, Cond.initialized RX3, Cond.code yX3_keysHeld cX3_keysHeld 1 (some .int), Cond.fieldLink RX3 33 "TurningTrees$Shape" "root" "I", Cond.methodLink RX3 44 yX3_sizeOf, Cond.instanceMethod yX3_sizeOf, Cond.selects RX3 yX3_sizeOf yX3_sizeOf, Cond.code yX3_sizeOf cX3_sizeOf 2 (some .int)]
def wsX5_count_r2 : List Cond := [Cond.fieldLink RX3 21 "TurningTrees$Shape" "size" "[I", Cond.methodLink RX5 133 yX3_greatestDepth, Cond.instanceMethod yX3_greatestDepth, Cond.selects RX3 yX3_greatestDepth yX3_greatestDepth, Cond.code yX3_greatestDepth cX3_greatestDepth 3 (some .int), Cond.methodLink RX3 58 Lib.Math.max.name, Cond.static Lib.Math.max.name, Cond.initialized "java/lang/Math", Cond.code Lib.Math.max.name Lib.Math.max.code 2 (some .int), Cond.methodLink RX3 55 yX3_depthOf, Cond.instanceMethod yX3_depthOf, Cond.selects RX3 yX3_depthOf yX3_depthOf, Cond.code yX3_depthOf cX3_depthOf 4 (some .int), Cond.methodLink RX3 48 yX3_holds, Cond.instanceMethod yX3_holds, Cond.selects RX3 yX3_holds yX3_holds, Cond.code yX3_holds cX3_holds 2 (some .boolean), Cond.methodLink RX3 52 yX3_upOf, Cond.instanceMethod yX3_upOf, Cond.selects RX3 yX3_upOf yX3_upOf, Cond.code yX3_upOf cX3_upOf 2 (some .int), Cond.fieldLink RX3 18 "TurningTrees$Shape" "up" "[I", Cond.static yX5_at, Cond.code yX5_at cX5_at 2 (some .int)]
def wsX5_count_r3 : List Cond := [Cond.methodLink RX5 145 yX3_potential, Cond.instanceMethod yX3_potential, Cond.selects RX3 yX3_potential yX3_potential, Cond.code yX3_potential cX3_potential 4 (some .int)]
def wsX5_count : List Cond := .code yX5_count cX5_count 4 (some .int) :: ((wsX5_count_r1 ++ (wsX5_count_r2 ++ wsX5_count_r3)) ++ wsX40 ++ wsX30 ++ wsX20 ++ wsX50)
def wsX5_best_r1 : List Cond := [Cond.fieldLink RX5 39 "TurningTrees" "bestStill" "LTurningTrees$BestStill;", Cond.fieldLink RX5 55 "TurningTrees$Tree" "shape" "LTurningTrees$Shape;", Cond.fieldLink RX5 98 "TurningTrees$Tree" "row" "LTurningTrees$Row;", Cond.fieldLink RX5 155 "TurningTrees$BestStill" "sum" "I", Cond.fieldLink RX5 158 "TurningTrees$BestStill" "root" "I", Cond.methodLink RX5 47 yX5_treeOf, Cond.instanceMethod yX5_treeOf, Cond.selects RX5 yX5_treeOf yX5_treeOf, Cond.initialized RX5, Cond.code yX5_treeOf cX5_treeOf 2 (some (.object "TurningTrees$Tree")), Cond.fieldLink RX5 11 "TurningTrees" "trees" "[LTurningTrees$Tree;", Cond.methodLink RX5 151 yX0_workOut, Cond.instanceMethod yX0_workOut, Cond.selects RX0 yX0_workOut yX0_workOut, Cond.initialized RX0, Cond.code yX0_workOut cX0_workOut 6 none, Cond.fieldLink RX0 21 "TurningTrees$BestStill" "least" "[I", Cond.fieldLink RX0 27 "TurningTrees$BestStill" "sum" "I", Cond.fieldLink RX0 9 "TurningTrees$BestStill" "keys" "[I", Cond.fieldLink RX0 24 "TurningTrees$BestStill" "tops" "[I", Cond.fieldLink RX0 31 "TurningTrees$BestStill" "root" "I", Cond.methodLink RX0 34 yX0_countAsks, Cond.instanceMethod yX0_countAsks, Cond.selects RX0 yX0_countAsks yX0_countAsks]
def wsX5_best_r2 : List Cond := [Cond.code yX0_countAsks cX0_countAsks 4 none, Cond.fieldLink RX0 15 "TurningTrees$BestStill" "asks" "[I", Cond.fieldLink RX0 56 "TurningTrees$Row" "length" "I", Cond.methodLink RX0 50 yJ7_fill_53178, Cond.static yJ7_fill_53178, Cond.initialized RJ7, Cond.code yJ7_fill_53178 cJ7_fill_53178 4 none, Cond.methodLink RX0 61 yX2_keyAt, Cond.instanceMethod yX2_keyAt, Cond.selects RX2 yX2_keyAt yX2_keyAt, Cond.initialized RX2, Cond.code yX2_keyAt cX2_keyAt 2 (some .int), Cond.fieldLink RX2 9 "TurningTrees$Row" "keys" "[I", Cond.static yX5_at, Cond.code yX5_at cX5_at 2 (some .int), Cond.static yX5_put, Cond.code yX5_put cX5_put 3 none, Cond.methodLink RX0 38 yX0_gatherKeys, Cond.instanceMethod yX0_gatherKeys, Cond.selects RX0 yX0_gatherKeys yX0_gatherKeys, Cond.code yX0_gatherKeys cX0_gatherKeys 4 (some .int), Cond.fieldLink RX0 18 "TurningTrees$BestStill" "asksBefore" "[I", Cond.methodLink RX0 69 yX3_holds, Cond.instanceMethod yX3_holds]
def wsX5_best_r3 : List Cond := [Cond.selects RX3 yX3_holds yX3_holds, Cond.initialized RX3, Cond.code yX3_holds cX3_holds 2 (some .boolean), Cond.methodLink RX3 44 yX3_sizeOf, Cond.instanceMethod yX3_sizeOf, Cond.selects RX3 yX3_sizeOf yX3_sizeOf, Cond.code yX3_sizeOf cX3_sizeOf 2 (some .int), Cond.fieldLink RX3 21 "TurningTrees$Shape" "size" "[I", Cond.methodLink RX0 42 yX0_settle, Cond.instanceMethod yX0_settle, Cond.selects RX0 yX0_settle yX0_settle, Cond.code yX0_settle cX0_settle 5 none, Cond.methodLink RX0 75 yX0_lowestTop, Cond.instanceMethod yX0_lowestTop, Cond.selects RX0 yX0_lowestTop yX0_lowestTop, Cond.code yX0_lowestTop cX0_lowestTop 10 (some .int), Cond.methodLink RX0 79 yX0_sumBelow, Cond.instanceMethod yX0_sumBelow, Cond.selects RX0 yX0_sumBelow yX0_sumBelow, Cond.code yX0_sumBelow cX0_sumBelow 4 (some .int)]
def wsX5_best : List Cond := .code yX5_best cX5_best 4 (some .int) :: ((wsX5_best_r1 ++ (wsX5_best_r2 ++ wsX5_best_r3)) ++ wsX50 ++ wsX40 ++ wsX00 ++ wsX20 ++ wsX30)
def wsX5_interleave_r1 : List Cond := [Cond.fieldLink RX5 98 "TurningTrees$Tree" "row" "LTurningTrees$Row;", Cond.fieldLink RX5 26 "TurningTrees" "marks" "[I", Cond.methodLink RX5 47 yX5_treeOf, Cond.instanceMethod yX5_treeOf, Cond.selects RX5 yX5_treeOf yX5_treeOf, Cond.initialized RX5, Cond.code yX5_treeOf cX5_treeOf 2 (some (.object "TurningTrees$Tree")), Cond.fieldLink RX5 11 "TurningTrees" "trees" "[LTurningTrees$Tree;", Cond.methodLink RX5 159 yX2_changesOfHalf, Cond.instanceMethod yX2_changesOfHalf, Cond.selects RX2 yX2_changesOfHalf yX2_changesOfHalf, Cond.initialized RX2, Cond.code yX2_changesOfHalf cX2_changesOfHalf 4 (some .int), Cond.methodLink RX2 27 yJ7_fill_53178, Cond.static yJ7_fill_53178, Cond.initialized RJ7, Cond.code yJ7_fill_53178 cJ7_fill_53178 4 none, Cond.methodLink RX2 33 yX2_changesInSpans, Cond.instanceMethod yX2_changesInSpans, Cond.selects RX2 yX2_changesInSpans yX2_changesInSpans, Cond.code yX2_changesInSpans cX2_changesInSpans 8 (some .int), Cond.fieldLink RX2 15 "TurningTrees$Row" "length" "I", Cond.methodLink RX2 37 yX2_keyAt, Cond.instanceMethod yX2_keyAt]
def wsX5_interleave_r2 : List Cond := [Cond.selects RX2 yX2_keyAt yX2_keyAt, Cond.code yX2_keyAt cX2_keyAt 2 (some .int), Cond.fieldLink RX2 9 "TurningTrees$Row" "keys" "[I", Cond.static yX5_at, Cond.code yX5_at cX5_at 2 (some .int), Cond.static yX5_put, Cond.code yX5_put cX5_put 3 none]
def wsX5_interleave : List Cond := .code yX5_interleave cX5_interleave 3 (some .int) :: ((wsX5_interleave_r1 ++ wsX5_interleave_r2) ++ wsX40 ++ wsX50 ++ wsX20)
def wsX5_sweep_r1 : List Cond := [Cond.fieldLink RX5 98 "TurningTrees$Tree" "row" "LTurningTrees$Row;", Cond.fieldLink RX5 26 "TurningTrees" "marks" "[I", Cond.methodLink RX5 47 yX5_treeOf, Cond.instanceMethod yX5_treeOf, Cond.selects RX5 yX5_treeOf yX5_treeOf, Cond.initialized RX5, Cond.code yX5_treeOf cX5_treeOf 2 (some (.object "TurningTrees$Tree")), Cond.fieldLink RX5 11 "TurningTrees" "trees" "[LTurningTrees$Tree;", Cond.methodLink RX5 163 yX2_touches, Cond.instanceMethod yX2_touches, Cond.selects RX2 yX2_touches yX2_touches, Cond.initialized RX2, Cond.code yX2_touches cX2_touches 5 (some .int), Cond.fieldLink RX2 15 "TurningTrees$Row" "length" "I", Cond.methodLink RX2 27 yJ7_fill_53178, Cond.static yJ7_fill_53178, Cond.initialized RJ7, Cond.code yJ7_fill_53178 cJ7_fill_53178 4 none, Cond.methodLink RX2 37 yX2_keyAt, Cond.instanceMethod yX2_keyAt, Cond.selects RX2 yX2_keyAt yX2_keyAt, Cond.code yX2_keyAt cX2_keyAt 2 (some .int), Cond.fieldLink RX2 9 "TurningTrees$Row" "keys" "[I", Cond.static yX5_at]
def wsX5_sweep_r2 : List Cond := [Cond.code yX5_at cX5_at 2 (some .int), Cond.methodLink RX2 41 yX2_touchesToSide, Cond.static yX2_touchesToSide, Cond.code yX2_touchesToSide cX2_touchesToSide 9 (some .int), Cond.static yX5_put, Cond.code yX5_put cX5_put 3 none]
def wsX5_sweep : List Cond := .code yX5_sweep cX5_sweep 3 (some .int) :: ((wsX5_sweep_r1 ++ wsX5_sweep_r2) ++ wsX40 ++ wsX50 ++ wsX20)
def wsX5_pages_r1 : List Cond := [Cond.fieldLink RX5 55 "TurningTrees$Tree" "shape" "LTurningTrees$Shape;", Cond.fieldLink RX5 32 "TurningTrees" "page" "LTurningTrees$Page;", Cond.methodLink RX5 47 yX5_treeOf, Cond.instanceMethod yX5_treeOf, Cond.selects RX5 yX5_treeOf yX5_treeOf, Cond.initialized RX5, Cond.code yX5_treeOf cX5_treeOf 2 (some (.object "TurningTrees$Tree")), Cond.fieldLink RX5 11 "TurningTrees" "trees" "[LTurningTrees$Tree;", Cond.methodLink RX5 59 yX3_holds, Cond.instanceMethod yX3_holds, Cond.selects RX3 yX3_holds yX3_holds, Cond.initialized RX3, Cond.code yX3_holds cX3_holds 2 (some .boolean), Cond.methodLink RX3 44 yX3_sizeOf, Cond.instanceMethod yX3_sizeOf, Cond.selects RX3 yX3_sizeOf yX3_sizeOf, Cond.code yX3_sizeOf cX3_sizeOf 2 (some .int), Cond.fieldLink RX3 21 "TurningTrees$Shape" "size" "[I", Cond.methodLink RX5 166 yX1_countOnWay, Cond.instanceMethod yX1_countOnWay, Cond.selects RX1 yX1_countOnWay yX1_countOnWay, Cond.initialized RX1, Cond.code yX1_countOnWay cX1_countOnWay 6 (some .int), Cond.fieldLink RX1 19 "TurningTrees$Shape" "root" "I"]
def wsX5_pages_r2 : List Cond := [Cond.methodLink RX1 24 yX1_fill, Cond.instanceMethod yX1_fill, Cond.selects RX1 yX1_fill yX1_fill, Cond.code yX1_fill cX1_fill 5 none, Cond.fieldLink RX1 15 "TurningTrees$Page" "filled" "I", Cond.fieldLink RX1 9 "TurningTrees$Page" "keys" "[I", Cond.methodLink RX1 36 yX1_take, Cond.instanceMethod yX1_take, Cond.selects RX1 yX1_take yX1_take, Cond.code yX1_take cX1_take 3 none, Cond.static yX5_put, Cond.code yX5_put cX5_put 3 none, Cond.static yX5_at, Cond.code yX5_at cX5_at 2 (some .int), Cond.methodLink RX1 44 yX3_leftOf, Cond.instanceMethod yX3_leftOf, Cond.selects RX3 yX3_leftOf yX3_leftOf, Cond.code yX3_leftOf cX3_leftOf 2 (some .int), Cond.fieldLink RX3 9 "TurningTrees$Shape" "left" "[I", Cond.methodLink RX1 48 yX3_rightOf, Cond.instanceMethod yX3_rightOf, Cond.selects RX3 yX3_rightOf yX3_rightOf, Cond.code yX3_rightOf cX3_rightOf 2 (some .int), Cond.fieldLink RX3 15 "TurningTrees$Shape" "right" "[I"]
def wsX5_pages_r3 : List Cond := [Cond.methodLink RX1 28 yX1_has, Cond.instanceMethod yX1_has, Cond.selects RX1 yX1_has yX1_has, Cond.code yX1_has cX1_has 3 (some .boolean), Cond.methodLink RX1 32 yX1_startOfNext, Cond.instanceMethod yX1_startOfNext, Cond.selects RX1 yX1_startOfNext yX1_startOfNext, Cond.code yX1_startOfNext cX1_startOfNext 6 (some .int), Cond.methodLink RX1 55 yX3_upOf, Cond.instanceMethod yX3_upOf, Cond.selects RX3 yX3_upOf yX3_upOf, Cond.code yX3_upOf cX3_upOf 2 (some .int), Cond.fieldLink RX3 18 "TurningTrees$Shape" "up" "[I"]
def wsX5_pages : List Cond := .code yX5_pages cX5_pages 5 (some .int) :: ((wsX5_pages_r1 ++ (wsX5_pages_r2 ++ wsX5_pages_r3)) ++ wsX40 ++ wsX50 ++ wsX30 ++ wsX10)
def wsX5_keep_r1 : List Cond := [Cond.fieldLink RX5 23 "TurningTrees" "keptMade" "I", Cond.fieldLink RX5 19 "TurningTrees" "keptDepths" "[I", Cond.fieldLink RX5 55 "TurningTrees$Tree" "shape" "LTurningTrees$Shape;", Cond.methodLink RX5 47 yX5_treeOf, Cond.instanceMethod yX5_treeOf, Cond.selects RX5 yX5_treeOf yX5_treeOf, Cond.initialized RX5, Cond.code yX5_treeOf cX5_treeOf 2 (some (.object "TurningTrees$Tree")), Cond.fieldLink RX5 11 "TurningTrees" "trees" "[LTurningTrees$Tree;", Cond.methodLink RX5 110 yX3_depthOf, Cond.instanceMethod yX3_depthOf, Cond.selects RX3 yX3_depthOf yX3_depthOf, Cond.initialized RX3, Cond.code yX3_depthOf cX3_depthOf 4 (some .int), Cond.methodLink RX3 48 yX3_holds, Cond.instanceMethod yX3_holds, Cond.selects RX3 yX3_holds yX3_holds, Cond.code yX3_holds cX3_holds 2 (some .boolean), Cond.methodLink RX3 44 yX3_sizeOf, Cond.instanceMethod yX3_sizeOf, Cond.selects RX3 yX3_sizeOf yX3_sizeOf, Cond.code yX3_sizeOf cX3_sizeOf 2 (some .int), Cond.fieldLink RX3 21 "TurningTrees$Shape" "size" "[I", Cond.methodLink RX3 52 yX3_upOf]
def wsX5_keep_r2 : List Cond := [Cond.instanceMethod yX3_upOf, Cond.selects RX3 yX3_upOf yX3_upOf, Cond.code yX3_upOf cX3_upOf 2 (some .int), Cond.fieldLink RX3 18 "TurningTrees$Shape" "up" "[I", Cond.static yX5_at, Cond.code yX5_at cX5_at 2 (some .int), Cond.methodLink RX5 170 yX5_put, Cond.static yX5_put, Cond.code yX5_put cX5_put 3 none]
def wsX5_keep : List Cond := .code yX5_keep cX5_keep 4 (some .int) :: ((wsX5_keep_r1 ++ wsX5_keep_r2) ++ wsX50 ++ wsX40 ++ wsX30)
def wsX5_kept : List Cond := .code yX5_kept cX5_kept 3 (some .int) :: ([.fieldLink RX5 23 "TurningTrees" "keptMade" "I", .fieldLink RX5 19 "TurningTrees" "keptDepths" "[I", .methodLink RX5 51 yX5_isKey, .static yX5_isKey, .initialized RX5, .code yX5_isKey cX5_isKey 1 (some .boolean), .methodLink RX5 174 yX5_at, .static yX5_at, .code yX5_at cX5_at 2 (some .int)] ++ wsX50)
def wsX6_init_r1 : List Cond := [Cond.methodLink RX6 1 objectInit, Cond.instanceMethod objectInit, Cond.code objectInit ⟨#[0xb1]⟩ 1 none, Cond.arrayClass .int, Cond.fieldLink RX6 7 "TurningTreesModel" "kind" "[I", Cond.fieldLink RX6 13 "TurningTreesModel" "root" "[I", Cond.fieldLink RX6 16 "TurningTreesModel" "above" "[I", Cond.fieldLink RX6 19 "TurningTreesModel" "left" "[I", Cond.fieldLink RX6 22 "TurningTreesModel" "right" "[I", Cond.arrayClass .boolean, Cond.fieldLink RX6 25 "TurningTreesModel" "isIn" "[Z", Cond.fieldLink RX6 29 "TurningTreesModel" "many" "[I", Cond.fieldLink RX6 32 "TurningTreesModel" "turns" "[I", Cond.fieldLink RX6 35 "TurningTreesModel" "costs" "[I", Cond.fieldLink RX6 38 "TurningTreesModel" "most" "[I", Cond.fieldLink RX6 41 "TurningTreesModel" "asks" "[I", Cond.fieldLink RX6 44 "TurningTreesModel" "row" "[I", Cond.fieldLink RX6 47 "TurningTreesModel" "sorted" "[I", Cond.fieldLink RX6 50 "TurningTreesModel" "draft" "[I", Cond.fieldLink RX6 53 "TurningTreesModel" "often" "[I", Cond.fieldLink RX6 56 "TurningTreesModel" "least" "[I", Cond.fieldLink RX6 59 "TurningTreesModel" "best" "[I", Cond.fieldLink RX6 62 "TurningTreesModel" "touchedAt" "[I", Cond.fieldLink RX6 65 "TurningTreesModel" "isTouched" "[Z"]
def wsX6_init_r2 : List Cond := [Cond.fieldLink RX6 68 "TurningTreesModel" "pageOf" "[I", Cond.fieldLink RX6 71 "TurningTreesModel" "line" "[I", Cond.fieldLink RX6 74 "TurningTreesModel" "keptDepth" "[I"]
def wsX6_init : List Cond := .code yX6_init cX6_init 1 none :: ((wsX6_init_r1 ++ wsX6_init_r2) ++ wsX60)
def wsX6_thrown : List Cond := .code yX6_thrown cX6_thrown 1 (some .int) :: ([.fieldLink RX6 77 "TurningTreesModel" "thrown" "I"] ++ wsX60)
def wsX6_isTree : List Cond := .code yX6_isTree cX6_isTree 2 (some .boolean) :: ([.fieldLink RX6 81 "TurningTreesModel" "trees" "I"] ++ wsX60)
def wsX6_isKey : List Cond := .code yX6_isKey cX6_isKey 1 (some .boolean) :: ([])
def wsX6_newTree : List Cond := .code yX6_newTree cX6_newTree 2 (some .int) :: ([.fieldLink RX6 7 "TurningTreesModel" "kind" "[I", .fieldLink RX6 81 "TurningTreesModel" "trees" "I", .fieldLink RX6 13 "TurningTreesModel" "root" "[I"] ++ wsX60)
def wsX6_tree : List Cond := .code yX6_tree cX6_tree 2 (some .int) :: ([.fieldLink RX6 77 "TurningTreesModel" "thrown" "I", .fieldLink RX6 81 "TurningTreesModel" "trees" "I", .methodLink RX6 84 yX6_newTree, .instanceMethod yX6_newTree, .selects RX6 yX6_newTree yX6_newTree, .initialized RX6, .code yX6_newTree cX6_newTree 2 (some .int), .fieldLink RX6 7 "TurningTreesModel" "kind" "[I", .fieldLink RX6 13 "TurningTreesModel" "root" "[I"] ++ wsX60)
def wsX6_weight : List Cond := .code yX6_weight cX6_weight 1 (some .int) :: ([])
def wsX6_sizeOf : List Cond := .code yX6_sizeOf cX6_sizeOf 3 (some .int) :: ([.fieldLink RX6 19 "TurningTreesModel" "left" "[I", .fieldLink RX6 22 "TurningTreesModel" "right" "[I", .methodLink RX6 88 yX6_sizeOf, .instanceMethod yX6_sizeOf, .selects RX6 yX6_sizeOf yX6_sizeOf, .initialized RX6] ++ wsX60)
def wsX6_depthOf : List Cond := .code yX6_depthOf cX6_depthOf 5 (some .int) :: ([.fieldLink RX6 16 "TurningTreesModel" "above" "[I"] ++ wsX60)
def wsX6_takesPlace : List Cond := .code yX6_takesPlace cX6_takesPlace 5 none :: ([.fieldLink RX6 16 "TurningTreesModel" "above" "[I", .fieldLink RX6 13 "TurningTreesModel" "root" "[I", .fieldLink RX6 19 "TurningTreesModel" "left" "[I", .fieldLink RX6 22 "TurningTreesModel" "right" "[I"] ++ wsX60)
def wsX6_hangsLeft : List Cond := .code yX6_hangsLeft cX6_hangsLeft 4 none :: ([.fieldLink RX6 19 "TurningTreesModel" "left" "[I", .fieldLink RX6 16 "TurningTreesModel" "above" "[I"] ++ wsX60)
def wsX6_hangsRight : List Cond := .code yX6_hangsRight cX6_hangsRight 4 none :: ([.fieldLink RX6 22 "TurningTreesModel" "right" "[I", .fieldLink RX6 16 "TurningTreesModel" "above" "[I"] ++ wsX60)
def wsX6_turn : List Cond := .code yX6_turn cX6_turn 4 none :: ([.fieldLink RX6 16 "TurningTreesModel" "above" "[I", .fieldLink RX6 22 "TurningTreesModel" "right" "[I", .fieldLink RX6 19 "TurningTreesModel" "left" "[I", .fieldLink RX6 32 "TurningTreesModel" "turns" "[I", .methodLink RX6 92 yX6_takesPlace, .instanceMethod yX6_takesPlace, .selects RX6 yX6_takesPlace yX6_takesPlace, .initialized RX6, .code yX6_takesPlace cX6_takesPlace 5 none, .fieldLink RX6 13 "TurningTreesModel" "root" "[I", .methodLink RX6 96 yX6_hangsLeft, .instanceMethod yX6_hangsLeft, .selects RX6 yX6_hangsLeft yX6_hangsLeft, .code yX6_hangsLeft cX6_hangsLeft 4 none, .methodLink RX6 99 yX6_hangsRight, .instanceMethod yX6_hangsRight, .selects RX6 yX6_hangsRight yX6_hangsRight, .code yX6_hangsRight cX6_hangsRight 4 none] ++ wsX60)
def wsX6_splays : List Cond := .code yX6_splays cX6_splays 5 none :: ([.fieldLink RX6 16 "TurningTreesModel" "above" "[I", .methodLink RX6 106 yX6_turn, .instanceMethod yX6_turn, .selects RX6 yX6_turn yX6_turn, .initialized RX6, .code yX6_turn cX6_turn 4 none, .fieldLink RX6 22 "TurningTreesModel" "right" "[I", .fieldLink RX6 19 "TurningTreesModel" "left" "[I", .fieldLink RX6 32 "TurningTreesModel" "turns" "[I", .methodLink RX6 92 yX6_takesPlace, .instanceMethod yX6_takesPlace, .selects RX6 yX6_takesPlace yX6_takesPlace, .code yX6_takesPlace cX6_takesPlace 5 none, .fieldLink RX6 13 "TurningTreesModel" "root" "[I", .methodLink RX6 96 yX6_hangsLeft, .instanceMethod yX6_hangsLeft, .selects RX6 yX6_hangsLeft yX6_hangsLeft, .code yX6_hangsLeft cX6_hangsLeft 4 none, .methodLink RX6 99 yX6_hangsRight, .instanceMethod yX6_hangsRight, .selects RX6 yX6_hangsRight yX6_hangsRight, .code yX6_hangsRight cX6_hangsRight 4 none] ++ wsX60)
def wsX6_rises : List Cond := .code yX6_rises cX6_rises 3 none :: ([.fieldLink RX6 16 "TurningTreesModel" "above" "[I", .methodLink RX6 106 yX6_turn, .instanceMethod yX6_turn, .selects RX6 yX6_turn yX6_turn, .initialized RX6, .code yX6_turn cX6_turn 4 none, .fieldLink RX6 22 "TurningTreesModel" "right" "[I", .fieldLink RX6 19 "TurningTreesModel" "left" "[I", .fieldLink RX6 32 "TurningTreesModel" "turns" "[I", .methodLink RX6 92 yX6_takesPlace, .instanceMethod yX6_takesPlace, .selects RX6 yX6_takesPlace yX6_takesPlace, .code yX6_takesPlace cX6_takesPlace 5 none, .fieldLink RX6 13 "TurningTreesModel" "root" "[I", .methodLink RX6 96 yX6_hangsLeft, .instanceMethod yX6_hangsLeft, .selects RX6 yX6_hangsLeft yX6_hangsLeft, .code yX6_hangsLeft cX6_hangsLeft 4 none, .methodLink RX6 99 yX6_hangsRight, .instanceMethod yX6_hangsRight, .selects RX6 yX6_hangsRight yX6_hangsRight, .code yX6_hangsRight cX6_hangsRight 4 none] ++ wsX60)
def wsX6_acts_r1 : List Cond := [Cond.fieldLink RX6 7 "TurningTreesModel" "kind" "[I", Cond.fieldLink RX6 16 "TurningTreesModel" "above" "[I", Cond.methodLink RX6 102 yX6_splays, Cond.instanceMethod yX6_splays, Cond.selects RX6 yX6_splays yX6_splays, Cond.initialized RX6, Cond.code yX6_splays cX6_splays 5 none, Cond.methodLink RX6 106 yX6_turn, Cond.instanceMethod yX6_turn, Cond.selects RX6 yX6_turn yX6_turn, Cond.code yX6_turn cX6_turn 4 none, Cond.fieldLink RX6 22 "TurningTreesModel" "right" "[I", Cond.fieldLink RX6 19 "TurningTreesModel" "left" "[I", Cond.fieldLink RX6 32 "TurningTreesModel" "turns" "[I", Cond.methodLink RX6 92 yX6_takesPlace, Cond.instanceMethod yX6_takesPlace, Cond.selects RX6 yX6_takesPlace yX6_takesPlace, Cond.code yX6_takesPlace cX6_takesPlace 5 none, Cond.fieldLink RX6 13 "TurningTreesModel" "root" "[I", Cond.methodLink RX6 96 yX6_hangsLeft, Cond.instanceMethod yX6_hangsLeft, Cond.selects RX6 yX6_hangsLeft yX6_hangsLeft, Cond.code yX6_hangsLeft cX6_hangsLeft 4 none, Cond.methodLink RX6 99 yX6_hangsRight]
def wsX6_acts_r2 : List Cond := [Cond.instanceMethod yX6_hangsRight, Cond.selects RX6 yX6_hangsRight yX6_hangsRight, Cond.code yX6_hangsRight cX6_hangsRight 4 none, Cond.methodLink RX6 109 yX6_rises, Cond.instanceMethod yX6_rises, Cond.selects RX6 yX6_rises yX6_rises, Cond.code yX6_rises cX6_rises 3 none]
def wsX6_acts : List Cond := .code yX6_acts cX6_acts 3 none :: ((wsX6_acts_r1 ++ wsX6_acts_r2) ++ wsX60)
def wsX6_isDeep : List Cond := .code yX6_isDeep cX6_isDeep 8 (some .boolean) :: ([.constantLong RX6 121 (3), .constantLong RX6 123 (2)])
def wsX6_leans : List Cond := .code yX6_leans cX6_leans 4 (some .boolean) :: ([.fieldLink RX6 19 "TurningTreesModel" "left" "[I", .fieldLink RX6 22 "TurningTreesModel" "right" "[I", .methodLink RX6 88 yX6_sizeOf, .instanceMethod yX6_sizeOf, .selects RX6 yX6_sizeOf yX6_sizeOf, .initialized RX6, .code yX6_sizeOf cX6_sizeOf 3 (some .int)] ++ wsX60)
def wsX6_sorts : List Cond := .code yX6_sorts cX6_sorts 3 none :: ([.fieldLink RX6 19 "TurningTreesModel" "left" "[I", .fieldLink RX6 47 "TurningTreesModel" "sorted" "[I", .fieldLink RX6 141 "TurningTreesModel" "sortedMany" "I", .fieldLink RX6 22 "TurningTreesModel" "right" "[I", .methodLink RX6 138 yX6_sorts, .instanceMethod yX6_sorts, .selects RX6 yX6_sorts yX6_sorts, .initialized RX6] ++ wsX60)
def wsX6_even : List Cond := .code yX6_even cX6_even 5 (some .int) :: ([.fieldLink RX6 47 "TurningTreesModel" "sorted" "[I", .methodLink RX6 144 yX6_even, .instanceMethod yX6_even, .selects RX6 yX6_even yX6_even, .initialized RX6, .methodLink RX6 96 yX6_hangsLeft, .instanceMethod yX6_hangsLeft, .selects RX6 yX6_hangsLeft yX6_hangsLeft, .code yX6_hangsLeft cX6_hangsLeft 4 none, .fieldLink RX6 19 "TurningTreesModel" "left" "[I", .fieldLink RX6 16 "TurningTreesModel" "above" "[I", .methodLink RX6 99 yX6_hangsRight, .instanceMethod yX6_hangsRight, .selects RX6 yX6_hangsRight yX6_hangsRight, .code yX6_hangsRight cX6_hangsRight 4 none, .fieldLink RX6 22 "TurningTreesModel" "right" "[I"] ++ wsX60)
def wsX6_makesEven_r1 : List Cond := [Cond.fieldLink RX6 16 "TurningTreesModel" "above" "[I", Cond.fieldLink RX6 19 "TurningTreesModel" "left" "[I", Cond.fieldLink RX6 141 "TurningTreesModel" "sortedMany" "I", Cond.fieldLink RX6 13 "TurningTreesModel" "root" "[I", Cond.fieldLink RX6 38 "TurningTreesModel" "most" "[I", Cond.fieldLink RX6 29 "TurningTreesModel" "many" "[I", Cond.fieldLink RX6 22 "TurningTreesModel" "right" "[I", Cond.methodLink RX6 138 yX6_sorts, Cond.instanceMethod yX6_sorts, Cond.selects RX6 yX6_sorts yX6_sorts, Cond.initialized RX6, Cond.code yX6_sorts cX6_sorts 3 none, Cond.fieldLink RX6 47 "TurningTreesModel" "sorted" "[I", Cond.methodLink RX6 144 yX6_even, Cond.instanceMethod yX6_even, Cond.selects RX6 yX6_even yX6_even, Cond.code yX6_even cX6_even 5 (some .int), Cond.methodLink RX6 96 yX6_hangsLeft, Cond.instanceMethod yX6_hangsLeft, Cond.selects RX6 yX6_hangsLeft yX6_hangsLeft, Cond.code yX6_hangsLeft cX6_hangsLeft 4 none, Cond.methodLink RX6 99 yX6_hangsRight, Cond.instanceMethod yX6_hangsRight, Cond.selects RX6 yX6_hangsRight yX6_hangsRight]
def wsX6_makesEven_r2 : List Cond := [Cond.code yX6_hangsRight cX6_hangsRight 4 none]
def wsX6_makesEven : List Cond := .code yX6_makesEven cX6_makesEven 6 none :: ((wsX6_makesEven_r1 ++ wsX6_makesEven_r2) ++ wsX60)
def wsX6_balances_r1 : List Cond := [Cond.fieldLink RX6 38 "TurningTreesModel" "most" "[I", Cond.fieldLink RX6 29 "TurningTreesModel" "many" "[I", Cond.fieldLink RX6 16 "TurningTreesModel" "above" "[I", Cond.methodLink RX6 125 yX6_depthOf, Cond.instanceMethod yX6_depthOf, Cond.selects RX6 yX6_depthOf yX6_depthOf, Cond.initialized RX6, Cond.code yX6_depthOf cX6_depthOf 5 (some .int), Cond.methodLink RX6 128 yX6_isDeep, Cond.static yX6_isDeep, Cond.code yX6_isDeep cX6_isDeep 8 (some .boolean), Cond.constantLong RX6 121 (3), Cond.constantLong RX6 123 (2), Cond.methodLink RX6 132 yX6_leans, Cond.instanceMethod yX6_leans, Cond.selects RX6 yX6_leans yX6_leans, Cond.code yX6_leans cX6_leans 4 (some .boolean), Cond.fieldLink RX6 19 "TurningTreesModel" "left" "[I", Cond.fieldLink RX6 22 "TurningTreesModel" "right" "[I", Cond.methodLink RX6 88 yX6_sizeOf, Cond.instanceMethod yX6_sizeOf, Cond.selects RX6 yX6_sizeOf yX6_sizeOf, Cond.code yX6_sizeOf cX6_sizeOf 3 (some .int), Cond.methodLink RX6 135 yX6_makesEven]
def wsX6_balances_r2 : List Cond := [Cond.instanceMethod yX6_makesEven, Cond.selects RX6 yX6_makesEven yX6_makesEven, Cond.code yX6_makesEven cX6_makesEven 6 none, Cond.fieldLink RX6 141 "TurningTreesModel" "sortedMany" "I", Cond.fieldLink RX6 13 "TurningTreesModel" "root" "[I", Cond.methodLink RX6 138 yX6_sorts, Cond.instanceMethod yX6_sorts, Cond.selects RX6 yX6_sorts yX6_sorts, Cond.code yX6_sorts cX6_sorts 3 none, Cond.fieldLink RX6 47 "TurningTreesModel" "sorted" "[I", Cond.methodLink RX6 144 yX6_even, Cond.instanceMethod yX6_even, Cond.selects RX6 yX6_even yX6_even, Cond.code yX6_even cX6_even 5 (some .int), Cond.methodLink RX6 96 yX6_hangsLeft, Cond.instanceMethod yX6_hangsLeft, Cond.selects RX6 yX6_hangsLeft yX6_hangsLeft, Cond.code yX6_hangsLeft cX6_hangsLeft 4 none, Cond.methodLink RX6 99 yX6_hangsRight, Cond.instanceMethod yX6_hangsRight, Cond.selects RX6 yX6_hangsRight yX6_hangsRight, Cond.code yX6_hangsRight cX6_hangsRight 4 none]
def wsX6_balances : List Cond := .code yX6_balances cX6_balances 4 none :: ((wsX6_balances_r1 ++ wsX6_balances_r2) ++ wsX60)
def wsX6_actsAdded_r1 : List Cond := [Cond.fieldLink RX6 7 "TurningTreesModel" "kind" "[I", Cond.fieldLink RX6 16 "TurningTreesModel" "above" "[I", Cond.methodLink RX6 112 yX6_acts, Cond.instanceMethod yX6_acts, Cond.selects RX6 yX6_acts yX6_acts, Cond.initialized RX6, Cond.code yX6_acts cX6_acts 3 none, Cond.methodLink RX6 102 yX6_splays, Cond.instanceMethod yX6_splays, Cond.selects RX6 yX6_splays yX6_splays, Cond.code yX6_splays cX6_splays 5 none, Cond.methodLink RX6 106 yX6_turn, Cond.instanceMethod yX6_turn, Cond.selects RX6 yX6_turn yX6_turn, Cond.code yX6_turn cX6_turn 4 none, Cond.fieldLink RX6 22 "TurningTreesModel" "right" "[I", Cond.fieldLink RX6 19 "TurningTreesModel" "left" "[I", Cond.fieldLink RX6 32 "TurningTreesModel" "turns" "[I", Cond.methodLink RX6 92 yX6_takesPlace, Cond.instanceMethod yX6_takesPlace, Cond.selects RX6 yX6_takesPlace yX6_takesPlace, Cond.code yX6_takesPlace cX6_takesPlace 5 none, Cond.fieldLink RX6 13 "TurningTreesModel" "root" "[I", Cond.methodLink RX6 96 yX6_hangsLeft]
def wsX6_actsAdded_r2 : List Cond := [Cond.instanceMethod yX6_hangsLeft, Cond.selects RX6 yX6_hangsLeft yX6_hangsLeft, Cond.code yX6_hangsLeft cX6_hangsLeft 4 none, Cond.methodLink RX6 99 yX6_hangsRight, Cond.instanceMethod yX6_hangsRight, Cond.selects RX6 yX6_hangsRight yX6_hangsRight, Cond.code yX6_hangsRight cX6_hangsRight 4 none, Cond.methodLink RX6 109 yX6_rises, Cond.instanceMethod yX6_rises, Cond.selects RX6 yX6_rises yX6_rises, Cond.code yX6_rises cX6_rises 3 none, Cond.methodLink RX6 115 yX6_balances, Cond.instanceMethod yX6_balances, Cond.selects RX6 yX6_balances yX6_balances, Cond.code yX6_balances cX6_balances 4 none, Cond.fieldLink RX6 38 "TurningTreesModel" "most" "[I", Cond.fieldLink RX6 29 "TurningTreesModel" "many" "[I", Cond.methodLink RX6 125 yX6_depthOf, Cond.instanceMethod yX6_depthOf, Cond.selects RX6 yX6_depthOf yX6_depthOf, Cond.code yX6_depthOf cX6_depthOf 5 (some .int), Cond.methodLink RX6 128 yX6_isDeep, Cond.static yX6_isDeep, Cond.code yX6_isDeep cX6_isDeep 8 (some .boolean)]
def wsX6_actsAdded_r3 : List Cond := [Cond.constantLong RX6 121 (3), Cond.constantLong RX6 123 (2), Cond.methodLink RX6 132 yX6_leans, Cond.instanceMethod yX6_leans, Cond.selects RX6 yX6_leans yX6_leans, Cond.code yX6_leans cX6_leans 4 (some .boolean), Cond.methodLink RX6 88 yX6_sizeOf, Cond.instanceMethod yX6_sizeOf, Cond.selects RX6 yX6_sizeOf yX6_sizeOf, Cond.code yX6_sizeOf cX6_sizeOf 3 (some .int), Cond.methodLink RX6 135 yX6_makesEven, Cond.instanceMethod yX6_makesEven, Cond.selects RX6 yX6_makesEven yX6_makesEven, Cond.code yX6_makesEven cX6_makesEven 6 none, Cond.fieldLink RX6 141 "TurningTreesModel" "sortedMany" "I", Cond.methodLink RX6 138 yX6_sorts, Cond.instanceMethod yX6_sorts, Cond.selects RX6 yX6_sorts yX6_sorts, Cond.code yX6_sorts cX6_sorts 3 none, Cond.fieldLink RX6 47 "TurningTreesModel" "sorted" "[I", Cond.methodLink RX6 144 yX6_even, Cond.instanceMethod yX6_even, Cond.selects RX6 yX6_even yX6_even, Cond.code yX6_even cX6_even 5 (some .int)]
def wsX6_actsAdded_r4 : List Cond := [Cond.methodLink RX6 118 yX6_weight, Cond.static yX6_weight, Cond.code yX6_weight cX6_weight 1 (some .int)]
def wsX6_actsAdded : List Cond := .code yX6_actsAdded cX6_actsAdded 3 none :: ((wsX6_actsAdded_r1 ++ (wsX6_actsAdded_r2 ++ (wsX6_actsAdded_r3 ++ wsX6_actsAdded_r4))) ++ wsX60)
def wsX6_goes : List Cond := .code yX6_goes cX6_goes 4 (some .boolean) :: ([.fieldLink RX6 148 "TurningTreesModel" "cost" "I", .fieldLink RX6 151 "TurningTreesModel" "last" "I", .fieldLink RX6 13 "TurningTreesModel" "root" "[I", .fieldLink RX6 19 "TurningTreesModel" "left" "[I", .fieldLink RX6 22 "TurningTreesModel" "right" "[I"] ++ wsX60)
def wsX6_add_r1 : List Cond := [Cond.fieldLink RX6 77 "TurningTreesModel" "thrown" "I", Cond.fieldLink RX6 25 "TurningTreesModel" "isIn" "[Z", Cond.fieldLink RX6 148 "TurningTreesModel" "cost" "I", Cond.fieldLink RX6 19 "TurningTreesModel" "left" "[I", Cond.fieldLink RX6 22 "TurningTreesModel" "right" "[I", Cond.fieldLink RX6 16 "TurningTreesModel" "above" "[I", Cond.fieldLink RX6 29 "TurningTreesModel" "many" "[I", Cond.fieldLink RX6 151 "TurningTreesModel" "last" "I", Cond.fieldLink RX6 13 "TurningTreesModel" "root" "[I", Cond.methodLink RX6 154 yX6_isTree, Cond.instanceMethod yX6_isTree, Cond.selects RX6 yX6_isTree yX6_isTree, Cond.initialized RX6, Cond.code yX6_isTree cX6_isTree 2 (some .boolean), Cond.fieldLink RX6 81 "TurningTreesModel" "trees" "I", Cond.methodLink RX6 158 yX6_isKey, Cond.static yX6_isKey, Cond.code yX6_isKey cX6_isKey 1 (some .boolean), Cond.methodLink RX6 161 yX6_goes, Cond.instanceMethod yX6_goes, Cond.selects RX6 yX6_goes yX6_goes, Cond.code yX6_goes cX6_goes 4 (some .boolean), Cond.methodLink RX6 96 yX6_hangsLeft, Cond.instanceMethod yX6_hangsLeft]
def wsX6_add_r2 : List Cond := [Cond.selects RX6 yX6_hangsLeft yX6_hangsLeft, Cond.code yX6_hangsLeft cX6_hangsLeft 4 none, Cond.methodLink RX6 99 yX6_hangsRight, Cond.instanceMethod yX6_hangsRight, Cond.selects RX6 yX6_hangsRight yX6_hangsRight, Cond.code yX6_hangsRight cX6_hangsRight 4 none, Cond.methodLink RX6 164 yX6_actsAdded, Cond.instanceMethod yX6_actsAdded, Cond.selects RX6 yX6_actsAdded yX6_actsAdded, Cond.code yX6_actsAdded cX6_actsAdded 3 none, Cond.fieldLink RX6 7 "TurningTreesModel" "kind" "[I", Cond.methodLink RX6 112 yX6_acts, Cond.instanceMethod yX6_acts, Cond.selects RX6 yX6_acts yX6_acts, Cond.code yX6_acts cX6_acts 3 none, Cond.methodLink RX6 102 yX6_splays, Cond.instanceMethod yX6_splays, Cond.selects RX6 yX6_splays yX6_splays, Cond.code yX6_splays cX6_splays 5 none, Cond.methodLink RX6 106 yX6_turn, Cond.instanceMethod yX6_turn, Cond.selects RX6 yX6_turn yX6_turn, Cond.code yX6_turn cX6_turn 4 none, Cond.fieldLink RX6 32 "TurningTreesModel" "turns" "[I"]
def wsX6_add_r3 : List Cond := [Cond.methodLink RX6 92 yX6_takesPlace, Cond.instanceMethod yX6_takesPlace, Cond.selects RX6 yX6_takesPlace yX6_takesPlace, Cond.code yX6_takesPlace cX6_takesPlace 5 none, Cond.methodLink RX6 109 yX6_rises, Cond.instanceMethod yX6_rises, Cond.selects RX6 yX6_rises yX6_rises, Cond.code yX6_rises cX6_rises 3 none, Cond.methodLink RX6 115 yX6_balances, Cond.instanceMethod yX6_balances, Cond.selects RX6 yX6_balances yX6_balances, Cond.code yX6_balances cX6_balances 4 none, Cond.fieldLink RX6 38 "TurningTreesModel" "most" "[I", Cond.methodLink RX6 125 yX6_depthOf, Cond.instanceMethod yX6_depthOf, Cond.selects RX6 yX6_depthOf yX6_depthOf, Cond.code yX6_depthOf cX6_depthOf 5 (some .int), Cond.methodLink RX6 128 yX6_isDeep, Cond.static yX6_isDeep, Cond.code yX6_isDeep cX6_isDeep 8 (some .boolean), Cond.constantLong RX6 121 (3), Cond.constantLong RX6 123 (2), Cond.methodLink RX6 132 yX6_leans, Cond.instanceMethod yX6_leans]
def wsX6_add_r4 : List Cond := [Cond.selects RX6 yX6_leans yX6_leans, Cond.code yX6_leans cX6_leans 4 (some .boolean), Cond.methodLink RX6 88 yX6_sizeOf, Cond.instanceMethod yX6_sizeOf, Cond.selects RX6 yX6_sizeOf yX6_sizeOf, Cond.code yX6_sizeOf cX6_sizeOf 3 (some .int), Cond.methodLink RX6 135 yX6_makesEven, Cond.instanceMethod yX6_makesEven, Cond.selects RX6 yX6_makesEven yX6_makesEven, Cond.code yX6_makesEven cX6_makesEven 6 none, Cond.fieldLink RX6 141 "TurningTreesModel" "sortedMany" "I", Cond.methodLink RX6 138 yX6_sorts, Cond.instanceMethod yX6_sorts, Cond.selects RX6 yX6_sorts yX6_sorts, Cond.code yX6_sorts cX6_sorts 3 none, Cond.fieldLink RX6 47 "TurningTreesModel" "sorted" "[I", Cond.methodLink RX6 144 yX6_even, Cond.instanceMethod yX6_even, Cond.selects RX6 yX6_even yX6_even, Cond.code yX6_even cX6_even 5 (some .int), Cond.methodLink RX6 118 yX6_weight, Cond.static yX6_weight, Cond.code yX6_weight cX6_weight 1 (some .int)]
def wsX6_add : List Cond := .code yX6_add cX6_add 6 (some .int) :: ((wsX6_add_r1 ++ (wsX6_add_r2 ++ (wsX6_add_r3 ++ wsX6_add_r4))) ++ wsX60)
def wsX6_ask_r1 : List Cond := [Cond.fieldLink RX6 77 "TurningTreesModel" "thrown" "I", Cond.fieldLink RX6 35 "TurningTreesModel" "costs" "[I", Cond.fieldLink RX6 148 "TurningTreesModel" "cost" "I", Cond.fieldLink RX6 41 "TurningTreesModel" "asks" "[I", Cond.fieldLink RX6 44 "TurningTreesModel" "row" "[I", Cond.fieldLink RX6 151 "TurningTreesModel" "last" "I", Cond.methodLink RX6 154 yX6_isTree, Cond.instanceMethod yX6_isTree, Cond.selects RX6 yX6_isTree yX6_isTree, Cond.initialized RX6, Cond.code yX6_isTree cX6_isTree 2 (some .boolean), Cond.fieldLink RX6 81 "TurningTreesModel" "trees" "I", Cond.methodLink RX6 158 yX6_isKey, Cond.static yX6_isKey, Cond.code yX6_isKey cX6_isKey 1 (some .boolean), Cond.methodLink RX6 161 yX6_goes, Cond.instanceMethod yX6_goes, Cond.selects RX6 yX6_goes yX6_goes, Cond.code yX6_goes cX6_goes 4 (some .boolean), Cond.fieldLink RX6 13 "TurningTreesModel" "root" "[I", Cond.fieldLink RX6 19 "TurningTreesModel" "left" "[I", Cond.fieldLink RX6 22 "TurningTreesModel" "right" "[I", Cond.methodLink RX6 112 yX6_acts, Cond.instanceMethod yX6_acts]
def wsX6_ask_r2 : List Cond := [Cond.selects RX6 yX6_acts yX6_acts, Cond.code yX6_acts cX6_acts 3 none, Cond.fieldLink RX6 7 "TurningTreesModel" "kind" "[I", Cond.fieldLink RX6 16 "TurningTreesModel" "above" "[I", Cond.methodLink RX6 102 yX6_splays, Cond.instanceMethod yX6_splays, Cond.selects RX6 yX6_splays yX6_splays, Cond.code yX6_splays cX6_splays 5 none, Cond.methodLink RX6 106 yX6_turn, Cond.instanceMethod yX6_turn, Cond.selects RX6 yX6_turn yX6_turn, Cond.code yX6_turn cX6_turn 4 none, Cond.fieldLink RX6 32 "TurningTreesModel" "turns" "[I", Cond.methodLink RX6 92 yX6_takesPlace, Cond.instanceMethod yX6_takesPlace, Cond.selects RX6 yX6_takesPlace yX6_takesPlace, Cond.code yX6_takesPlace cX6_takesPlace 5 none, Cond.methodLink RX6 96 yX6_hangsLeft, Cond.instanceMethod yX6_hangsLeft, Cond.selects RX6 yX6_hangsLeft yX6_hangsLeft, Cond.code yX6_hangsLeft cX6_hangsLeft 4 none, Cond.methodLink RX6 99 yX6_hangsRight, Cond.instanceMethod yX6_hangsRight, Cond.selects RX6 yX6_hangsRight yX6_hangsRight]
def wsX6_ask_r3 : List Cond := [Cond.code yX6_hangsRight cX6_hangsRight 4 none, Cond.methodLink RX6 109 yX6_rises, Cond.instanceMethod yX6_rises, Cond.selects RX6 yX6_rises yX6_rises, Cond.code yX6_rises cX6_rises 3 none]
def wsX6_ask : List Cond := .code yX6_ask cX6_ask 4 (some .int) :: ((wsX6_ask_r1 ++ (wsX6_ask_r2 ++ wsX6_ask_r3)) ++ wsX60)
def wsX6_heir : List Cond := .code yX6_heir cX6_heir 6 (some .int) :: ([.fieldLink RX6 19 "TurningTreesModel" "left" "[I", .fieldLink RX6 22 "TurningTreesModel" "right" "[I", .fieldLink RX6 7 "TurningTreesModel" "kind" "[I", .methodLink RX6 118 yX6_weight, .static yX6_weight, .initialized RX6, .code yX6_weight cX6_weight 1 (some .int), .methodLink RX6 88 yX6_sizeOf, .instanceMethod yX6_sizeOf, .selects RX6 yX6_sizeOf yX6_sizeOf, .code yX6_sizeOf cX6_sizeOf 3 (some .int)] ++ wsX60)
def wsX6_remove_r1 : List Cond := [Cond.fieldLink RX6 77 "TurningTreesModel" "thrown" "I", Cond.fieldLink RX6 148 "TurningTreesModel" "cost" "I", Cond.fieldLink RX6 151 "TurningTreesModel" "last" "I", Cond.fieldLink RX6 16 "TurningTreesModel" "above" "[I", Cond.fieldLink RX6 25 "TurningTreesModel" "isIn" "[Z", Cond.fieldLink RX6 29 "TurningTreesModel" "many" "[I", Cond.fieldLink RX6 7 "TurningTreesModel" "kind" "[I", Cond.fieldLink RX6 38 "TurningTreesModel" "most" "[I", Cond.fieldLink RX6 13 "TurningTreesModel" "root" "[I", Cond.methodLink RX6 154 yX6_isTree, Cond.instanceMethod yX6_isTree, Cond.selects RX6 yX6_isTree yX6_isTree, Cond.initialized RX6, Cond.code yX6_isTree cX6_isTree 2 (some .boolean), Cond.fieldLink RX6 81 "TurningTreesModel" "trees" "I", Cond.methodLink RX6 158 yX6_isKey, Cond.static yX6_isKey, Cond.code yX6_isKey cX6_isKey 1 (some .boolean), Cond.methodLink RX6 161 yX6_goes, Cond.instanceMethod yX6_goes, Cond.selects RX6 yX6_goes yX6_goes, Cond.code yX6_goes cX6_goes 4 (some .boolean), Cond.fieldLink RX6 19 "TurningTreesModel" "left" "[I", Cond.fieldLink RX6 22 "TurningTreesModel" "right" "[I"]
def wsX6_remove_r2 : List Cond := [Cond.methodLink RX6 112 yX6_acts, Cond.instanceMethod yX6_acts, Cond.selects RX6 yX6_acts yX6_acts, Cond.code yX6_acts cX6_acts 3 none, Cond.methodLink RX6 102 yX6_splays, Cond.instanceMethod yX6_splays, Cond.selects RX6 yX6_splays yX6_splays, Cond.code yX6_splays cX6_splays 5 none, Cond.methodLink RX6 106 yX6_turn, Cond.instanceMethod yX6_turn, Cond.selects RX6 yX6_turn yX6_turn, Cond.code yX6_turn cX6_turn 4 none, Cond.fieldLink RX6 32 "TurningTreesModel" "turns" "[I", Cond.methodLink RX6 92 yX6_takesPlace, Cond.instanceMethod yX6_takesPlace, Cond.selects RX6 yX6_takesPlace yX6_takesPlace, Cond.code yX6_takesPlace cX6_takesPlace 5 none, Cond.methodLink RX6 96 yX6_hangsLeft, Cond.instanceMethod yX6_hangsLeft, Cond.selects RX6 yX6_hangsLeft yX6_hangsLeft, Cond.code yX6_hangsLeft cX6_hangsLeft 4 none, Cond.methodLink RX6 99 yX6_hangsRight, Cond.instanceMethod yX6_hangsRight, Cond.selects RX6 yX6_hangsRight yX6_hangsRight]
def wsX6_remove_r3 : List Cond := [Cond.code yX6_hangsRight cX6_hangsRight 4 none, Cond.methodLink RX6 109 yX6_rises, Cond.instanceMethod yX6_rises, Cond.selects RX6 yX6_rises yX6_rises, Cond.code yX6_rises cX6_rises 3 none, Cond.methodLink RX6 167 yX6_heir, Cond.instanceMethod yX6_heir, Cond.selects RX6 yX6_heir yX6_heir, Cond.code yX6_heir cX6_heir 6 (some .int), Cond.methodLink RX6 118 yX6_weight, Cond.static yX6_weight, Cond.code yX6_weight cX6_weight 1 (some .int), Cond.methodLink RX6 88 yX6_sizeOf, Cond.instanceMethod yX6_sizeOf, Cond.selects RX6 yX6_sizeOf yX6_sizeOf, Cond.code yX6_sizeOf cX6_sizeOf 3 (some .int), Cond.methodLink RX6 135 yX6_makesEven, Cond.instanceMethod yX6_makesEven, Cond.selects RX6 yX6_makesEven yX6_makesEven, Cond.code yX6_makesEven cX6_makesEven 6 none, Cond.fieldLink RX6 141 "TurningTreesModel" "sortedMany" "I", Cond.methodLink RX6 138 yX6_sorts, Cond.instanceMethod yX6_sorts, Cond.selects RX6 yX6_sorts yX6_sorts]
def wsX6_remove_r4 : List Cond := [Cond.code yX6_sorts cX6_sorts 3 none, Cond.fieldLink RX6 47 "TurningTreesModel" "sorted" "[I", Cond.methodLink RX6 144 yX6_even, Cond.instanceMethod yX6_even, Cond.selects RX6 yX6_even yX6_even, Cond.code yX6_even cX6_even 5 (some .int)]
def wsX6_remove : List Cond := .code yX6_remove cX6_remove 6 (some .int) :: ((wsX6_remove_r1 ++ (wsX6_remove_r2 ++ (wsX6_remove_r3 ++ wsX6_remove_r4))) ++ wsX60)
def wsX6_nearest : List Cond := .code yX6_nearest cX6_nearest 5 (some .int) :: ([.fieldLink RX6 16 "TurningTreesModel" "above" "[I"] ++ wsX60)
def wsX6_split_r1 : List Cond := [Cond.fieldLink RX6 77 "TurningTreesModel" "thrown" "I", Cond.fieldLink RX6 81 "TurningTreesModel" "trees" "I", Cond.fieldLink RX6 7 "TurningTreesModel" "kind" "[I", Cond.fieldLink RX6 50 "TurningTreesModel" "draft" "[I", Cond.fieldLink RX6 25 "TurningTreesModel" "isIn" "[Z", Cond.fieldLink RX6 13 "TurningTreesModel" "root" "[I", Cond.fieldLink RX6 19 "TurningTreesModel" "left" "[I", Cond.fieldLink RX6 22 "TurningTreesModel" "right" "[I", Cond.fieldLink RX6 29 "TurningTreesModel" "many" "[I", Cond.fieldLink RX6 16 "TurningTreesModel" "above" "[I", Cond.fieldLink RX6 38 "TurningTreesModel" "most" "[I", Cond.methodLink RX6 154 yX6_isTree, Cond.instanceMethod yX6_isTree, Cond.selects RX6 yX6_isTree yX6_isTree, Cond.initialized RX6, Cond.code yX6_isTree cX6_isTree 2 (some .boolean), Cond.methodLink RX6 158 yX6_isKey, Cond.static yX6_isKey, Cond.code yX6_isKey cX6_isKey 1 (some .boolean), Cond.methodLink RX6 84 yX6_newTree, Cond.instanceMethod yX6_newTree, Cond.selects RX6 yX6_newTree yX6_newTree, Cond.code yX6_newTree cX6_newTree 2 (some .int), Cond.methodLink RX6 170 yX6_nearest]
def wsX6_split_r2 : List Cond := [Cond.instanceMethod yX6_nearest, Cond.selects RX6 yX6_nearest yX6_nearest, Cond.code yX6_nearest cX6_nearest 5 (some .int)]
def wsX6_split : List Cond := .code yX6_split cX6_split 6 (some .int) :: ((wsX6_split_r1 ++ wsX6_split_r2) ++ wsX60)
def wsX6_greatest : List Cond := .code yX6_greatest cX6_greatest 3 (some .int) :: ([.fieldLink RX6 13 "TurningTreesModel" "root" "[I", .fieldLink RX6 22 "TurningTreesModel" "right" "[I"] ++ wsX60)
def wsX6_smallest : List Cond := .code yX6_smallest cX6_smallest 3 (some .int) :: ([.fieldLink RX6 13 "TurningTreesModel" "root" "[I", .fieldLink RX6 19 "TurningTreesModel" "left" "[I"] ++ wsX60)
def wsX6_heaps : List Cond := .code yX6_heaps cX6_heaps 4 (some .int) :: ([.fieldLink RX6 22 "TurningTreesModel" "right" "[I", .fieldLink RX6 19 "TurningTreesModel" "left" "[I", .methodLink RX6 118 yX6_weight, .static yX6_weight, .initialized RX6, .code yX6_weight cX6_weight 1 (some .int), .methodLink RX6 173 yX6_heaps, .instanceMethod yX6_heaps, .selects RX6 yX6_heaps yX6_heaps, .methodLink RX6 99 yX6_hangsRight, .instanceMethod yX6_hangsRight, .selects RX6 yX6_hangsRight yX6_hangsRight, .code yX6_hangsRight cX6_hangsRight 4 none, .fieldLink RX6 16 "TurningTreesModel" "above" "[I", .methodLink RX6 96 yX6_hangsLeft, .instanceMethod yX6_hangsLeft, .selects RX6 yX6_hangsLeft yX6_hangsLeft, .code yX6_hangsLeft cX6_hangsLeft 4 none] ++ wsX60)
def wsX6_join_r1 : List Cond := [Cond.fieldLink RX6 77 "TurningTreesModel" "thrown" "I", Cond.fieldLink RX6 7 "TurningTreesModel" "kind" "[I", Cond.fieldLink RX6 29 "TurningTreesModel" "many" "[I", Cond.fieldLink RX6 25 "TurningTreesModel" "isIn" "[Z", Cond.fieldLink RX6 16 "TurningTreesModel" "above" "[I", Cond.fieldLink RX6 19 "TurningTreesModel" "left" "[I", Cond.fieldLink RX6 22 "TurningTreesModel" "right" "[I", Cond.fieldLink RX6 13 "TurningTreesModel" "root" "[I", Cond.fieldLink RX6 38 "TurningTreesModel" "most" "[I", Cond.methodLink RX6 154 yX6_isTree, Cond.instanceMethod yX6_isTree, Cond.selects RX6 yX6_isTree yX6_isTree, Cond.initialized RX6, Cond.code yX6_isTree cX6_isTree 2 (some .boolean), Cond.fieldLink RX6 81 "TurningTreesModel" "trees" "I", Cond.methodLink RX6 176 yX6_greatest, Cond.instanceMethod yX6_greatest, Cond.selects RX6 yX6_greatest yX6_greatest, Cond.code yX6_greatest cX6_greatest 3 (some .int), Cond.methodLink RX6 179 yX6_smallest, Cond.instanceMethod yX6_smallest, Cond.selects RX6 yX6_smallest yX6_smallest, Cond.code yX6_smallest cX6_smallest 3 (some .int), Cond.methodLink RX6 109 yX6_rises]
def wsX6_join_r2 : List Cond := [Cond.instanceMethod yX6_rises, Cond.selects RX6 yX6_rises yX6_rises, Cond.code yX6_rises cX6_rises 3 none, Cond.methodLink RX6 106 yX6_turn, Cond.instanceMethod yX6_turn, Cond.selects RX6 yX6_turn yX6_turn, Cond.code yX6_turn cX6_turn 4 none, Cond.fieldLink RX6 32 "TurningTreesModel" "turns" "[I", Cond.methodLink RX6 92 yX6_takesPlace, Cond.instanceMethod yX6_takesPlace, Cond.selects RX6 yX6_takesPlace yX6_takesPlace, Cond.code yX6_takesPlace cX6_takesPlace 5 none, Cond.methodLink RX6 96 yX6_hangsLeft, Cond.instanceMethod yX6_hangsLeft, Cond.selects RX6 yX6_hangsLeft yX6_hangsLeft, Cond.code yX6_hangsLeft cX6_hangsLeft 4 none, Cond.methodLink RX6 99 yX6_hangsRight, Cond.instanceMethod yX6_hangsRight, Cond.selects RX6 yX6_hangsRight yX6_hangsRight, Cond.code yX6_hangsRight cX6_hangsRight 4 none, Cond.methodLink RX6 173 yX6_heaps, Cond.instanceMethod yX6_heaps, Cond.selects RX6 yX6_heaps yX6_heaps, Cond.code yX6_heaps cX6_heaps 4 (some .int)]
def wsX6_join_r3 : List Cond := [Cond.methodLink RX6 118 yX6_weight, Cond.static yX6_weight, Cond.code yX6_weight cX6_weight 1 (some .int)]
def wsX6_join : List Cond := .code yX6_join cX6_join 6 (some .boolean) :: ((wsX6_join_r1 ++ (wsX6_join_r2 ++ wsX6_join_r3)) ++ wsX60)
def wsX6_clear : List Cond := .code yX6_clear cX6_clear 3 (some .int) :: ([.fieldLink RX6 77 "TurningTreesModel" "thrown" "I", .fieldLink RX6 41 "TurningTreesModel" "asks" "[I", .methodLink RX6 154 yX6_isTree, .instanceMethod yX6_isTree, .selects RX6 yX6_isTree yX6_isTree, .initialized RX6, .code yX6_isTree cX6_isTree 2 (some .boolean), .fieldLink RX6 81 "TurningTreesModel" "trees" "I"] ++ wsX60)
def wsX6_look : List Cond := .code yX6_look cX6_look 5 (some .int) :: ([.fieldLink RX6 25 "TurningTreesModel" "isIn" "[Z", .fieldLink RX6 77 "TurningTreesModel" "thrown" "I", .fieldLink RX6 16 "TurningTreesModel" "above" "[I", .fieldLink RX6 19 "TurningTreesModel" "left" "[I", .fieldLink RX6 22 "TurningTreesModel" "right" "[I", .methodLink RX6 154 yX6_isTree, .instanceMethod yX6_isTree, .selects RX6 yX6_isTree yX6_isTree, .initialized RX6, .code yX6_isTree cX6_isTree 2 (some .boolean), .fieldLink RX6 81 "TurningTreesModel" "trees" "I", .methodLink RX6 158 yX6_isKey, .static yX6_isKey, .code yX6_isKey cX6_isKey 1 (some .boolean), .methodLink RX6 125 yX6_depthOf, .instanceMethod yX6_depthOf, .selects RX6 yX6_depthOf yX6_depthOf, .code yX6_depthOf cX6_depthOf 5 (some .int), .methodLink RX6 88 yX6_sizeOf, .instanceMethod yX6_sizeOf, .selects RX6 yX6_sizeOf yX6_sizeOf, .code yX6_sizeOf cX6_sizeOf 3 (some .int)] ++ wsX60)
def wsX6_deepest : List Cond := .code yX6_deepest cX6_deepest 5 (some .int) :: ([.fieldLink RX6 25 "TurningTreesModel" "isIn" "[Z", .methodLink RX6 125 yX6_depthOf, .instanceMethod yX6_depthOf, .selects RX6 yX6_depthOf yX6_depthOf, .initialized RX6, .code yX6_depthOf cX6_depthOf 5 (some .int), .fieldLink RX6 16 "TurningTreesModel" "above" "[I"] ++ wsX60)
def wsX6_potential : List Cond := .code yX6_potential cX6_potential 5 (some .int) :: ([.fieldLink RX6 25 "TurningTreesModel" "isIn" "[Z", .methodLink RX6 88 yX6_sizeOf, .instanceMethod yX6_sizeOf, .selects RX6 yX6_sizeOf yX6_sizeOf, .initialized RX6, .code yX6_sizeOf cX6_sizeOf 3 (some .int), .fieldLink RX6 19 "TurningTreesModel" "left" "[I", .fieldLink RX6 22 "TurningTreesModel" "right" "[I"] ++ wsX60)
def wsX6_count_r1 : List Cond := [Cond.fieldLink RX6 77 "TurningTreesModel" "thrown" "I", Cond.fieldLink RX6 7 "TurningTreesModel" "kind" "[I", Cond.fieldLink RX6 29 "TurningTreesModel" "many" "[I", Cond.fieldLink RX6 13 "TurningTreesModel" "root" "[I", Cond.fieldLink RX6 32 "TurningTreesModel" "turns" "[I", Cond.fieldLink RX6 35 "TurningTreesModel" "costs" "[I", Cond.fieldLink RX6 41 "TurningTreesModel" "asks" "[I", Cond.fieldLink RX6 38 "TurningTreesModel" "most" "[I", Cond.methodLink RX6 154 yX6_isTree, Cond.instanceMethod yX6_isTree, Cond.selects RX6 yX6_isTree yX6_isTree, Cond.initialized RX6, Cond.code yX6_isTree cX6_isTree 2 (some .boolean), Cond.fieldLink RX6 81 "TurningTreesModel" "trees" "I", Cond.methodLink RX6 182 yX6_deepest, Cond.instanceMethod yX6_deepest, Cond.selects RX6 yX6_deepest yX6_deepest, Cond.code yX6_deepest cX6_deepest 5 (some .int), Cond.fieldLink RX6 25 "TurningTreesModel" "isIn" "[Z", Cond.methodLink RX6 125 yX6_depthOf, Cond.instanceMethod yX6_depthOf, Cond.selects RX6 yX6_depthOf yX6_depthOf, Cond.code yX6_depthOf cX6_depthOf 5 (some .int), Cond.fieldLink RX6 16 "TurningTreesModel" "above" "[I"]
def wsX6_count_r2 : List Cond := [Cond.methodLink RX6 185 yX6_potential, Cond.instanceMethod yX6_potential, Cond.selects RX6 yX6_potential yX6_potential, Cond.code yX6_potential cX6_potential 5 (some .int), Cond.methodLink RX6 88 yX6_sizeOf, Cond.instanceMethod yX6_sizeOf, Cond.selects RX6 yX6_sizeOf yX6_sizeOf, Cond.code yX6_sizeOf cX6_sizeOf 3 (some .int), Cond.fieldLink RX6 19 "TurningTreesModel" "left" "[I", Cond.fieldLink RX6 22 "TurningTreesModel" "right" "[I"]
def wsX6_count : List Cond := .code yX6_count cX6_count 3 (some .int) :: ((wsX6_count_r1 ++ wsX6_count_r2) ++ wsX60)
def wsX6_bestOf : List Cond := .code yX6_bestOf cX6_bestOf 7 none :: ([.fieldLink RX6 53 "TurningTreesModel" "often" "[I", .fieldLink RX6 56 "TurningTreesModel" "least" "[I", .fieldLink RX6 59 "TurningTreesModel" "best" "[I"] ++ wsX60)
def wsX6_best : List Cond := .code yX6_best cX6_best 6 (some .int) :: ([.fieldLink RX6 77 "TurningTreesModel" "thrown" "I", .fieldLink RX6 25 "TurningTreesModel" "isIn" "[Z", .fieldLink RX6 53 "TurningTreesModel" "often" "[I", .fieldLink RX6 41 "TurningTreesModel" "asks" "[I", .fieldLink RX6 44 "TurningTreesModel" "row" "[I", .fieldLink RX6 47 "TurningTreesModel" "sorted" "[I", .fieldLink RX6 56 "TurningTreesModel" "least" "[I", .fieldLink RX6 59 "TurningTreesModel" "best" "[I", .methodLink RX6 154 yX6_isTree, .instanceMethod yX6_isTree, .selects RX6 yX6_isTree yX6_isTree, .initialized RX6, .code yX6_isTree cX6_isTree 2 (some .boolean), .fieldLink RX6 81 "TurningTreesModel" "trees" "I", .methodLink RX6 188 yX6_bestOf, .instanceMethod yX6_bestOf, .selects RX6 yX6_bestOf yX6_bestOf, .code yX6_bestOf cX6_bestOf 7 none] ++ wsX60)
def wsX6_interleave : List Cond := .code yX6_interleave cX6_interleave 8 (some .int) :: ([.fieldLink RX6 77 "TurningTreesModel" "thrown" "I", .fieldLink RX6 41 "TurningTreesModel" "asks" "[I", .fieldLink RX6 44 "TurningTreesModel" "row" "[I", .methodLink RX6 154 yX6_isTree, .instanceMethod yX6_isTree, .selects RX6 yX6_isTree yX6_isTree, .initialized RX6, .code yX6_isTree cX6_isTree 2 (some .boolean), .fieldLink RX6 81 "TurningTreesModel" "trees" "I"] ++ wsX60)
def wsX6_touches : List Cond := .code yX6_touches cX6_touches 6 (some .int) :: ([.fieldLink RX6 62 "TurningTreesModel" "touchedAt" "[I", .fieldLink RX6 65 "TurningTreesModel" "isTouched" "[Z"] ++ wsX60)
def wsX6_sweep : List Cond := .code yX6_sweep cX6_sweep 6 (some .int) :: ([.fieldLink RX6 77 "TurningTreesModel" "thrown" "I", .fieldLink RX6 62 "TurningTreesModel" "touchedAt" "[I", .fieldLink RX6 41 "TurningTreesModel" "asks" "[I", .fieldLink RX6 44 "TurningTreesModel" "row" "[I", .fieldLink RX6 65 "TurningTreesModel" "isTouched" "[Z", .methodLink RX6 154 yX6_isTree, .instanceMethod yX6_isTree, .selects RX6 yX6_isTree yX6_isTree, .initialized RX6, .code yX6_isTree cX6_isTree 2 (some .boolean), .fieldLink RX6 81 "TurningTreesModel" "trees" "I", .methodLink RX6 191 yX6_touches, .instanceMethod yX6_touches, .selects RX6 yX6_touches yX6_touches, .code yX6_touches cX6_touches 6 (some .int)] ++ wsX60)
def wsX6_lays : List Cond := .code yX6_lays cX6_lays 8 none :: ([.fieldLink RX6 71 "TurningTreesModel" "line" "[I", .fieldLink RX6 68 "TurningTreesModel" "pageOf" "[I", .fieldLink RX6 19 "TurningTreesModel" "left" "[I", .fieldLink RX6 22 "TurningTreesModel" "right" "[I"] ++ wsX60)
def wsX6_pages : List Cond := .code yX6_pages cX6_pages 6 (some .int) :: ([.fieldLink RX6 77 "TurningTreesModel" "thrown" "I", .fieldLink RX6 25 "TurningTreesModel" "isIn" "[Z", .fieldLink RX6 68 "TurningTreesModel" "pageOf" "[I", .fieldLink RX6 13 "TurningTreesModel" "root" "[I", .fieldLink RX6 19 "TurningTreesModel" "left" "[I", .fieldLink RX6 22 "TurningTreesModel" "right" "[I", .methodLink RX6 154 yX6_isTree, .instanceMethod yX6_isTree, .selects RX6 yX6_isTree yX6_isTree, .initialized RX6, .code yX6_isTree cX6_isTree 2 (some .boolean), .fieldLink RX6 81 "TurningTreesModel" "trees" "I", .methodLink RX6 158 yX6_isKey, .static yX6_isKey, .code yX6_isKey cX6_isKey 1 (some .boolean), .methodLink RX6 194 yX6_lays, .instanceMethod yX6_lays, .selects RX6 yX6_lays yX6_lays, .code yX6_lays cX6_lays 8 none, .fieldLink RX6 71 "TurningTreesModel" "line" "[I"] ++ wsX60)
def wsX6_keep : List Cond := .code yX6_keep cX6_keep 3 (some .int) :: ([.fieldLink RX6 77 "TurningTreesModel" "thrown" "I", .fieldLink RX6 197 "TurningTreesModel" "keeps" "I", .fieldLink RX6 74 "TurningTreesModel" "keptDepth" "[I", .fieldLink RX6 25 "TurningTreesModel" "isIn" "[Z", .methodLink RX6 154 yX6_isTree, .instanceMethod yX6_isTree, .selects RX6 yX6_isTree yX6_isTree, .initialized RX6, .code yX6_isTree cX6_isTree 2 (some .boolean), .fieldLink RX6 81 "TurningTreesModel" "trees" "I", .methodLink RX6 125 yX6_depthOf, .instanceMethod yX6_depthOf, .selects RX6 yX6_depthOf yX6_depthOf, .code yX6_depthOf cX6_depthOf 5 (some .int), .fieldLink RX6 16 "TurningTreesModel" "above" "[I"] ++ wsX60)
def wsX6_kept : List Cond := .code yX6_kept cX6_kept 3 (some .int) :: ([.fieldLink RX6 77 "TurningTreesModel" "thrown" "I", .fieldLink RX6 197 "TurningTreesModel" "keeps" "I", .fieldLink RX6 74 "TurningTreesModel" "keptDepth" "[I", .methodLink RX6 158 yX6_isKey, .static yX6_isKey, .initialized RX6, .code yX6_isKey cX6_isKey 1 (some .boolean)] ++ wsX60)
def wsJ9_max_7cf53 : List Cond := .code yJ9_max_7cf53 cJ9_max_7cf53 2 (some .int) :: ([])
def wsL_ask_r1 : List Cond := [Cond.classLink RL 13 "java/util/NoSuchElementException", Cond.methodLink RL 7 yX5_ask, Cond.instanceMethod yX5_ask, Cond.selects RX5 yX5_ask yX5_ask, Cond.initialized RX5, Cond.code yX5_ask cX5_ask 4 (some .int), Cond.classLink RX5 67 "java/util/NoSuchElementException", Cond.initialized "java/util/NoSuchElementException", Cond.methodLink RX5 47 yX5_treeOf, Cond.instanceMethod yX5_treeOf, Cond.selects RX5 yX5_treeOf yX5_treeOf, Cond.code yX5_treeOf cX5_treeOf 2 (some (.object "TurningTrees$Tree")), Cond.fieldLink RX5 11 "TurningTrees" "trees" "[LTurningTrees$Tree;", Cond.methodLink RX5 51 yX5_isKey, Cond.static yX5_isKey, Cond.code yX5_isKey cX5_isKey 1 (some .boolean), Cond.methodLink RX5 74 yX4_seek, Cond.instanceMethod yX4_seek, Cond.selects RX4 yX4_seek yX4_seek, Cond.initialized RX4, Cond.code yX4_seek cX4_seek 4 (some .int), Cond.fieldLink RX4 18 "TurningTrees$Tree" "shape" "LTurningTrees$Shape;", Cond.fieldLink RX4 29 "TurningTrees$Tree" "costs" "I", Cond.fieldLink RX4 25 "TurningTrees$Tree" "row" "LTurningTrees$Row;"]
def wsL_ask_r2 : List Cond := [Cond.methodLink RX4 35 yX3_lastOnWay, Cond.instanceMethod yX3_lastOnWay, Cond.selects RX3 yX3_lastOnWay yX3_lastOnWay, Cond.initialized RX3, Cond.code yX3_lastOnWay cX3_lastOnWay 5 (some .int), Cond.fieldLink RX3 33 "TurningTrees$Shape" "root" "I", Cond.methodLink RX3 64 yX3_leftOf, Cond.instanceMethod yX3_leftOf, Cond.selects RX3 yX3_leftOf yX3_leftOf, Cond.code yX3_leftOf cX3_leftOf 2 (some .int), Cond.fieldLink RX3 9 "TurningTrees$Shape" "left" "[I", Cond.static yX5_at, Cond.code yX5_at cX5_at 2 (some .int), Cond.methodLink RX3 67 yX3_rightOf, Cond.instanceMethod yX3_rightOf, Cond.selects RX3 yX3_rightOf yX3_rightOf, Cond.code yX3_rightOf cX3_rightOf 2 (some .int), Cond.fieldLink RX3 15 "TurningTrees$Shape" "right" "[I", Cond.methodLink RX4 39 yX3_depthOf, Cond.instanceMethod yX3_depthOf, Cond.selects RX3 yX3_depthOf yX3_depthOf, Cond.code yX3_depthOf cX3_depthOf 4 (some .int), Cond.methodLink RX3 48 yX3_holds, Cond.instanceMethod yX3_holds]
def wsL_ask_r3 : List Cond := [Cond.selects RX3 yX3_holds yX3_holds, Cond.code yX3_holds cX3_holds 2 (some .boolean), Cond.methodLink RX3 44 yX3_sizeOf, Cond.instanceMethod yX3_sizeOf, Cond.selects RX3 yX3_sizeOf yX3_sizeOf, Cond.code yX3_sizeOf cX3_sizeOf 2 (some .int), Cond.fieldLink RX3 21 "TurningTrees$Shape" "size" "[I", Cond.methodLink RX3 52 yX3_upOf, Cond.instanceMethod yX3_upOf, Cond.selects RX3 yX3_upOf yX3_upOf, Cond.code yX3_upOf cX3_upOf 2 (some .int), Cond.fieldLink RX3 18 "TurningTrees$Shape" "up" "[I", Cond.methodLink RX4 73 yX2_write, Cond.instanceMethod yX2_write, Cond.selects RX2 yX2_write yX2_write, Cond.initialized RX2, Cond.code yX2_write cX2_write 2 none, Cond.fieldLink RX2 15 "TurningTrees$Row" "length" "I", Cond.fieldLink RX2 9 "TurningTrees$Row" "keys" "[I", Cond.static yX5_put, Cond.code yX5_put cX5_put 3 none, Cond.methodLink RX4 70 yX4_act, Cond.instanceMethod yX4_act, Cond.selects RX4 yX4_act yX4_act]
def wsL_ask_r4 : List Cond := [Cond.code yX4_act cX4_act 2 none, Cond.fieldLink RX4 9 "TurningTrees$Tree" "kind" "I", Cond.methodLink RX4 107 yX4_splay, Cond.instanceMethod yX4_splay, Cond.selects RX4 yX4_splay yX4_splay, Cond.code yX4_splay cX4_splay 5 none, Cond.methodLink RX4 79 yX3_upOf, Cond.methodLink RX4 110 yX3_turn, Cond.instanceMethod yX3_turn, Cond.selects RX3 yX3_turn yX3_turn, Cond.code yX3_turn cX3_turn 4 none, Cond.fieldLink RX3 37 "TurningTrees$Shape" "turns" "I", Cond.methodLink RX3 94 yX3_hangLeft, Cond.instanceMethod yX3_hangLeft, Cond.selects RX3 yX3_hangLeft yX3_hangLeft, Cond.code yX3_hangLeft cX3_hangLeft 3 none, Cond.methodLink RX3 97 yX3_hangRight, Cond.instanceMethod yX3_hangRight, Cond.selects RX3 yX3_hangRight yX3_hangRight, Cond.code yX3_hangRight cX3_hangRight 3 none, Cond.methodLink RX3 80 yX3_hang, Cond.instanceMethod yX3_hang, Cond.selects RX3 yX3_hang yX3_hang, Cond.code yX3_hang cX3_hang 3 none]
def wsL_ask_r5 : List Cond := [Cond.methodLink RX3 91 yX3_resize, Cond.instanceMethod yX3_resize, Cond.selects RX3 yX3_resize yX3_resize, Cond.code yX3_resize cX3_resize 2 none, Cond.methodLink RX4 101 yX4_raiseToRoot, Cond.instanceMethod yX4_raiseToRoot, Cond.selects RX4 yX4_raiseToRoot yX4_raiseToRoot, Cond.code yX4_raiseToRoot cX4_raiseToRoot 3 none]
def wsL_ask : List Cond := .codeWith yL_ask cL_ask 5 (some .int) [(0, 10, 13, 13)] :: ((wsL_ask_r1 ++ (wsL_ask_r2 ++ (wsL_ask_r3 ++ (wsL_ask_r4 ++ wsL_ask_r5)))) ++ wsX50 ++ wsX40 ++ wsX30 ++ wsX20 ++ at13.filter goodWord)
def wsL_remove_r1 : List Cond := [Cond.classLink RL 13 "java/util/NoSuchElementException", Cond.methodLink RL 15 yX5_remove, Cond.instanceMethod yX5_remove, Cond.selects RX5 yX5_remove yX5_remove, Cond.initialized RX5, Cond.code yX5_remove cX5_remove 4 (some .int), Cond.classLink RX5 67 "java/util/NoSuchElementException", Cond.initialized "java/util/NoSuchElementException", Cond.methodLink RX5 47 yX5_treeOf, Cond.instanceMethod yX5_treeOf, Cond.selects RX5 yX5_treeOf yX5_treeOf, Cond.code yX5_treeOf cX5_treeOf 2 (some (.object "TurningTrees$Tree")), Cond.fieldLink RX5 11 "TurningTrees" "trees" "[LTurningTrees$Tree;", Cond.methodLink RX5 51 yX5_isKey, Cond.static yX5_isKey, Cond.code yX5_isKey cX5_isKey 1 (some .boolean), Cond.methodLink RX5 77 yX4_giveUp, Cond.instanceMethod yX4_giveUp, Cond.selects RX4 yX4_giveUp yX4_giveUp, Cond.initialized RX4, Cond.code yX4_giveUp cX4_giveUp 5 (some .int), Cond.fieldLink RX4 18 "TurningTrees$Tree" "shape" "LTurningTrees$Shape;", Cond.fieldLink RX4 9 "TurningTrees$Tree" "kind" "I", Cond.fieldLink RX4 32 "TurningTrees$Tree" "most" "I"]
def wsL_remove_r2 : List Cond := [Cond.fieldLink RX4 85 "TurningTrees$Shape" "root" "I", Cond.methodLink RX4 35 yX3_lastOnWay, Cond.instanceMethod yX3_lastOnWay, Cond.selects RX3 yX3_lastOnWay yX3_lastOnWay, Cond.initialized RX3, Cond.code yX3_lastOnWay cX3_lastOnWay 5 (some .int), Cond.fieldLink RX3 33 "TurningTrees$Shape" "root" "I", Cond.methodLink RX3 64 yX3_leftOf, Cond.instanceMethod yX3_leftOf, Cond.selects RX3 yX3_leftOf yX3_leftOf, Cond.code yX3_leftOf cX3_leftOf 2 (some .int), Cond.fieldLink RX3 9 "TurningTrees$Shape" "left" "[I", Cond.static yX5_at, Cond.code yX5_at cX5_at 2 (some .int), Cond.methodLink RX3 67 yX3_rightOf, Cond.instanceMethod yX3_rightOf, Cond.selects RX3 yX3_rightOf yX3_rightOf, Cond.code yX3_rightOf cX3_rightOf 2 (some .int), Cond.fieldLink RX3 15 "TurningTrees$Shape" "right" "[I", Cond.methodLink RX4 39 yX3_depthOf, Cond.instanceMethod yX3_depthOf, Cond.selects RX3 yX3_depthOf yX3_depthOf, Cond.code yX3_depthOf cX3_depthOf 4 (some .int), Cond.methodLink RX3 48 yX3_holds]
def wsL_remove_r3 : List Cond := [Cond.instanceMethod yX3_holds, Cond.selects RX3 yX3_holds yX3_holds, Cond.code yX3_holds cX3_holds 2 (some .boolean), Cond.methodLink RX3 44 yX3_sizeOf, Cond.instanceMethod yX3_sizeOf, Cond.selects RX3 yX3_sizeOf yX3_sizeOf, Cond.code yX3_sizeOf cX3_sizeOf 2 (some .int), Cond.fieldLink RX3 21 "TurningTrees$Shape" "size" "[I", Cond.methodLink RX3 52 yX3_upOf, Cond.instanceMethod yX3_upOf, Cond.selects RX3 yX3_upOf yX3_upOf, Cond.code yX3_upOf cX3_upOf 2 (some .int), Cond.fieldLink RX3 18 "TurningTrees$Shape" "up" "[I", Cond.methodLink RX4 70 yX4_act, Cond.instanceMethod yX4_act, Cond.selects RX4 yX4_act yX4_act, Cond.code yX4_act cX4_act 2 none, Cond.methodLink RX4 107 yX4_splay, Cond.instanceMethod yX4_splay, Cond.selects RX4 yX4_splay yX4_splay, Cond.code yX4_splay cX4_splay 5 none, Cond.methodLink RX4 79 yX3_upOf, Cond.methodLink RX4 110 yX3_turn, Cond.instanceMethod yX3_turn]
def wsL_remove_r4 : List Cond := [Cond.selects RX3 yX3_turn yX3_turn, Cond.code yX3_turn cX3_turn 4 none, Cond.fieldLink RX3 37 "TurningTrees$Shape" "turns" "I", Cond.methodLink RX3 94 yX3_hangLeft, Cond.instanceMethod yX3_hangLeft, Cond.selects RX3 yX3_hangLeft yX3_hangLeft, Cond.code yX3_hangLeft cX3_hangLeft 3 none, Cond.static yX5_put, Cond.code yX5_put cX5_put 3 none, Cond.methodLink RX3 97 yX3_hangRight, Cond.instanceMethod yX3_hangRight, Cond.selects RX3 yX3_hangRight yX3_hangRight, Cond.code yX3_hangRight cX3_hangRight 3 none, Cond.methodLink RX3 80 yX3_hang, Cond.instanceMethod yX3_hang, Cond.selects RX3 yX3_hang yX3_hang, Cond.code yX3_hang cX3_hang 3 none, Cond.methodLink RX3 91 yX3_resize, Cond.instanceMethod yX3_resize, Cond.selects RX3 yX3_resize yX3_resize, Cond.code yX3_resize cX3_resize 2 none, Cond.methodLink RX4 101 yX4_raiseToRoot, Cond.instanceMethod yX4_raiseToRoot, Cond.selects RX4 yX4_raiseToRoot yX4_raiseToRoot]
def wsL_remove_r5 : List Cond := [Cond.code yX4_raiseToRoot cX4_raiseToRoot 3 none, Cond.methodLink RX4 76 yX4_sink, Cond.instanceMethod yX4_sink, Cond.selects RX4 yX4_sink yX4_sink, Cond.code yX4_sink cX4_sink 3 none, Cond.methodLink RX4 133 yX3_sizeOf, Cond.methodLink RX4 139 yX4_childToTurn, Cond.instanceMethod yX4_childToTurn, Cond.selects RX4 yX4_childToTurn yX4_childToTurn, Cond.code yX4_childToTurn cX4_childToTurn 4 (some .int), Cond.methodLink RX4 130 yX3_leftOf, Cond.methodLink RX4 136 yX3_rightOf, Cond.static yX5_weight, Cond.code yX5_weight cX5_weight 1 (some .int), Cond.methodLink RX4 82 yX3_takeOff, Cond.instanceMethod yX3_takeOff, Cond.selects RX3 yX3_takeOff yX3_takeOff, Cond.code yX3_takeOff cX3_takeOff 3 none, Cond.methodLink RX3 88 yX3_forget, Cond.instanceMethod yX3_forget, Cond.selects RX3 yX3_forget yX3_forget, Cond.code yX3_forget cX3_forget 2 none, Cond.methodLink RX3 84 yX3_resizeUpFrom, Cond.instanceMethod yX3_resizeUpFrom]
def wsL_remove_r6 : List Cond := [Cond.selects RX3 yX3_resizeUpFrom yX3_resizeUpFrom, Cond.code yX3_resizeUpFrom cX3_resizeUpFrom 4 none, Cond.methodLink RX4 46 yX3_keysHeld, Cond.instanceMethod yX3_keysHeld, Cond.selects RX3 yX3_keysHeld yX3_keysHeld, Cond.code yX3_keysHeld cX3_keysHeld 1 (some .int), Cond.methodLink RX4 63 yX4_evenOut, Cond.instanceMethod yX4_evenOut, Cond.selects RX4 yX4_evenOut yX4_evenOut, Cond.code yX4_evenOut cX4_evenOut 3 none, Cond.methodLink RX4 120 yX3_makeEven, Cond.instanceMethod yX3_makeEven, Cond.selects RX3 yX3_makeEven yX3_makeEven, Cond.code yX3_makeEven cX3_makeEven 7 none, Cond.fieldLink RX3 24 "TurningTrees$Shape" "order" "[I", Cond.methodLink RX3 73 yX3_leastUnder, Cond.instanceMethod yX3_leastUnder, Cond.selects RX3 yX3_leastUnder yX3_leastUnder, Cond.code yX3_leastUnder cX3_leastUnder 4 (some .int), Cond.methodLink RX3 70 yX3_greatestUnder, Cond.instanceMethod yX3_greatestUnder, Cond.selects RX3 yX3_greatestUnder yX3_greatestUnder, Cond.code yX3_greatestUnder cX3_greatestUnder 4 (some .int), Cond.methodLink RX3 100 yX3_evenOf]
def wsL_remove_r7 : List Cond := [Cond.static yX3_evenOf, Cond.code yX3_evenOf cX3_evenOf 6 (some .int), Cond.methodLink RX4 123 yX4_beginMost, Cond.instanceMethod yX4_beginMost, Cond.selects RX4 yX4_beginMost yX4_beginMost, Cond.code yX4_beginMost cX4_beginMost 1 none]
def wsL_remove : List Cond := .codeWith yL_remove cL_remove 5 (some .int) [(0, 10, 13, 13)] :: ((wsL_remove_r1 ++ (wsL_remove_r2 ++ (wsL_remove_r3 ++ (wsL_remove_r4 ++ (wsL_remove_r5 ++ (wsL_remove_r6 ++ wsL_remove_r7)))))) ++ wsX50 ++ wsX40 ++ wsX30 ++ at13.filter goodWord)
def wsL_look_r1 : List Cond := [Cond.classLink RL 13 "java/util/NoSuchElementException", Cond.methodLink RL 18 yX5_look, Cond.instanceMethod yX5_look, Cond.selects RX5 yX5_look yX5_look, Cond.initialized RX5, Cond.code yX5_look cX5_look 5 (some .int), Cond.classLink RX5 67 "java/util/NoSuchElementException", Cond.initialized "java/util/NoSuchElementException", Cond.fieldLink RX5 55 "TurningTrees$Tree" "shape" "LTurningTrees$Shape;", Cond.methodLink RX5 47 yX5_treeOf, Cond.instanceMethod yX5_treeOf, Cond.selects RX5 yX5_treeOf yX5_treeOf, Cond.code yX5_treeOf cX5_treeOf 2 (some (.object "TurningTrees$Tree")), Cond.fieldLink RX5 11 "TurningTrees" "trees" "[LTurningTrees$Tree;", Cond.methodLink RX5 59 yX3_holds, Cond.instanceMethod yX3_holds, Cond.selects RX3 yX3_holds yX3_holds, Cond.initialized RX3, Cond.code yX3_holds cX3_holds 2 (some .boolean), Cond.methodLink RX3 44 yX3_sizeOf, Cond.instanceMethod yX3_sizeOf, Cond.selects RX3 yX3_sizeOf yX3_sizeOf, Cond.code yX3_sizeOf cX3_sizeOf 2 (some .int), Cond.fieldLink RX3 21 "TurningTrees$Shape" "size" "[I"]
def wsL_look_r2 : List Cond := [Cond.methodLink RX5 110 yX3_depthOf, Cond.instanceMethod yX3_depthOf, Cond.selects RX3 yX3_depthOf yX3_depthOf, Cond.code yX3_depthOf cX3_depthOf 4 (some .int), Cond.methodLink RX3 48 yX3_holds, Cond.methodLink RX3 52 yX3_upOf, Cond.instanceMethod yX3_upOf, Cond.selects RX3 yX3_upOf yX3_upOf, Cond.code yX3_upOf cX3_upOf 2 (some .int), Cond.fieldLink RX3 18 "TurningTrees$Shape" "up" "[I", Cond.static yX5_at, Cond.code yX5_at cX5_at 2 (some .int), Cond.methodLink RX5 113 yX3_upOf, Cond.methodLink RX5 116 yX3_leftOf, Cond.instanceMethod yX3_leftOf, Cond.selects RX3 yX3_leftOf yX3_leftOf, Cond.code yX3_leftOf cX3_leftOf 2 (some .int), Cond.fieldLink RX3 9 "TurningTrees$Shape" "left" "[I", Cond.methodLink RX5 119 yX3_rightOf, Cond.instanceMethod yX3_rightOf, Cond.selects RX3 yX3_rightOf yX3_rightOf, Cond.code yX3_rightOf cX3_rightOf 2 (some .int), Cond.fieldLink RX3 15 "TurningTrees$Shape" "right" "[I", Cond.methodLink RX5 122 yX3_sizeOf]
def wsL_look : List Cond := .codeWith yL_look cL_look 6 (some .int) [(0, 12, 15, 13)] :: ((wsL_look_r1 ++ wsL_look_r2) ++ wsX40 ++ wsX50 ++ wsX30 ++ at13.filter goodWord)
def wsL_law0_r1 : List Cond := [Cond.classLink RL 8 RX5, Cond.instantiable RX5 7, Cond.initialized RX5, Cond.classLink RL 23 RX6, Cond.instantiable RX6 28, Cond.initialized RX6, Cond.arrayClass .long, Cond.methodLink RL 22 yX5_init, Cond.instanceMethod yX5_init, Cond.code yX5_init cX5_init 1 none, Cond.methodLink RX5 1 objectInit, Cond.instanceMethod objectInit, Cond.code objectInit ⟨#[0xb1]⟩ 1 none, Cond.classLink RX5 9 RX4, Cond.fieldLink RX5 11 "TurningTrees" "trees" "[LTurningTrees$Tree;", Cond.fieldLink RX5 15 "TurningTrees" "treesMade" "I", Cond.arrayClass .int, Cond.fieldLink RX5 19 "TurningTrees" "keptDepths" "[I", Cond.fieldLink RX5 23 "TurningTrees" "keptMade" "I", Cond.fieldLink RX5 26 "TurningTrees" "marks" "[I", Cond.classLink RX5 29 RX1, Cond.instantiable RX1 2, Cond.initialized RX1, Cond.fieldLink RX5 32 "TurningTrees" "page" "LTurningTrees$Page;"]
def wsL_law0_r2 : List Cond := [Cond.classLink RX5 36 RX0, Cond.instantiable RX0 7, Cond.initialized RX0, Cond.fieldLink RX5 39 "TurningTrees" "bestStill" "LTurningTrees$BestStill;", Cond.methodLink RX5 31 yX1_init, Cond.instanceMethod yX1_init, Cond.code yX1_init cX1_init 1 none, Cond.methodLink RX1 3 objectInit, Cond.fieldLink RX1 9 "TurningTrees$Page" "keys" "[I", Cond.fieldLink RX1 15 "TurningTrees$Page" "filled" "I", Cond.methodLink RX5 38 yX0_init, Cond.instanceMethod yX0_init, Cond.code yX0_init cX0_init 1 none, Cond.methodLink RX0 3 objectInit, Cond.fieldLink RX0 9 "TurningTrees$BestStill" "keys" "[I", Cond.fieldLink RX0 15 "TurningTrees$BestStill" "asks" "[I", Cond.fieldLink RX0 18 "TurningTrees$BestStill" "asksBefore" "[I", Cond.fieldLink RX0 21 "TurningTrees$BestStill" "least" "[I", Cond.fieldLink RX0 24 "TurningTrees$BestStill" "tops" "[I", Cond.fieldLink RX0 27 "TurningTrees$BestStill" "sum" "I", Cond.fieldLink RX0 31 "TurningTrees$BestStill" "root" "I", Cond.methodLink RL 25 yX6_init, Cond.instanceMethod yX6_init, Cond.code yX6_init cX6_init 1 none]
def wsL_law0_r3 : List Cond := [Cond.methodLink RX6 1 objectInit, Cond.fieldLink RX6 7 "TurningTreesModel" "kind" "[I", Cond.fieldLink RX6 13 "TurningTreesModel" "root" "[I", Cond.fieldLink RX6 16 "TurningTreesModel" "above" "[I", Cond.fieldLink RX6 19 "TurningTreesModel" "left" "[I", Cond.fieldLink RX6 22 "TurningTreesModel" "right" "[I", Cond.arrayClass .boolean, Cond.fieldLink RX6 25 "TurningTreesModel" "isIn" "[Z", Cond.fieldLink RX6 29 "TurningTreesModel" "many" "[I", Cond.fieldLink RX6 32 "TurningTreesModel" "turns" "[I", Cond.fieldLink RX6 35 "TurningTreesModel" "costs" "[I", Cond.fieldLink RX6 38 "TurningTreesModel" "most" "[I", Cond.fieldLink RX6 41 "TurningTreesModel" "asks" "[I", Cond.fieldLink RX6 44 "TurningTreesModel" "row" "[I", Cond.fieldLink RX6 47 "TurningTreesModel" "sorted" "[I", Cond.fieldLink RX6 50 "TurningTreesModel" "draft" "[I", Cond.fieldLink RX6 53 "TurningTreesModel" "often" "[I", Cond.fieldLink RX6 56 "TurningTreesModel" "least" "[I", Cond.fieldLink RX6 59 "TurningTreesModel" "best" "[I", Cond.fieldLink RX6 62 "TurningTreesModel" "touchedAt" "[I", Cond.fieldLink RX6 65 "TurningTreesModel" "isTouched" "[Z", Cond.fieldLink RX6 68 "TurningTreesModel" "pageOf" "[I", Cond.fieldLink RX6 71 "TurningTreesModel" "line" "[I", Cond.fieldLink RX6 74 "TurningTreesModel" "keptDepth" "[I"]
def wsL_law0_r4 : List Cond := [Cond.methodLink RL 26 yX5_tree, Cond.instanceMethod yX5_tree, Cond.selects RX5 yX5_tree yX5_tree, Cond.code yX5_tree cX5_tree 2 (some .int), Cond.methodLink RX5 43 yX5_newTree, Cond.instanceMethod yX5_newTree, Cond.selects RX5 yX5_newTree yX5_newTree, Cond.code yX5_newTree cX5_newTree 2 (some .int), Cond.instantiable RX4 5, Cond.initialized RX4, Cond.methodLink RX5 178 yX4_init, Cond.instanceMethod yX4_init, Cond.code yX4_init cX4_init 2 none, Cond.methodLink RX4 3 objectInit, Cond.fieldLink RX4 9 "TurningTrees$Tree" "kind" "I", Cond.classLink RX4 15 RX3, Cond.instantiable RX3 7, Cond.initialized RX3, Cond.fieldLink RX4 18 "TurningTrees$Tree" "shape" "LTurningTrees$Shape;", Cond.classLink RX4 22 RX2, Cond.instantiable RX2 2, Cond.initialized RX2, Cond.fieldLink RX4 25 "TurningTrees$Tree" "row" "LTurningTrees$Row;", Cond.fieldLink RX4 29 "TurningTrees$Tree" "costs" "I"]
def wsL_law0_r5 : List Cond := [Cond.fieldLink RX4 32 "TurningTrees$Tree" "most" "I", Cond.methodLink RX4 17 yX3_init, Cond.instanceMethod yX3_init, Cond.code yX3_init cX3_init 1 none, Cond.methodLink RX3 3 objectInit, Cond.fieldLink RX3 9 "TurningTrees$Shape" "left" "[I", Cond.fieldLink RX3 15 "TurningTrees$Shape" "right" "[I", Cond.fieldLink RX3 18 "TurningTrees$Shape" "up" "[I", Cond.fieldLink RX3 21 "TurningTrees$Shape" "size" "[I", Cond.fieldLink RX3 24 "TurningTrees$Shape" "order" "[I", Cond.fieldLink RX3 33 "TurningTrees$Shape" "root" "I", Cond.fieldLink RX3 37 "TurningTrees$Shape" "turns" "I", Cond.methodLink RX3 27 yJ7_fill_53178, Cond.static yJ7_fill_53178, Cond.initialized RJ7, Cond.code yJ7_fill_53178 cJ7_fill_53178 4 none, Cond.methodLink RX4 24 yX2_init, Cond.instanceMethod yX2_init, Cond.code yX2_init cX2_init 1 none, Cond.methodLink RX2 3 objectInit, Cond.fieldLink RX2 9 "TurningTrees$Row" "keys" "[I", Cond.fieldLink RX2 15 "TurningTrees$Row" "length" "I", Cond.methodLink RL 30 yX6_tree, Cond.instanceMethod yX6_tree]
def wsL_law0_r6 : List Cond := [Cond.selects RX6 yX6_tree yX6_tree, Cond.code yX6_tree cX6_tree 2 (some .int), Cond.fieldLink RX6 77 "TurningTreesModel" "thrown" "I", Cond.fieldLink RX6 81 "TurningTreesModel" "trees" "I", Cond.methodLink RX6 84 yX6_newTree, Cond.instanceMethod yX6_newTree, Cond.selects RX6 yX6_newTree yX6_newTree, Cond.code yX6_newTree cX6_newTree 2 (some .int), Cond.methodLink RL 31 yX5_add, Cond.instanceMethod yX5_add, Cond.selects RX5 yX5_add yX5_add, Cond.code yX5_add cX5_add 4 (some .int), Cond.fieldLink RX5 55 "TurningTrees$Tree" "shape" "LTurningTrees$Shape;", Cond.methodLink RX5 47 yX5_treeOf, Cond.instanceMethod yX5_treeOf, Cond.selects RX5 yX5_treeOf yX5_treeOf, Cond.code yX5_treeOf cX5_treeOf 2 (some (.object "TurningTrees$Tree")), Cond.methodLink RX5 51 yX5_isKey, Cond.static yX5_isKey, Cond.code yX5_isKey cX5_isKey 1 (some .boolean), Cond.methodLink RX5 59 yX3_holds, Cond.instanceMethod yX3_holds, Cond.selects RX3 yX3_holds yX3_holds, Cond.code yX3_holds cX3_holds 2 (some .boolean)]
def wsL_law0_r7 : List Cond := [Cond.methodLink RX3 44 yX3_sizeOf, Cond.instanceMethod yX3_sizeOf, Cond.selects RX3 yX3_sizeOf yX3_sizeOf, Cond.code yX3_sizeOf cX3_sizeOf 2 (some .int), Cond.methodLink RX5 64 yX4_takeIn, Cond.instanceMethod yX4_takeIn, Cond.selects RX4 yX4_takeIn yX4_takeIn, Cond.code yX4_takeIn cX4_takeIn 4 (some .int), Cond.methodLink RX4 50 Lib.Math.max.name, Cond.static Lib.Math.max.name, Cond.initialized "java/lang/Math", Cond.code Lib.Math.max.name Lib.Math.max.code 2 (some .int), Cond.methodLink RX4 35 yX3_lastOnWay, Cond.instanceMethod yX3_lastOnWay, Cond.selects RX3 yX3_lastOnWay yX3_lastOnWay, Cond.code yX3_lastOnWay cX3_lastOnWay 5 (some .int), Cond.methodLink RX3 64 yX3_leftOf, Cond.instanceMethod yX3_leftOf, Cond.selects RX3 yX3_leftOf yX3_leftOf, Cond.code yX3_leftOf cX3_leftOf 2 (some .int), Cond.static yX5_at, Cond.code yX5_at cX5_at 2 (some .int), Cond.methodLink RX3 67 yX3_rightOf, Cond.instanceMethod yX3_rightOf]
def wsL_law0_r8 : List Cond := [Cond.selects RX3 yX3_rightOf yX3_rightOf, Cond.code yX3_rightOf cX3_rightOf 2 (some .int), Cond.methodLink RX4 39 yX3_depthOf, Cond.instanceMethod yX3_depthOf, Cond.selects RX3 yX3_depthOf yX3_depthOf, Cond.code yX3_depthOf cX3_depthOf 4 (some .int), Cond.methodLink RX3 48 yX3_holds, Cond.methodLink RX3 52 yX3_upOf, Cond.instanceMethod yX3_upOf, Cond.selects RX3 yX3_upOf yX3_upOf, Cond.code yX3_upOf cX3_upOf 2 (some .int), Cond.methodLink RX4 42 yX3_hangNew, Cond.instanceMethod yX3_hangNew, Cond.selects RX3 yX3_hangNew yX3_hangNew, Cond.code yX3_hangNew cX3_hangNew 3 none, Cond.methodLink RX3 80 yX3_hang, Cond.instanceMethod yX3_hang, Cond.selects RX3 yX3_hang yX3_hang, Cond.code yX3_hang cX3_hang 3 none, Cond.static yX5_put, Cond.code yX5_put cX5_put 3 none, Cond.methodLink RX3 84 yX3_resizeUpFrom, Cond.instanceMethod yX3_resizeUpFrom, Cond.selects RX3 yX3_resizeUpFrom yX3_resizeUpFrom]
def wsL_law0_r9 : List Cond := [Cond.code yX3_resizeUpFrom cX3_resizeUpFrom 4 none, Cond.methodLink RX3 91 yX3_resize, Cond.instanceMethod yX3_resize, Cond.selects RX3 yX3_resize yX3_resize, Cond.code yX3_resize cX3_resize 2 none, Cond.methodLink RX4 46 yX3_keysHeld, Cond.instanceMethod yX3_keysHeld, Cond.selects RX3 yX3_keysHeld yX3_keysHeld, Cond.code yX3_keysHeld cX3_keysHeld 1 (some .int), Cond.methodLink RX4 56 yX4_isTooDeep, Cond.static yX4_isTooDeep, Cond.code yX4_isTooDeep cX4_isTooDeep 7 (some .boolean), Cond.constantLong RX4 126 (3), Cond.constantLong RX4 128 (2), Cond.methodLink RX4 60 yX4_lopsidedAbove, Cond.instanceMethod yX4_lopsidedAbove, Cond.selects RX4 yX4_lopsidedAbove yX4_lopsidedAbove, Cond.code yX4_lopsidedAbove cX4_lopsidedAbove 4 (some .int), Cond.methodLink RX4 79 yX3_upOf, Cond.methodLink RX4 116 yX4_isLopsided, Cond.instanceMethod yX4_isLopsided, Cond.selects RX4 yX4_isLopsided yX4_isLopsided, Cond.code yX4_isLopsided cX4_isLopsided 3 (some .boolean), Cond.methodLink RX4 130 yX3_leftOf]
def wsL_law0_r10 : List Cond := [Cond.methodLink RX4 133 yX3_sizeOf, Cond.methodLink RX4 136 yX3_rightOf, Cond.methodLink RX4 63 yX4_evenOut, Cond.instanceMethod yX4_evenOut, Cond.selects RX4 yX4_evenOut yX4_evenOut, Cond.code yX4_evenOut cX4_evenOut 3 none, Cond.fieldLink RX4 85 "TurningTrees$Shape" "root" "I", Cond.methodLink RX4 120 yX3_makeEven, Cond.instanceMethod yX3_makeEven, Cond.selects RX3 yX3_makeEven yX3_makeEven, Cond.code yX3_makeEven cX3_makeEven 7 none, Cond.methodLink RX3 73 yX3_leastUnder, Cond.instanceMethod yX3_leastUnder, Cond.selects RX3 yX3_leastUnder yX3_leastUnder, Cond.code yX3_leastUnder cX3_leastUnder 4 (some .int), Cond.methodLink RX3 70 yX3_greatestUnder, Cond.instanceMethod yX3_greatestUnder, Cond.selects RX3 yX3_greatestUnder yX3_greatestUnder, Cond.code yX3_greatestUnder cX3_greatestUnder 4 (some .int), Cond.methodLink RX3 100 yX3_evenOf, Cond.static yX3_evenOf, Cond.code yX3_evenOf cX3_evenOf 6 (some .int), Cond.methodLink RX3 94 yX3_hangLeft, Cond.instanceMethod yX3_hangLeft]
def wsL_law0_r11 : List Cond := [Cond.selects RX3 yX3_hangLeft yX3_hangLeft, Cond.code yX3_hangLeft cX3_hangLeft 3 none, Cond.methodLink RX3 97 yX3_hangRight, Cond.instanceMethod yX3_hangRight, Cond.selects RX3 yX3_hangRight yX3_hangRight, Cond.code yX3_hangRight cX3_hangRight 3 none, Cond.methodLink RX4 123 yX4_beginMost, Cond.instanceMethod yX4_beginMost, Cond.selects RX4 yX4_beginMost yX4_beginMost, Cond.code yX4_beginMost cX4_beginMost 1 none, Cond.methodLink RX4 67 yX4_riseByWeight, Cond.instanceMethod yX4_riseByWeight, Cond.selects RX4 yX4_riseByWeight yX4_riseByWeight, Cond.code yX4_riseByWeight cX4_riseByWeight 4 none, Cond.static yX5_weight, Cond.code yX5_weight cX5_weight 1 (some .int), Cond.methodLink RX4 110 yX3_turn, Cond.instanceMethod yX3_turn, Cond.selects RX3 yX3_turn yX3_turn, Cond.code yX3_turn cX3_turn 4 none, Cond.methodLink RX4 70 yX4_act, Cond.instanceMethod yX4_act, Cond.selects RX4 yX4_act yX4_act, Cond.code yX4_act cX4_act 2 none]
def wsL_law0_r12 : List Cond := [Cond.methodLink RX4 107 yX4_splay, Cond.instanceMethod yX4_splay, Cond.selects RX4 yX4_splay yX4_splay, Cond.code yX4_splay cX4_splay 5 none, Cond.methodLink RX4 101 yX4_raiseToRoot, Cond.instanceMethod yX4_raiseToRoot, Cond.selects RX4 yX4_raiseToRoot yX4_raiseToRoot, Cond.code yX4_raiseToRoot cX4_raiseToRoot 3 none, Cond.methodLink RL 34 yX6_add, Cond.instanceMethod yX6_add, Cond.selects RX6 yX6_add yX6_add, Cond.code yX6_add cX6_add 6 (some .int), Cond.fieldLink RX6 148 "TurningTreesModel" "cost" "I", Cond.fieldLink RX6 151 "TurningTreesModel" "last" "I", Cond.methodLink RX6 154 yX6_isTree, Cond.instanceMethod yX6_isTree, Cond.selects RX6 yX6_isTree yX6_isTree, Cond.code yX6_isTree cX6_isTree 2 (some .boolean), Cond.methodLink RX6 158 yX6_isKey, Cond.static yX6_isKey, Cond.code yX6_isKey cX6_isKey 1 (some .boolean), Cond.methodLink RX6 161 yX6_goes, Cond.instanceMethod yX6_goes, Cond.selects RX6 yX6_goes yX6_goes]
def wsL_law0_r13 : List Cond := [Cond.code yX6_goes cX6_goes 4 (some .boolean), Cond.methodLink RX6 96 yX6_hangsLeft, Cond.instanceMethod yX6_hangsLeft, Cond.selects RX6 yX6_hangsLeft yX6_hangsLeft, Cond.code yX6_hangsLeft cX6_hangsLeft 4 none, Cond.methodLink RX6 99 yX6_hangsRight, Cond.instanceMethod yX6_hangsRight, Cond.selects RX6 yX6_hangsRight yX6_hangsRight, Cond.code yX6_hangsRight cX6_hangsRight 4 none, Cond.methodLink RX6 164 yX6_actsAdded, Cond.instanceMethod yX6_actsAdded, Cond.selects RX6 yX6_actsAdded yX6_actsAdded, Cond.code yX6_actsAdded cX6_actsAdded 3 none, Cond.methodLink RX6 112 yX6_acts, Cond.instanceMethod yX6_acts, Cond.selects RX6 yX6_acts yX6_acts, Cond.code yX6_acts cX6_acts 3 none, Cond.methodLink RX6 102 yX6_splays, Cond.instanceMethod yX6_splays, Cond.selects RX6 yX6_splays yX6_splays, Cond.code yX6_splays cX6_splays 5 none, Cond.methodLink RX6 106 yX6_turn, Cond.instanceMethod yX6_turn, Cond.selects RX6 yX6_turn yX6_turn]
def wsL_law0_r14 : List Cond := [Cond.code yX6_turn cX6_turn 4 none, Cond.methodLink RX6 92 yX6_takesPlace, Cond.instanceMethod yX6_takesPlace, Cond.selects RX6 yX6_takesPlace yX6_takesPlace, Cond.code yX6_takesPlace cX6_takesPlace 5 none, Cond.methodLink RX6 109 yX6_rises, Cond.instanceMethod yX6_rises, Cond.selects RX6 yX6_rises yX6_rises, Cond.code yX6_rises cX6_rises 3 none, Cond.methodLink RX6 115 yX6_balances, Cond.instanceMethod yX6_balances, Cond.selects RX6 yX6_balances yX6_balances, Cond.code yX6_balances cX6_balances 4 none, Cond.methodLink RX6 125 yX6_depthOf, Cond.instanceMethod yX6_depthOf, Cond.selects RX6 yX6_depthOf yX6_depthOf, Cond.code yX6_depthOf cX6_depthOf 5 (some .int), Cond.methodLink RX6 128 yX6_isDeep, Cond.static yX6_isDeep, Cond.code yX6_isDeep cX6_isDeep 8 (some .boolean), Cond.constantLong RX6 121 (3), Cond.constantLong RX6 123 (2), Cond.methodLink RX6 132 yX6_leans, Cond.instanceMethod yX6_leans]
def wsL_law0_r15 : List Cond := [Cond.selects RX6 yX6_leans yX6_leans, Cond.code yX6_leans cX6_leans 4 (some .boolean), Cond.methodLink RX6 88 yX6_sizeOf, Cond.instanceMethod yX6_sizeOf, Cond.selects RX6 yX6_sizeOf yX6_sizeOf, Cond.code yX6_sizeOf cX6_sizeOf 3 (some .int), Cond.methodLink RX6 135 yX6_makesEven, Cond.instanceMethod yX6_makesEven, Cond.selects RX6 yX6_makesEven yX6_makesEven, Cond.code yX6_makesEven cX6_makesEven 6 none, Cond.fieldLink RX6 141 "TurningTreesModel" "sortedMany" "I", Cond.methodLink RX6 138 yX6_sorts, Cond.instanceMethod yX6_sorts, Cond.selects RX6 yX6_sorts yX6_sorts, Cond.code yX6_sorts cX6_sorts 3 none, Cond.methodLink RX6 144 yX6_even, Cond.instanceMethod yX6_even, Cond.selects RX6 yX6_even yX6_even, Cond.code yX6_even cX6_even 5 (some .int), Cond.methodLink RX6 118 yX6_weight, Cond.static yX6_weight, Cond.code yX6_weight cX6_weight 1 (some .int), Cond.methodLink RL 35 yL_ask, Cond.static yL_ask]
def wsL_law0_r16 : List Cond := [Cond.initialized RL, Cond.codeWith yL_ask cL_ask 5 (some .int) [(0, 10, 13, 13)], Cond.classLink RL 13 "java/util/NoSuchElementException", Cond.methodLink RL 7 yX5_ask, Cond.instanceMethod yX5_ask, Cond.selects RX5 yX5_ask yX5_ask, Cond.code yX5_ask cX5_ask 4 (some .int), Cond.classLink RX5 67 "java/util/NoSuchElementException", Cond.initialized "java/util/NoSuchElementException", Cond.methodLink RX5 74 yX4_seek, Cond.instanceMethod yX4_seek, Cond.selects RX4 yX4_seek yX4_seek, Cond.code yX4_seek cX4_seek 4 (some .int), Cond.methodLink RX4 73 yX2_write, Cond.instanceMethod yX2_write, Cond.selects RX2 yX2_write yX2_write, Cond.code yX2_write cX2_write 2 none, Cond.methodLink RL 40 yX6_ask, Cond.instanceMethod yX6_ask, Cond.selects RX6 yX6_ask yX6_ask, Cond.code yX6_ask cX6_ask 4 (some .int), Cond.methodLink RL 41 yX6_thrown, Cond.instanceMethod yX6_thrown, Cond.selects RX6 yX6_thrown yX6_thrown]
def wsL_law0_r17 : List Cond := [Cond.code yX6_thrown cX6_thrown 1 (some .int), Cond.methodLink RL 45 yL_remove, Cond.static yL_remove, Cond.codeWith yL_remove cL_remove 5 (some .int) [(0, 10, 13, 13)], Cond.methodLink RL 15 yX5_remove, Cond.instanceMethod yX5_remove, Cond.selects RX5 yX5_remove yX5_remove, Cond.code yX5_remove cX5_remove 4 (some .int), Cond.methodLink RX5 77 yX4_giveUp, Cond.instanceMethod yX4_giveUp, Cond.selects RX4 yX4_giveUp yX4_giveUp, Cond.code yX4_giveUp cX4_giveUp 5 (some .int), Cond.methodLink RX4 76 yX4_sink, Cond.instanceMethod yX4_sink, Cond.selects RX4 yX4_sink yX4_sink, Cond.code yX4_sink cX4_sink 3 none, Cond.methodLink RX4 139 yX4_childToTurn, Cond.instanceMethod yX4_childToTurn, Cond.selects RX4 yX4_childToTurn yX4_childToTurn, Cond.code yX4_childToTurn cX4_childToTurn 4 (some .int), Cond.methodLink RX4 82 yX3_takeOff, Cond.instanceMethod yX3_takeOff, Cond.selects RX3 yX3_takeOff yX3_takeOff, Cond.code yX3_takeOff cX3_takeOff 3 none]
def wsL_law0_r18 : List Cond := [Cond.methodLink RX3 88 yX3_forget, Cond.instanceMethod yX3_forget, Cond.selects RX3 yX3_forget yX3_forget, Cond.code yX3_forget cX3_forget 2 none, Cond.methodLink RL 47 yX6_remove, Cond.instanceMethod yX6_remove, Cond.selects RX6 yX6_remove yX6_remove, Cond.code yX6_remove cX6_remove 6 (some .int), Cond.methodLink RX6 167 yX6_heir, Cond.instanceMethod yX6_heir, Cond.selects RX6 yX6_heir yX6_heir, Cond.code yX6_heir cX6_heir 6 (some .int), Cond.methodLink RL 48 yX5_split, Cond.instanceMethod yX5_split, Cond.selects RX5 yX5_split yX5_split, Cond.code yX5_split cX5_split 6 (some .int), Cond.fieldLink RX5 80 "TurningTrees$Tree" "kind" "I", Cond.methodLink RX5 83 yX3_cutAt, Cond.instanceMethod yX3_cutAt, Cond.selects RX3 yX3_cutAt yX3_cutAt, Cond.code yX3_cutAt cX3_cutAt 8 none, Cond.methodLink RX3 104 yX3_moveKeys, Cond.instanceMethod yX3_moveKeys, Cond.selects RX3 yX3_moveKeys yX3_moveKeys]
def wsL_law0_r19 : List Cond := [Cond.code yX3_moveKeys cX3_moveKeys 4 none, Cond.methodLink RX5 87 yX4_beginMost, Cond.methodLink RL 51 yX6_split, Cond.instanceMethod yX6_split, Cond.selects RX6 yX6_split yX6_split, Cond.code yX6_split cX6_split 6 (some .int), Cond.methodLink RX6 170 yX6_nearest, Cond.instanceMethod yX6_nearest, Cond.selects RX6 yX6_nearest yX6_nearest, Cond.code yX6_nearest cX6_nearest 5 (some .int), Cond.methodLink RL 52 yX5_join, Cond.instanceMethod yX5_join, Cond.selects RX5 yX5_join yX5_join, Cond.code yX5_join cX5_join 5 (some .boolean), Cond.methodLink RX5 90 yX3_isBelow, Cond.instanceMethod yX3_isBelow, Cond.selects RX3 yX3_isBelow yX3_isBelow, Cond.code yX3_isBelow cX3_isBelow 2 (some .boolean), Cond.methodLink RX5 94 yX4_takeOver, Cond.instanceMethod yX4_takeOver, Cond.selects RX4 yX4_takeOver yX4_takeOver, Cond.code yX4_takeOver cX4_takeOver 5 none, Cond.methodLink RX4 88 yX3_moveKeys, Cond.methodLink RX4 92 yX3_hang]
def wsL_law0_r20 : List Cond := [Cond.methodLink RX4 95 yX4_mergeByWeight, Cond.instanceMethod yX4_mergeByWeight, Cond.selects RX4 yX4_mergeByWeight yX4_mergeByWeight, Cond.code yX4_mergeByWeight cX4_mergeByWeight 7 none, Cond.methodLink RX4 104 yX3_resizeUpFrom, Cond.methodLink RX4 98 yX3_greatestUnder, Cond.methodLink RL 56 yX6_join, Cond.instanceMethod yX6_join, Cond.selects RX6 yX6_join yX6_join, Cond.code yX6_join cX6_join 6 (some .boolean), Cond.methodLink RX6 176 yX6_greatest, Cond.instanceMethod yX6_greatest, Cond.selects RX6 yX6_greatest yX6_greatest, Cond.code yX6_greatest cX6_greatest 3 (some .int), Cond.methodLink RX6 179 yX6_smallest, Cond.instanceMethod yX6_smallest, Cond.selects RX6 yX6_smallest yX6_smallest, Cond.code yX6_smallest cX6_smallest 3 (some .int), Cond.methodLink RX6 173 yX6_heaps, Cond.instanceMethod yX6_heaps, Cond.selects RX6 yX6_heaps yX6_heaps, Cond.code yX6_heaps cX6_heaps 4 (some .int), Cond.methodLink RL 57 yX5_clear, Cond.instanceMethod yX5_clear]
def wsL_law0_r21 : List Cond := [Cond.selects RX5 yX5_clear yX5_clear, Cond.code yX5_clear cX5_clear 3 (some .int), Cond.fieldLink RX5 98 "TurningTrees$Tree" "row" "LTurningTrees$Row;", Cond.methodLink RX5 102 yX2_wipe, Cond.instanceMethod yX2_wipe, Cond.selects RX2 yX2_wipe yX2_wipe, Cond.code yX2_wipe cX2_wipe 2 (some .int), Cond.methodLink RL 60 yX6_clear, Cond.instanceMethod yX6_clear, Cond.selects RX6 yX6_clear yX6_clear, Cond.code yX6_clear cX6_clear 3 (some .int), Cond.methodLink RL 61 yL_look, Cond.static yL_look, Cond.codeWith yL_look cL_look 6 (some .int) [(0, 12, 15, 13)], Cond.methodLink RL 18 yX5_look, Cond.instanceMethod yX5_look, Cond.selects RX5 yX5_look yX5_look, Cond.code yX5_look cX5_look 5 (some .int), Cond.methodLink RX5 110 yX3_depthOf, Cond.methodLink RX5 113 yX3_upOf, Cond.methodLink RX5 116 yX3_leftOf, Cond.methodLink RX5 119 yX3_rightOf, Cond.methodLink RX5 122 yX3_sizeOf, Cond.methodLink RL 64 yX6_look]
def wsL_law0_r22 : List Cond := [Cond.instanceMethod yX6_look, Cond.selects RX6 yX6_look yX6_look, Cond.code yX6_look cX6_look 5 (some .int), Cond.methodLink RL 65 yX5_count, Cond.instanceMethod yX5_count, Cond.selects RX5 yX5_count yX5_count, Cond.code yX5_count cX5_count 4 (some .int), Cond.fieldLink RX5 130 "TurningTrees$Shape" "root" "I", Cond.fieldLink RX5 136 "TurningTrees$Shape" "turns" "I", Cond.fieldLink RX5 139 "TurningTrees$Tree" "costs" "I", Cond.fieldLink RX5 142 "TurningTrees$Row" "length" "I", Cond.fieldLink RX5 148 "TurningTrees$Tree" "most" "I", Cond.methodLink RX5 127 yX3_keysHeld, Cond.methodLink RX5 133 yX3_greatestDepth, Cond.instanceMethod yX3_greatestDepth, Cond.selects RX3 yX3_greatestDepth yX3_greatestDepth, Cond.code yX3_greatestDepth cX3_greatestDepth 3 (some .int), Cond.methodLink RX3 58 Lib.Math.max.name, Cond.methodLink RX3 55 yX3_depthOf, Cond.methodLink RX5 145 yX3_potential, Cond.instanceMethod yX3_potential, Cond.selects RX3 yX3_potential yX3_potential, Cond.code yX3_potential cX3_potential 4 (some .int), Cond.methodLink RL 68 yX6_count]
def wsL_law0_r23 : List Cond := [Cond.instanceMethod yX6_count, Cond.selects RX6 yX6_count yX6_count, Cond.code yX6_count cX6_count 3 (some .int), Cond.methodLink RX6 182 yX6_deepest, Cond.instanceMethod yX6_deepest, Cond.selects RX6 yX6_deepest yX6_deepest, Cond.code yX6_deepest cX6_deepest 5 (some .int), Cond.methodLink RX6 185 yX6_potential, Cond.instanceMethod yX6_potential, Cond.selects RX6 yX6_potential yX6_potential, Cond.code yX6_potential cX6_potential 5 (some .int), Cond.methodLink RL 69 yX5_best, Cond.instanceMethod yX5_best, Cond.selects RX5 yX5_best yX5_best, Cond.code yX5_best cX5_best 4 (some .int), Cond.fieldLink RX5 155 "TurningTrees$BestStill" "sum" "I", Cond.fieldLink RX5 158 "TurningTrees$BestStill" "root" "I", Cond.methodLink RX5 151 yX0_workOut, Cond.instanceMethod yX0_workOut, Cond.selects RX0 yX0_workOut yX0_workOut, Cond.code yX0_workOut cX0_workOut 6 none, Cond.methodLink RX0 34 yX0_countAsks, Cond.instanceMethod yX0_countAsks, Cond.selects RX0 yX0_countAsks yX0_countAsks]
def wsL_law0_r24 : List Cond := [Cond.code yX0_countAsks cX0_countAsks 4 none, Cond.fieldLink RX0 56 "TurningTrees$Row" "length" "I", Cond.methodLink RX0 50 yJ7_fill_53178, Cond.methodLink RX0 61 yX2_keyAt, Cond.instanceMethod yX2_keyAt, Cond.selects RX2 yX2_keyAt yX2_keyAt, Cond.code yX2_keyAt cX2_keyAt 2 (some .int), Cond.methodLink RX0 38 yX0_gatherKeys, Cond.instanceMethod yX0_gatherKeys, Cond.selects RX0 yX0_gatherKeys yX0_gatherKeys, Cond.code yX0_gatherKeys cX0_gatherKeys 4 (some .int), Cond.methodLink RX0 69 yX3_holds, Cond.methodLink RX0 42 yX0_settle, Cond.instanceMethod yX0_settle, Cond.selects RX0 yX0_settle yX0_settle, Cond.code yX0_settle cX0_settle 5 none, Cond.methodLink RX0 75 yX0_lowestTop, Cond.instanceMethod yX0_lowestTop, Cond.selects RX0 yX0_lowestTop yX0_lowestTop, Cond.code yX0_lowestTop cX0_lowestTop 10 (some .int), Cond.methodLink RX0 79 yX0_sumBelow, Cond.instanceMethod yX0_sumBelow, Cond.selects RX0 yX0_sumBelow yX0_sumBelow, Cond.code yX0_sumBelow cX0_sumBelow 4 (some .int)]
def wsL_law0_r25 : List Cond := [Cond.methodLink RL 72 yX6_best, Cond.instanceMethod yX6_best, Cond.selects RX6 yX6_best yX6_best, Cond.code yX6_best cX6_best 6 (some .int), Cond.methodLink RX6 188 yX6_bestOf, Cond.instanceMethod yX6_bestOf, Cond.selects RX6 yX6_bestOf yX6_bestOf, Cond.code yX6_bestOf cX6_bestOf 7 none, Cond.methodLink RL 73 yX5_interleave, Cond.instanceMethod yX5_interleave, Cond.selects RX5 yX5_interleave yX5_interleave, Cond.code yX5_interleave cX5_interleave 3 (some .int), Cond.methodLink RX5 159 yX2_changesOfHalf, Cond.instanceMethod yX2_changesOfHalf, Cond.selects RX2 yX2_changesOfHalf yX2_changesOfHalf, Cond.code yX2_changesOfHalf cX2_changesOfHalf 4 (some .int), Cond.methodLink RX2 27 yJ7_fill_53178, Cond.methodLink RX2 33 yX2_changesInSpans, Cond.instanceMethod yX2_changesInSpans, Cond.selects RX2 yX2_changesInSpans yX2_changesInSpans, Cond.code yX2_changesInSpans cX2_changesInSpans 8 (some .int), Cond.methodLink RX2 37 yX2_keyAt, Cond.methodLink RL 76 yX6_interleave, Cond.instanceMethod yX6_interleave]
def wsL_law0_r26 : List Cond := [Cond.selects RX6 yX6_interleave yX6_interleave, Cond.code yX6_interleave cX6_interleave 8 (some .int), Cond.methodLink RL 77 yX5_sweep, Cond.instanceMethod yX5_sweep, Cond.selects RX5 yX5_sweep yX5_sweep, Cond.code yX5_sweep cX5_sweep 3 (some .int), Cond.methodLink RX5 163 yX2_touches, Cond.instanceMethod yX2_touches, Cond.selects RX2 yX2_touches yX2_touches, Cond.code yX2_touches cX2_touches 5 (some .int), Cond.methodLink RX2 41 yX2_touchesToSide, Cond.static yX2_touchesToSide, Cond.code yX2_touchesToSide cX2_touchesToSide 9 (some .int), Cond.methodLink RL 80 yX6_sweep, Cond.instanceMethod yX6_sweep, Cond.selects RX6 yX6_sweep yX6_sweep, Cond.code yX6_sweep cX6_sweep 6 (some .int), Cond.methodLink RX6 191 yX6_touches, Cond.instanceMethod yX6_touches, Cond.selects RX6 yX6_touches yX6_touches, Cond.code yX6_touches cX6_touches 6 (some .int), Cond.methodLink RL 81 yX5_pages, Cond.instanceMethod yX5_pages, Cond.selects RX5 yX5_pages yX5_pages]
def wsL_law0_r27 : List Cond := [Cond.code yX5_pages cX5_pages 5 (some .int), Cond.methodLink RX5 166 yX1_countOnWay, Cond.instanceMethod yX1_countOnWay, Cond.selects RX1 yX1_countOnWay yX1_countOnWay, Cond.code yX1_countOnWay cX1_countOnWay 6 (some .int), Cond.fieldLink RX1 19 "TurningTrees$Shape" "root" "I", Cond.methodLink RX1 24 yX1_fill, Cond.instanceMethod yX1_fill, Cond.selects RX1 yX1_fill yX1_fill, Cond.code yX1_fill cX1_fill 5 none, Cond.methodLink RX1 36 yX1_take, Cond.instanceMethod yX1_take, Cond.selects RX1 yX1_take yX1_take, Cond.code yX1_take cX1_take 3 none, Cond.methodLink RX1 44 yX3_leftOf, Cond.methodLink RX1 48 yX3_rightOf, Cond.methodLink RX1 28 yX1_has, Cond.instanceMethod yX1_has, Cond.selects RX1 yX1_has yX1_has, Cond.code yX1_has cX1_has 3 (some .boolean), Cond.methodLink RX1 32 yX1_startOfNext, Cond.instanceMethod yX1_startOfNext, Cond.selects RX1 yX1_startOfNext yX1_startOfNext, Cond.code yX1_startOfNext cX1_startOfNext 6 (some .int)]
def wsL_law0_r28 : List Cond := [Cond.methodLink RX1 55 yX3_upOf, Cond.methodLink RL 84 yX6_pages, Cond.instanceMethod yX6_pages, Cond.selects RX6 yX6_pages yX6_pages, Cond.code yX6_pages cX6_pages 6 (some .int), Cond.methodLink RX6 194 yX6_lays, Cond.instanceMethod yX6_lays, Cond.selects RX6 yX6_lays yX6_lays, Cond.code yX6_lays cX6_lays 8 none, Cond.methodLink RL 85 yX5_keep, Cond.instanceMethod yX5_keep, Cond.selects RX5 yX5_keep yX5_keep, Cond.code yX5_keep cX5_keep 4 (some .int), Cond.methodLink RX5 170 yX5_put, Cond.methodLink RL 88 yX6_keep, Cond.instanceMethod yX6_keep, Cond.selects RX6 yX6_keep yX6_keep, Cond.code yX6_keep cX6_keep 3 (some .int), Cond.fieldLink RX6 197 "TurningTreesModel" "keeps" "I", Cond.methodLink RL 89 yX5_kept, Cond.instanceMethod yX5_kept, Cond.selects RX5 yX5_kept yX5_kept, Cond.code yX5_kept cX5_kept 3 (some .int), Cond.methodLink RX5 174 yX5_at]
def wsL_law0_r29 : List Cond := [Cond.methodLink RL 92 yX6_kept, Cond.instanceMethod yX6_kept, Cond.selects RX6 yX6_kept yX6_kept, Cond.code yX6_kept cX6_kept 3 (some .int)]
def wsL_law0 : List Cond := (wsL_law0_r1 ++ (wsL_law0_r2 ++ (wsL_law0_r3 ++ (wsL_law0_r4 ++ (wsL_law0_r5 ++ (wsL_law0_r6 ++ (wsL_law0_r7 ++ (wsL_law0_r8 ++ (wsL_law0_r9 ++ (wsL_law0_r10 ++ (wsL_law0_r11 ++ (wsL_law0_r12 ++ (wsL_law0_r13 ++ (wsL_law0_r14 ++ (wsL_law0_r15 ++ (wsL_law0_r16 ++ (wsL_law0_r17 ++ (wsL_law0_r18 ++ (wsL_law0_r19 ++ (wsL_law0_r20 ++ (wsL_law0_r21 ++ (wsL_law0_r22 ++ (wsL_law0_r23 ++ (wsL_law0_r24 ++ (wsL_law0_r25 ++ (wsL_law0_r26 ++ (wsL_law0_r27 ++ (wsL_law0_r28 ++ wsL_law0_r29)))))))))))))))))))))))))))) ++ wsX50 ++ wsX60 ++ wsX10 ++ wsX00 ++ wsX40 ++ wsX30 ++ wsX20 ++ ([] : List Cond)
def wsL_law : List Cond := wsL_law0 ++ at13.filter goodWord
theorem inlX0 : ∀ w ∈ wsX00, w ∈ wsL_law := fun _ h => List.mem_append_left _ (List.mem_append_left _ (List.mem_append_left _ (List.mem_append_left _ (List.mem_append_left _ (List.mem_append_right _ h)))))
theorem inlX1 : ∀ w ∈ wsX10, w ∈ wsL_law := fun _ h => List.mem_append_left _ (List.mem_append_left _ (List.mem_append_left _ (List.mem_append_left _ (List.mem_append_left _ (List.mem_append_left _ (List.mem_append_right _ h))))))
theorem inlX2 : ∀ w ∈ wsX20, w ∈ wsL_law := fun _ h => List.mem_append_left _ (List.mem_append_left _ (List.mem_append_right _ h))
theorem inlX3 : ∀ w ∈ wsX30, w ∈ wsL_law := fun _ h => List.mem_append_left _ (List.mem_append_left _ (List.mem_append_left _ (List.mem_append_right _ h)))
theorem inlX4 : ∀ w ∈ wsX40, w ∈ wsL_law := fun _ h => List.mem_append_left _ (List.mem_append_left _ (List.mem_append_left _ (List.mem_append_left _ (List.mem_append_right _ h))))
theorem inlX5 : ∀ w ∈ wsX50, w ∈ wsL_law := fun _ h => List.mem_append_left _ (List.mem_append_left _ (List.mem_append_left _ (List.mem_append_left _ (List.mem_append_left _ (List.mem_append_left _ (List.mem_append_left _ (List.mem_append_left _ (List.mem_append_right _ h))))))))
theorem inlX6 : ∀ w ∈ wsX60, w ∈ wsL_law := fun _ h => List.mem_append_left _ (List.mem_append_left _ (List.mem_append_left _ (List.mem_append_left _ (List.mem_append_left _ (List.mem_append_left _ (List.mem_append_left _ (List.mem_append_right _ h)))))))
theorem dX0_init_0 : decode cX0_init 0 = .ok (.aload_n 0, 1) := by decide +kernel
theorem dX0_init_1 : decode cX0_init 1 = .ok (.invokespecial 3, 3) := by decide +kernel
theorem dX0_init_4 : decode cX0_init 4 = .ok (.aload_n 0, 1) := by decide +kernel
theorem dX0_init_5 : decode cX0_init 5 = .ok (.bipush 64, 2) := by decide +kernel
theorem dX0_init_7 : decode cX0_init 7 = .ok (.newarray .int, 2) := by decide +kernel
theorem dX0_init_9 : decode cX0_init 9 = .ok (.putfield 9, 3) := by decide +kernel
theorem dX0_init_12 : decode cX0_init 12 = .ok (.aload_n 0, 1) := by decide +kernel
theorem dX0_init_13 : decode cX0_init 13 = .ok (.bipush 64, 2) := by decide +kernel
theorem dX0_init_15 : decode cX0_init 15 = .ok (.newarray .int, 2) := by decide +kernel
theorem dX0_init_17 : decode cX0_init 17 = .ok (.putfield 15, 3) := by decide +kernel
theorem dX0_init_20 : decode cX0_init 20 = .ok (.aload_n 0, 1) := by decide +kernel
theorem dX0_init_21 : decode cX0_init 21 = .ok (.bipush 65, 2) := by decide +kernel
theorem dX0_init_23 : decode cX0_init 23 = .ok (.newarray .int, 2) := by decide +kernel
theorem dX0_init_25 : decode cX0_init 25 = .ok (.putfield 18, 3) := by decide +kernel
theorem dX0_init_28 : decode cX0_init 28 = .ok (.aload_n 0, 1) := by decide +kernel
theorem dX0_init_29 : decode cX0_init 29 = .ok (.sipush 4225, 3) := by decide +kernel
theorem dX0_init_32 : decode cX0_init 32 = .ok (.newarray .int, 2) := by decide +kernel
theorem dX0_init_34 : decode cX0_init 34 = .ok (.putfield 21, 3) := by decide +kernel
theorem dX0_init_37 : decode cX0_init 37 = .ok (.aload_n 0, 1) := by decide +kernel
theorem dX0_init_38 : decode cX0_init 38 = .ok (.bipush 64, 2) := by decide +kernel
theorem dX0_init_40 : decode cX0_init 40 = .ok (.newarray .int, 2) := by decide +kernel
theorem dX0_init_42 : decode cX0_init 42 = .ok (.putfield 24, 3) := by decide +kernel
theorem dX0_init_45 : decode cX0_init 45 = .ok (.aload_n 0, 1) := by decide +kernel
theorem dX0_init_46 : decode cX0_init 46 = .ok (.iconst 0, 1) := by decide +kernel
theorem dX0_init_47 : decode cX0_init 47 = .ok (.putfield 27, 3) := by decide +kernel
theorem dX0_init_50 : decode cX0_init 50 = .ok (.aload_n 0, 1) := by decide +kernel
theorem dX0_init_51 : decode cX0_init 51 = .ok (.iconst (-1), 1) := by decide +kernel
theorem dX0_init_52 : decode cX0_init 52 = .ok (.putfield 31, 3) := by decide +kernel
theorem dX0_init_55 : decode cX0_init 55 = .ok (.return_, 1) := by decide +kernel
set_option maxRecDepth 20000 in
theorem ggX0_workOut_X0_countAsks : GoodIn wsX0_workOut wsX0_countAsks := goodIn_r _ [10, 11, 12, 13, 14, 15, 16, 17, 18, 19, 20, 21, 22, 23, 24, 25, 26, 27, 55, 56, 57, 58, 59, 60, 61, 62, 63] (by decide +kernel) (by decide +kernel)
set_option maxRecDepth 20000 in
theorem gX0_workOut_X0_countAsks : GoodIn wsX0_workOut (wsV RX0 34 RX0 yX0_countAsks wsX0_countAsks) := goodIn_app (goodIn_of _ (by decide +kernel)) ggX0_workOut_X0_countAsks
set_option maxRecDepth 20000 in
theorem ggX0_workOut_X0_gatherKeys : GoodIn wsX0_workOut wsX0_gatherKeys := goodIn_r _ [31, 3, 32, 11, 33, 34, 35, 36, 37, 38, 39, 40, 41, 42, 26, 24, 27, 23, 25, 55, 56, 57, 58, 59, 60, 61, 64, 65, 66, 67, 68, 69, 70] (by decide +kernel) (by decide +kernel)
set_option maxRecDepth 20000 in
theorem gX0_workOut_X0_gatherKeys : GoodIn wsX0_workOut (wsV RX0 38 RX0 yX0_gatherKeys wsX0_gatherKeys) := goodIn_app (goodIn_of _ (by decide +kernel)) ggX0_workOut_X0_gatherKeys
set_option maxRecDepth 20000 in
theorem ggX0_workOut_X0_settle : GoodIn wsX0_workOut wsX0_settle := goodIn_r _ [46, 32, 1, 4, 47, 48, 49, 9, 50, 23, 24, 25, 51, 52, 53, 54, 26, 27, 55, 56, 57, 58, 59, 60, 61] (by decide +kernel) (by decide +kernel)
set_option maxRecDepth 20000 in
theorem gX0_workOut_X0_settle : GoodIn wsX0_workOut (wsV RX0 42 RX0 yX0_settle wsX0_settle) := goodIn_app (goodIn_of _ (by decide +kernel)) ggX0_workOut_X0_settle
set_option maxRecDepth 20000 in
theorem ggX0_workOut_X5_at : GoodIn wsX0_workOut wsX5_at := goodIn_r _ [25] (by decide +kernel) (by decide +kernel)
set_option maxRecDepth 20000 in
theorem gX0_workOut_X5_at_n46 : GoodIn wsX0_workOut (wsX5_at) := ggX0_workOut_X5_at
theorem dX0_workOut_0 : decode cX0_workOut 0 = .ok (.aload_n 0, 1) := by decide +kernel
theorem dX0_workOut_1 : decode cX0_workOut 1 = .ok (.aload_n 2, 1) := by decide +kernel
theorem dX0_workOut_2 : decode cX0_workOut 2 = .ok (.invokevirtual 34, 3) := by decide +kernel
theorem dX0_workOut_5 : decode cX0_workOut 5 = .ok (.aload_n 0, 1) := by decide +kernel
theorem dX0_workOut_6 : decode cX0_workOut 6 = .ok (.aload_n 1, 1) := by decide +kernel
theorem dX0_workOut_7 : decode cX0_workOut 7 = .ok (.invokevirtual 38, 3) := by decide +kernel
theorem dX0_workOut_10 : decode cX0_workOut 10 = .ok (.istore_n 3, 1) := by decide +kernel
theorem dX0_workOut_11 : decode cX0_workOut 11 = .ok (.iconst 1, 1) := by decide +kernel
theorem dX0_workOut_12 : decode cX0_workOut 12 = .ok (.istore 4, 2) := by decide +kernel
theorem dX0_workOut_14 : decode cX0_workOut 14 = .ok (.iload 4, 2) := by decide +kernel
theorem dX0_workOut_16 : decode cX0_workOut 16 = .ok (.iload_n 3, 1) := by decide +kernel
theorem dX0_workOut_17 : decode cX0_workOut 17 = .ok (.if_icmp .gt 52, 3) := by decide +kernel
theorem dX0_workOut_20 : decode cX0_workOut 20 = .ok (.iload 4, 2) := by decide +kernel
theorem dX0_workOut_22 : decode cX0_workOut 22 = .ok (.bipush 64, 2) := by decide +kernel
theorem dX0_workOut_24 : decode cX0_workOut 24 = .ok (.if_icmp .gt 45, 3) := by decide +kernel
theorem dX0_workOut_27 : decode cX0_workOut 27 = .ok (.iconst 0, 1) := by decide +kernel
theorem dX0_workOut_28 : decode cX0_workOut 28 = .ok (.istore 5, 2) := by decide +kernel
theorem dX0_workOut_30 : decode cX0_workOut 30 = .ok (.iload 5, 2) := by decide +kernel
theorem dX0_workOut_32 : decode cX0_workOut 32 = .ok (.iload 4, 2) := by decide +kernel
theorem dX0_workOut_34 : decode cX0_workOut 34 = .ok (.iadd, 1) := by decide +kernel
theorem dX0_workOut_35 : decode cX0_workOut 35 = .ok (.iload_n 3, 1) := by decide +kernel
theorem dX0_workOut_36 : decode cX0_workOut 36 = .ok (.if_icmp .gt 27, 3) := by decide +kernel
theorem dX0_workOut_39 : decode cX0_workOut 39 = .ok (.iload 5, 2) := by decide +kernel
theorem dX0_workOut_41 : decode cX0_workOut 41 = .ok (.bipush 64, 2) := by decide +kernel
theorem dX0_workOut_43 : decode cX0_workOut 43 = .ok (.if_icmp .ge 20, 3) := by decide +kernel
theorem dX0_workOut_46 : decode cX0_workOut 46 = .ok (.aload_n 0, 1) := by decide +kernel
theorem dX0_workOut_47 : decode cX0_workOut 47 = .ok (.iload 5, 2) := by decide +kernel
theorem dX0_workOut_49 : decode cX0_workOut 49 = .ok (.iload 5, 2) := by decide +kernel
theorem dX0_workOut_51 : decode cX0_workOut 51 = .ok (.iload 4, 2) := by decide +kernel
theorem dX0_workOut_53 : decode cX0_workOut 53 = .ok (.iadd, 1) := by decide +kernel
theorem dX0_workOut_54 : decode cX0_workOut 54 = .ok (.invokevirtual 42, 3) := by decide +kernel
theorem dX0_workOut_57 : decode cX0_workOut 57 = .ok (.iinc 5 1, 3) := by decide +kernel
theorem dX0_workOut_60 : decode cX0_workOut 60 = .ok (.goto (-30), 3) := by decide +kernel
theorem dX0_workOut_63 : decode cX0_workOut 63 = .ok (.iinc 4 1, 3) := by decide +kernel
theorem dX0_workOut_66 : decode cX0_workOut 66 = .ok (.goto (-52), 3) := by decide +kernel
theorem dX0_workOut_69 : decode cX0_workOut 69 = .ok (.aload_n 0, 1) := by decide +kernel
theorem dX0_workOut_70 : decode cX0_workOut 70 = .ok (.aload_n 0, 1) := by decide +kernel
theorem dX0_workOut_71 : decode cX0_workOut 71 = .ok (.getfield 21, 3) := by decide +kernel
theorem dX0_workOut_74 : decode cX0_workOut 74 = .ok (.iload_n 3, 1) := by decide +kernel
theorem dX0_workOut_75 : decode cX0_workOut 75 = .ok (.invokestatic 46, 3) := by decide +kernel
theorem dX0_workOut_78 : decode cX0_workOut 78 = .ok (.putfield 27, 3) := by decide +kernel
theorem dX0_workOut_81 : decode cX0_workOut 81 = .ok (.aload_n 0, 1) := by decide +kernel
theorem dX0_workOut_82 : decode cX0_workOut 82 = .ok (.iload_n 3, 1) := by decide +kernel
theorem dX0_workOut_83 : decode cX0_workOut 83 = .ok (.ifCond .ne 7, 3) := by decide +kernel
theorem dX0_workOut_86 : decode cX0_workOut 86 = .ok (.iconst (-1), 1) := by decide +kernel
theorem dX0_workOut_87 : decode cX0_workOut 87 = .ok (.goto 18, 3) := by decide +kernel
theorem dX0_workOut_90 : decode cX0_workOut 90 = .ok (.aload_n 0, 1) := by decide +kernel
theorem dX0_workOut_91 : decode cX0_workOut 91 = .ok (.getfield 9, 3) := by decide +kernel
theorem dX0_workOut_94 : decode cX0_workOut 94 = .ok (.aload_n 0, 1) := by decide +kernel
theorem dX0_workOut_95 : decode cX0_workOut 95 = .ok (.getfield 24, 3) := by decide +kernel
theorem dX0_workOut_98 : decode cX0_workOut 98 = .ok (.iconst 0, 1) := by decide +kernel
theorem dX0_workOut_99 : decode cX0_workOut 99 = .ok (.invokestatic 46, 3) := by decide +kernel
theorem dX0_workOut_102 : decode cX0_workOut 102 = .ok (.invokestatic 46, 3) := by decide +kernel
theorem dX0_workOut_105 : decode cX0_workOut 105 = .ok (.putfield 31, 3) := by decide +kernel
theorem dX0_workOut_108 : decode cX0_workOut 108 = .ok (.return_, 1) := by decide +kernel
set_option maxRecDepth 20000 in
theorem ggX0_countAsks_J7_fill_53178 : GoodIn wsX0_countAsks wsJ7_fill_53178 := goodIn_r _ [6] (by decide +kernel) (by decide +kernel)
set_option maxRecDepth 20000 in
theorem gX0_countAsks_J7_fill_53178 : GoodIn wsX0_countAsks (va_wsS RX0 50 yJ7_fill_53178 wsJ7_fill_53178) := goodIn_app (goodIn_of _ (by decide +kernel)) ggX0_countAsks_J7_fill_53178
set_option maxRecDepth 20000 in
theorem ggX0_countAsks_X2_keyAt : GoodIn wsX0_countAsks wsX2_keyAt := goodIn_r _ [11, 12, 13, 14, 15, 25, 26] (by decide +kernel) (by decide +kernel)
set_option maxRecDepth 20000 in
theorem gX0_countAsks_X2_keyAt : GoodIn wsX0_countAsks (wsV RX0 61 RX2 yX2_keyAt wsX2_keyAt) := goodIn_app (goodIn_of _ (by decide +kernel)) ggX0_countAsks_X2_keyAt
set_option maxRecDepth 20000 in
theorem ggX0_countAsks_X5_at : GoodIn wsX0_countAsks wsX5_at := goodIn_r _ [15] (by decide +kernel) (by decide +kernel)
set_option maxRecDepth 20000 in
theorem gX0_countAsks_X5_at_n46 : GoodIn wsX0_countAsks (wsX5_at) := ggX0_countAsks_X5_at
set_option maxRecDepth 20000 in
theorem ggX0_countAsks_X5_put : GoodIn wsX0_countAsks wsX5_put := goodIn_r _ [17] (by decide +kernel) (by decide +kernel)
set_option maxRecDepth 20000 in
theorem gX0_countAsks_X5_put_n65 : GoodIn wsX0_countAsks (wsX5_put) := ggX0_countAsks_X5_put
theorem dX0_countAsks_0 : decode cX0_countAsks 0 = .ok (.aload_n 0, 1) := by decide +kernel
theorem dX0_countAsks_1 : decode cX0_countAsks 1 = .ok (.getfield 15, 3) := by decide +kernel
theorem dX0_countAsks_4 : decode cX0_countAsks 4 = .ok (.iconst 0, 1) := by decide +kernel
theorem dX0_countAsks_5 : decode cX0_countAsks 5 = .ok (.invokestatic 50, 3) := by decide +kernel
theorem dX0_countAsks_8 : decode cX0_countAsks 8 = .ok (.iconst 0, 1) := by decide +kernel
theorem dX0_countAsks_9 : decode cX0_countAsks 9 = .ok (.istore_n 2, 1) := by decide +kernel
theorem dX0_countAsks_10 : decode cX0_countAsks 10 = .ok (.iload_n 2, 1) := by decide +kernel
theorem dX0_countAsks_11 : decode cX0_countAsks 11 = .ok (.aload_n 1, 1) := by decide +kernel
theorem dX0_countAsks_12 : decode cX0_countAsks 12 = .ok (.getfield 56, 3) := by decide +kernel
theorem dX0_countAsks_15 : decode cX0_countAsks 15 = .ok (.if_icmp .ge 33, 3) := by decide +kernel
theorem dX0_countAsks_18 : decode cX0_countAsks 18 = .ok (.aload_n 1, 1) := by decide +kernel
theorem dX0_countAsks_19 : decode cX0_countAsks 19 = .ok (.iload_n 2, 1) := by decide +kernel
theorem dX0_countAsks_20 : decode cX0_countAsks 20 = .ok (.invokevirtual 61, 3) := by decide +kernel
theorem dX0_countAsks_23 : decode cX0_countAsks 23 = .ok (.istore_n 3, 1) := by decide +kernel
theorem dX0_countAsks_24 : decode cX0_countAsks 24 = .ok (.aload_n 0, 1) := by decide +kernel
theorem dX0_countAsks_25 : decode cX0_countAsks 25 = .ok (.getfield 15, 3) := by decide +kernel
theorem dX0_countAsks_28 : decode cX0_countAsks 28 = .ok (.iload_n 3, 1) := by decide +kernel
theorem dX0_countAsks_29 : decode cX0_countAsks 29 = .ok (.aload_n 0, 1) := by decide +kernel
theorem dX0_countAsks_30 : decode cX0_countAsks 30 = .ok (.getfield 15, 3) := by decide +kernel
theorem dX0_countAsks_33 : decode cX0_countAsks 33 = .ok (.iload_n 3, 1) := by decide +kernel
theorem dX0_countAsks_34 : decode cX0_countAsks 34 = .ok (.invokestatic 46, 3) := by decide +kernel
theorem dX0_countAsks_37 : decode cX0_countAsks 37 = .ok (.iconst 1, 1) := by decide +kernel
theorem dX0_countAsks_38 : decode cX0_countAsks 38 = .ok (.iadd, 1) := by decide +kernel
theorem dX0_countAsks_39 : decode cX0_countAsks 39 = .ok (.invokestatic 65, 3) := by decide +kernel
theorem dX0_countAsks_42 : decode cX0_countAsks 42 = .ok (.iinc 2 1, 3) := by decide +kernel
theorem dX0_countAsks_45 : decode cX0_countAsks 45 = .ok (.goto (-35), 3) := by decide +kernel
theorem dX0_countAsks_48 : decode cX0_countAsks 48 = .ok (.return_, 1) := by decide +kernel
set_option maxRecDepth 20000 in
theorem ggX0_gatherKeys_X3_holds : GoodIn wsX0_gatherKeys wsX3_holds := goodIn_r _ [8, 9, 10, 11, 7, 12, 13, 26, 27, 28, 29, 30, 31, 32] (by decide +kernel) (by decide +kernel)
set_option maxRecDepth 20000 in
theorem gX0_gatherKeys_X3_holds : GoodIn wsX0_gatherKeys (wsV RX0 69 RX3 yX3_holds wsX3_holds) := goodIn_app (goodIn_of _ (by decide +kernel)) ggX0_gatherKeys_X3_holds
set_option maxRecDepth 20000 in
theorem ggX0_gatherKeys_X5_put : GoodIn wsX0_gatherKeys wsX5_put := goodIn_r _ [16] (by decide +kernel) (by decide +kernel)
set_option maxRecDepth 20000 in
theorem gX0_gatherKeys_X5_put_n65 : GoodIn wsX0_gatherKeys (wsX5_put) := ggX0_gatherKeys_X5_put
set_option maxRecDepth 20000 in
theorem ggX0_gatherKeys_X5_at : GoodIn wsX0_gatherKeys wsX5_at := goodIn_r _ [18] (by decide +kernel) (by decide +kernel)
set_option maxRecDepth 20000 in
theorem gX0_gatherKeys_X5_at_n46 : GoodIn wsX0_gatherKeys (wsX5_at) := ggX0_gatherKeys_X5_at
theorem dX0_gatherKeys_0 : decode cX0_gatherKeys 0 = .ok (.iconst 0, 1) := by decide +kernel
theorem dX0_gatherKeys_1 : decode cX0_gatherKeys 1 = .ok (.istore_n 2, 1) := by decide +kernel
theorem dX0_gatherKeys_2 : decode cX0_gatherKeys 2 = .ok (.iconst 0, 1) := by decide +kernel
theorem dX0_gatherKeys_3 : decode cX0_gatherKeys 3 = .ok (.istore_n 3, 1) := by decide +kernel
theorem dX0_gatherKeys_4 : decode cX0_gatherKeys 4 = .ok (.iload_n 3, 1) := by decide +kernel
theorem dX0_gatherKeys_5 : decode cX0_gatherKeys 5 = .ok (.bipush 64, 2) := by decide +kernel
theorem dX0_gatherKeys_7 : decode cX0_gatherKeys 7 = .ok (.if_icmp .ge 56, 3) := by decide +kernel
theorem dX0_gatherKeys_10 : decode cX0_gatherKeys 10 = .ok (.aload_n 1, 1) := by decide +kernel
theorem dX0_gatherKeys_11 : decode cX0_gatherKeys 11 = .ok (.iload_n 3, 1) := by decide +kernel
theorem dX0_gatherKeys_12 : decode cX0_gatherKeys 12 = .ok (.invokevirtual 69, 3) := by decide +kernel
theorem dX0_gatherKeys_15 : decode cX0_gatherKeys 15 = .ok (.ifCond .eq 42, 3) := by decide +kernel
theorem dX0_gatherKeys_18 : decode cX0_gatherKeys 18 = .ok (.aload_n 0, 1) := by decide +kernel
theorem dX0_gatherKeys_19 : decode cX0_gatherKeys 19 = .ok (.getfield 9, 3) := by decide +kernel
theorem dX0_gatherKeys_22 : decode cX0_gatherKeys 22 = .ok (.iload_n 2, 1) := by decide +kernel
theorem dX0_gatherKeys_23 : decode cX0_gatherKeys 23 = .ok (.iload_n 3, 1) := by decide +kernel
theorem dX0_gatherKeys_24 : decode cX0_gatherKeys 24 = .ok (.invokestatic 65, 3) := by decide +kernel
theorem dX0_gatherKeys_27 : decode cX0_gatherKeys 27 = .ok (.aload_n 0, 1) := by decide +kernel
theorem dX0_gatherKeys_28 : decode cX0_gatherKeys 28 = .ok (.getfield 18, 3) := by decide +kernel
theorem dX0_gatherKeys_31 : decode cX0_gatherKeys 31 = .ok (.iload_n 2, 1) := by decide +kernel
theorem dX0_gatherKeys_32 : decode cX0_gatherKeys 32 = .ok (.iconst 1, 1) := by decide +kernel
theorem dX0_gatherKeys_33 : decode cX0_gatherKeys 33 = .ok (.iadd, 1) := by decide +kernel
theorem dX0_gatherKeys_34 : decode cX0_gatherKeys 34 = .ok (.aload_n 0, 1) := by decide +kernel
theorem dX0_gatherKeys_35 : decode cX0_gatherKeys 35 = .ok (.getfield 18, 3) := by decide +kernel
theorem dX0_gatherKeys_38 : decode cX0_gatherKeys 38 = .ok (.iload_n 2, 1) := by decide +kernel
theorem dX0_gatherKeys_39 : decode cX0_gatherKeys 39 = .ok (.invokestatic 46, 3) := by decide +kernel
theorem dX0_gatherKeys_42 : decode cX0_gatherKeys 42 = .ok (.aload_n 0, 1) := by decide +kernel
theorem dX0_gatherKeys_43 : decode cX0_gatherKeys 43 = .ok (.getfield 15, 3) := by decide +kernel
theorem dX0_gatherKeys_46 : decode cX0_gatherKeys 46 = .ok (.iload_n 3, 1) := by decide +kernel
theorem dX0_gatherKeys_47 : decode cX0_gatherKeys 47 = .ok (.invokestatic 46, 3) := by decide +kernel
theorem dX0_gatherKeys_50 : decode cX0_gatherKeys 50 = .ok (.iadd, 1) := by decide +kernel
theorem dX0_gatherKeys_51 : decode cX0_gatherKeys 51 = .ok (.invokestatic 65, 3) := by decide +kernel
theorem dX0_gatherKeys_54 : decode cX0_gatherKeys 54 = .ok (.iinc 2 1, 3) := by decide +kernel
theorem dX0_gatherKeys_57 : decode cX0_gatherKeys 57 = .ok (.iinc 3 1, 3) := by decide +kernel
theorem dX0_gatherKeys_60 : decode cX0_gatherKeys 60 = .ok (.goto (-56), 3) := by decide +kernel
theorem dX0_gatherKeys_63 : decode cX0_gatherKeys 63 = .ok (.iload_n 2, 1) := by decide +kernel
theorem dX0_gatherKeys_64 : decode cX0_gatherKeys 64 = .ok (.ireturn, 1) := by decide +kernel
set_option maxRecDepth 20000 in
theorem ggX0_settle_X0_lowestTop : GoodIn wsX0_settle wsX0_lowestTop := goodIn_r _ [8, 3, 9, 10, 11, 12, 13, 14, 7, 15, 2, 18, 19, 20, 21, 22, 23, 24] (by decide +kernel) (by decide +kernel)
set_option maxRecDepth 20000 in
theorem gX0_settle_X0_lowestTop : GoodIn wsX0_settle (wsV RX0 75 RX0 yX0_lowestTop wsX0_lowestTop) := goodIn_app (goodIn_of _ (by decide +kernel)) ggX0_settle_X0_lowestTop
set_option maxRecDepth 20000 in
theorem ggX0_settle_X5_at : GoodIn wsX0_settle wsX5_at := goodIn_r _ [11] (by decide +kernel) (by decide +kernel)
set_option maxRecDepth 20000 in
theorem gX0_settle_X5_at_n46 : GoodIn wsX0_settle (wsX5_at) := ggX0_settle_X5_at
set_option maxRecDepth 20000 in
theorem ggX0_settle_X0_sumBelow : GoodIn wsX0_settle wsX0_sumBelow := goodIn_r _ [15, 2, 9, 10, 11, 18, 19, 20, 21, 22, 23, 24] (by decide +kernel) (by decide +kernel)
set_option maxRecDepth 20000 in
theorem gX0_settle_X0_sumBelow : GoodIn wsX0_settle (wsV RX0 79 RX0 yX0_sumBelow wsX0_sumBelow) := goodIn_app (goodIn_of _ (by decide +kernel)) ggX0_settle_X0_sumBelow
set_option maxRecDepth 20000 in
theorem ggX0_settle_X5_put : GoodIn wsX0_settle wsX5_put := goodIn_r _ [17] (by decide +kernel) (by decide +kernel)
set_option maxRecDepth 20000 in
theorem gX0_settle_X5_put_n65 : GoodIn wsX0_settle (wsX5_put) := ggX0_settle_X5_put
theorem dX0_settle_0 : decode cX0_settle 0 = .ok (.aload_n 0, 1) := by decide +kernel
theorem dX0_settle_1 : decode cX0_settle 1 = .ok (.iload_n 1, 1) := by decide +kernel
theorem dX0_settle_2 : decode cX0_settle 2 = .ok (.iload_n 2, 1) := by decide +kernel
theorem dX0_settle_3 : decode cX0_settle 3 = .ok (.invokevirtual 75, 3) := by decide +kernel
theorem dX0_settle_6 : decode cX0_settle 6 = .ok (.istore_n 3, 1) := by decide +kernel
theorem dX0_settle_7 : decode cX0_settle 7 = .ok (.aload_n 0, 1) := by decide +kernel
theorem dX0_settle_8 : decode cX0_settle 8 = .ok (.getfield 18, 3) := by decide +kernel
theorem dX0_settle_11 : decode cX0_settle 11 = .ok (.iload_n 2, 1) := by decide +kernel
theorem dX0_settle_12 : decode cX0_settle 12 = .ok (.invokestatic 46, 3) := by decide +kernel
theorem dX0_settle_15 : decode cX0_settle 15 = .ok (.aload_n 0, 1) := by decide +kernel
theorem dX0_settle_16 : decode cX0_settle 16 = .ok (.getfield 18, 3) := by decide +kernel
theorem dX0_settle_19 : decode cX0_settle 19 = .ok (.iload_n 1, 1) := by decide +kernel
theorem dX0_settle_20 : decode cX0_settle 20 = .ok (.invokestatic 46, 3) := by decide +kernel
theorem dX0_settle_23 : decode cX0_settle 23 = .ok (.isub, 1) := by decide +kernel
theorem dX0_settle_24 : decode cX0_settle 24 = .ok (.istore 4, 2) := by decide +kernel
theorem dX0_settle_26 : decode cX0_settle 26 = .ok (.aload_n 0, 1) := by decide +kernel
theorem dX0_settle_27 : decode cX0_settle 27 = .ok (.getfield 21, 3) := by decide +kernel
theorem dX0_settle_30 : decode cX0_settle 30 = .ok (.iload_n 1, 1) := by decide +kernel
theorem dX0_settle_31 : decode cX0_settle 31 = .ok (.bipush 65, 2) := by decide +kernel
theorem dX0_settle_33 : decode cX0_settle 33 = .ok (.imul, 1) := by decide +kernel
theorem dX0_settle_34 : decode cX0_settle 34 = .ok (.iload_n 2, 1) := by decide +kernel
theorem dX0_settle_35 : decode cX0_settle 35 = .ok (.iadd, 1) := by decide +kernel
theorem dX0_settle_36 : decode cX0_settle 36 = .ok (.aload_n 0, 1) := by decide +kernel
theorem dX0_settle_37 : decode cX0_settle 37 = .ok (.iload_n 1, 1) := by decide +kernel
theorem dX0_settle_38 : decode cX0_settle 38 = .ok (.iload_n 2, 1) := by decide +kernel
theorem dX0_settle_39 : decode cX0_settle 39 = .ok (.iload_n 3, 1) := by decide +kernel
theorem dX0_settle_40 : decode cX0_settle 40 = .ok (.invokevirtual 79, 3) := by decide +kernel
theorem dX0_settle_43 : decode cX0_settle 43 = .ok (.iload 4, 2) := by decide +kernel
theorem dX0_settle_45 : decode cX0_settle 45 = .ok (.iadd, 1) := by decide +kernel
theorem dX0_settle_46 : decode cX0_settle 46 = .ok (.invokestatic 65, 3) := by decide +kernel
theorem dX0_settle_49 : decode cX0_settle 49 = .ok (.aload_n 0, 1) := by decide +kernel
theorem dX0_settle_50 : decode cX0_settle 50 = .ok (.getfield 24, 3) := by decide +kernel
theorem dX0_settle_53 : decode cX0_settle 53 = .ok (.iload_n 1, 1) := by decide +kernel
theorem dX0_settle_54 : decode cX0_settle 54 = .ok (.iload_n 3, 1) := by decide +kernel
theorem dX0_settle_55 : decode cX0_settle 55 = .ok (.invokestatic 65, 3) := by decide +kernel
theorem dX0_settle_58 : decode cX0_settle 58 = .ok (.return_, 1) := by decide +kernel
set_option maxRecDepth 20000 in
theorem ggX0_lowestTop_X5_at : GoodIn wsX0_lowestTop wsX5_at := goodIn_r _ [4] (by decide +kernel) (by decide +kernel)
set_option maxRecDepth 20000 in
theorem gX0_lowestTop_X5_at_n46 : GoodIn wsX0_lowestTop (wsX5_at) := ggX0_lowestTop_X5_at
set_option maxRecDepth 20000 in
theorem ggX0_lowestTop_X0_sumBelow : GoodIn wsX0_lowestTop wsX0_sumBelow := goodIn_r _ [9, 10, 2, 3, 4, 11, 12, 13, 14, 15, 16, 17] (by decide +kernel) (by decide +kernel)
set_option maxRecDepth 20000 in
theorem gX0_lowestTop_X0_sumBelow : GoodIn wsX0_lowestTop (wsV RX0 79 RX0 yX0_sumBelow wsX0_sumBelow) := goodIn_app (goodIn_of _ (by decide +kernel)) ggX0_lowestTop_X0_sumBelow
theorem dX0_lowestTop_0 : decode cX0_lowestTop 0 = .ok (.iload_n 2, 1) := by decide +kernel
theorem dX0_lowestTop_1 : decode cX0_lowestTop 1 = .ok (.iload_n 1, 1) := by decide +kernel
theorem dX0_lowestTop_2 : decode cX0_lowestTop 2 = .ok (.isub, 1) := by decide +kernel
theorem dX0_lowestTop_3 : decode cX0_lowestTop 3 = .ok (.iconst 1, 1) := by decide +kernel
theorem dX0_lowestTop_4 : decode cX0_lowestTop 4 = .ok (.if_icmp .ne 7, 3) := by decide +kernel
theorem dX0_lowestTop_7 : decode cX0_lowestTop 7 = .ok (.iconst 1, 1) := by decide +kernel
theorem dX0_lowestTop_8 : decode cX0_lowestTop 8 = .ok (.goto 4, 3) := by decide +kernel
theorem dX0_lowestTop_11 : decode cX0_lowestTop 11 = .ok (.iconst 0, 1) := by decide +kernel
theorem dX0_lowestTop_12 : decode cX0_lowestTop 12 = .ok (.istore_n 3, 1) := by decide +kernel
theorem dX0_lowestTop_13 : decode cX0_lowestTop 13 = .ok (.iload_n 3, 1) := by decide +kernel
theorem dX0_lowestTop_14 : decode cX0_lowestTop 14 = .ok (.ifCond .eq 7, 3) := by decide +kernel
theorem dX0_lowestTop_17 : decode cX0_lowestTop 17 = .ok (.iload_n 1, 1) := by decide +kernel
theorem dX0_lowestTop_18 : decode cX0_lowestTop 18 = .ok (.goto 11, 3) := by decide +kernel
theorem dX0_lowestTop_21 : decode cX0_lowestTop 21 = .ok (.aload_n 0, 1) := by decide +kernel
theorem dX0_lowestTop_22 : decode cX0_lowestTop 22 = .ok (.getfield 24, 3) := by decide +kernel
theorem dX0_lowestTop_25 : decode cX0_lowestTop 25 = .ok (.iload_n 1, 1) := by decide +kernel
theorem dX0_lowestTop_26 : decode cX0_lowestTop 26 = .ok (.invokestatic 46, 3) := by decide +kernel
theorem dX0_lowestTop_29 : decode cX0_lowestTop 29 = .ok (.istore 4, 2) := by decide +kernel
theorem dX0_lowestTop_31 : decode cX0_lowestTop 31 = .ok (.iload_n 3, 1) := by decide +kernel
theorem dX0_lowestTop_32 : decode cX0_lowestTop 32 = .ok (.ifCond .eq 7, 3) := by decide +kernel
theorem dX0_lowestTop_35 : decode cX0_lowestTop 35 = .ok (.iload_n 1, 1) := by decide +kernel
theorem dX0_lowestTop_36 : decode cX0_lowestTop 36 = .ok (.goto 13, 3) := by decide +kernel
theorem dX0_lowestTop_39 : decode cX0_lowestTop 39 = .ok (.aload_n 0, 1) := by decide +kernel
theorem dX0_lowestTop_40 : decode cX0_lowestTop 40 = .ok (.getfield 24, 3) := by decide +kernel
theorem dX0_lowestTop_43 : decode cX0_lowestTop 43 = .ok (.iload_n 1, 1) := by decide +kernel
theorem dX0_lowestTop_44 : decode cX0_lowestTop 44 = .ok (.iconst 1, 1) := by decide +kernel
theorem dX0_lowestTop_45 : decode cX0_lowestTop 45 = .ok (.iadd, 1) := by decide +kernel
theorem dX0_lowestTop_46 : decode cX0_lowestTop 46 = .ok (.invokestatic 46, 3) := by decide +kernel
theorem dX0_lowestTop_49 : decode cX0_lowestTop 49 = .ok (.istore 5, 2) := by decide +kernel
theorem dX0_lowestTop_51 : decode cX0_lowestTop 51 = .ok (.iload 4, 2) := by decide +kernel
theorem dX0_lowestTop_53 : decode cX0_lowestTop 53 = .ok (.istore 6, 2) := by decide +kernel
theorem dX0_lowestTop_55 : decode cX0_lowestTop 55 = .ok (.aload_n 0, 1) := by decide +kernel
theorem dX0_lowestTop_56 : decode cX0_lowestTop 56 = .ok (.iload_n 1, 1) := by decide +kernel
theorem dX0_lowestTop_57 : decode cX0_lowestTop 57 = .ok (.iload_n 2, 1) := by decide +kernel
theorem dX0_lowestTop_58 : decode cX0_lowestTop 58 = .ok (.iload 4, 2) := by decide +kernel
theorem dX0_lowestTop_60 : decode cX0_lowestTop 60 = .ok (.invokevirtual 79, 3) := by decide +kernel
theorem dX0_lowestTop_63 : decode cX0_lowestTop 63 = .ok (.istore 7, 2) := by decide +kernel
theorem dX0_lowestTop_65 : decode cX0_lowestTop 65 = .ok (.iload 4, 2) := by decide +kernel
theorem dX0_lowestTop_67 : decode cX0_lowestTop 67 = .ok (.iconst 1, 1) := by decide +kernel
theorem dX0_lowestTop_68 : decode cX0_lowestTop 68 = .ok (.iadd, 1) := by decide +kernel
theorem dX0_lowestTop_69 : decode cX0_lowestTop 69 = .ok (.istore 8, 2) := by decide +kernel
theorem dX0_lowestTop_71 : decode cX0_lowestTop 71 = .ok (.iload 8, 2) := by decide +kernel
theorem dX0_lowestTop_73 : decode cX0_lowestTop 73 = .ok (.iload 5, 2) := by decide +kernel
theorem dX0_lowestTop_75 : decode cX0_lowestTop 75 = .ok (.if_icmp .gt 40, 3) := by decide +kernel
theorem dX0_lowestTop_78 : decode cX0_lowestTop 78 = .ok (.iload 8, 2) := by decide +kernel
theorem dX0_lowestTop_80 : decode cX0_lowestTop 80 = .ok (.iload_n 2, 1) := by decide +kernel
theorem dX0_lowestTop_81 : decode cX0_lowestTop 81 = .ok (.if_icmp .ge 34, 3) := by decide +kernel
theorem dX0_lowestTop_84 : decode cX0_lowestTop 84 = .ok (.aload_n 0, 1) := by decide +kernel
theorem dX0_lowestTop_85 : decode cX0_lowestTop 85 = .ok (.iload_n 1, 1) := by decide +kernel
theorem dX0_lowestTop_86 : decode cX0_lowestTop 86 = .ok (.iload_n 2, 1) := by decide +kernel
theorem dX0_lowestTop_87 : decode cX0_lowestTop 87 = .ok (.iload 8, 2) := by decide +kernel
theorem dX0_lowestTop_89 : decode cX0_lowestTop 89 = .ok (.invokevirtual 79, 3) := by decide +kernel
theorem dX0_lowestTop_92 : decode cX0_lowestTop 92 = .ok (.istore 9, 2) := by decide +kernel
theorem dX0_lowestTop_94 : decode cX0_lowestTop 94 = .ok (.iload 9, 2) := by decide +kernel
theorem dX0_lowestTop_96 : decode cX0_lowestTop 96 = .ok (.iload 7, 2) := by decide +kernel
theorem dX0_lowestTop_98 : decode cX0_lowestTop 98 = .ok (.if_icmp .ge 11, 3) := by decide +kernel
theorem dX0_lowestTop_101 : decode cX0_lowestTop 101 = .ok (.iload 8, 2) := by decide +kernel
theorem dX0_lowestTop_103 : decode cX0_lowestTop 103 = .ok (.istore 6, 2) := by decide +kernel
theorem dX0_lowestTop_105 : decode cX0_lowestTop 105 = .ok (.iload 9, 2) := by decide +kernel
theorem dX0_lowestTop_107 : decode cX0_lowestTop 107 = .ok (.istore 7, 2) := by decide +kernel
theorem dX0_lowestTop_109 : decode cX0_lowestTop 109 = .ok (.iinc 8 1, 3) := by decide +kernel
theorem dX0_lowestTop_112 : decode cX0_lowestTop 112 = .ok (.goto (-41), 3) := by decide +kernel
theorem dX0_lowestTop_115 : decode cX0_lowestTop 115 = .ok (.iload 6, 2) := by decide +kernel
theorem dX0_lowestTop_117 : decode cX0_lowestTop 117 = .ok (.ireturn, 1) := by decide +kernel
set_option maxRecDepth 20000 in
theorem ggX0_sumBelow_X5_at : GoodIn wsX0_sumBelow wsX5_at := goodIn_r _ [4] (by decide +kernel) (by decide +kernel)
set_option maxRecDepth 20000 in
theorem gX0_sumBelow_X5_at_n46 : GoodIn wsX0_sumBelow (wsX5_at) := ggX0_sumBelow_X5_at
theorem dX0_sumBelow_0 : decode cX0_sumBelow 0 = .ok (.aload_n 0, 1) := by decide +kernel
theorem dX0_sumBelow_1 : decode cX0_sumBelow 1 = .ok (.getfield 21, 3) := by decide +kernel
theorem dX0_sumBelow_4 : decode cX0_sumBelow 4 = .ok (.iload_n 1, 1) := by decide +kernel
theorem dX0_sumBelow_5 : decode cX0_sumBelow 5 = .ok (.bipush 65, 2) := by decide +kernel
theorem dX0_sumBelow_7 : decode cX0_sumBelow 7 = .ok (.imul, 1) := by decide +kernel
theorem dX0_sumBelow_8 : decode cX0_sumBelow 8 = .ok (.iload_n 3, 1) := by decide +kernel
theorem dX0_sumBelow_9 : decode cX0_sumBelow 9 = .ok (.iadd, 1) := by decide +kernel
theorem dX0_sumBelow_10 : decode cX0_sumBelow 10 = .ok (.invokestatic 46, 3) := by decide +kernel
theorem dX0_sumBelow_13 : decode cX0_sumBelow 13 = .ok (.aload_n 0, 1) := by decide +kernel
theorem dX0_sumBelow_14 : decode cX0_sumBelow 14 = .ok (.getfield 21, 3) := by decide +kernel
theorem dX0_sumBelow_17 : decode cX0_sumBelow 17 = .ok (.iload_n 3, 1) := by decide +kernel
theorem dX0_sumBelow_18 : decode cX0_sumBelow 18 = .ok (.iconst 1, 1) := by decide +kernel
theorem dX0_sumBelow_19 : decode cX0_sumBelow 19 = .ok (.iadd, 1) := by decide +kernel
theorem dX0_sumBelow_20 : decode cX0_sumBelow 20 = .ok (.bipush 65, 2) := by decide +kernel
theorem dX0_sumBelow_22 : decode cX0_sumBelow 22 = .ok (.imul, 1) := by decide +kernel
theorem dX0_sumBelow_23 : decode cX0_sumBelow 23 = .ok (.iload_n 2, 1) := by decide +kernel
theorem dX0_sumBelow_24 : decode cX0_sumBelow 24 = .ok (.iadd, 1) := by decide +kernel
theorem dX0_sumBelow_25 : decode cX0_sumBelow 25 = .ok (.invokestatic 46, 3) := by decide +kernel
theorem dX0_sumBelow_28 : decode cX0_sumBelow 28 = .ok (.iadd, 1) := by decide +kernel
theorem dX0_sumBelow_29 : decode cX0_sumBelow 29 = .ok (.ireturn, 1) := by decide +kernel
theorem dX1_init_0 : decode cX1_init 0 = .ok (.aload_n 0, 1) := by decide +kernel
theorem dX1_init_1 : decode cX1_init 1 = .ok (.invokespecial 3, 3) := by decide +kernel
theorem dX1_init_4 : decode cX1_init 4 = .ok (.aload_n 0, 1) := by decide +kernel
theorem dX1_init_5 : decode cX1_init 5 = .ok (.bipush 16, 2) := by decide +kernel
theorem dX1_init_7 : decode cX1_init 7 = .ok (.newarray .int, 2) := by decide +kernel
theorem dX1_init_9 : decode cX1_init 9 = .ok (.putfield 9, 3) := by decide +kernel
theorem dX1_init_12 : decode cX1_init 12 = .ok (.aload_n 0, 1) := by decide +kernel
theorem dX1_init_13 : decode cX1_init 13 = .ok (.iconst 0, 1) := by decide +kernel
theorem dX1_init_14 : decode cX1_init 14 = .ok (.putfield 15, 3) := by decide +kernel
theorem dX1_init_17 : decode cX1_init 17 = .ok (.return_, 1) := by decide +kernel
set_option maxRecDepth 20000 in
theorem ggX1_countOnWay_X1_fill : GoodIn wsX1_countOnWay wsX1_fill := goodIn_r _ [6, 7, 8, 9, 10, 11, 5, 12, 13, 14, 15, 16, 17, 18, 19, 20, 21, 22, 23, 24, 25, 26, 27, 28, 49, 50, 42, 43, 44, 45, 46, 47, 48] (by decide +kernel) (by decide +kernel)
set_option maxRecDepth 20000 in
theorem gX1_countOnWay_X1_fill : GoodIn wsX1_countOnWay (wsV RX1 24 RX1 yX1_fill wsX1_fill) := goodIn_app (goodIn_of _ (by decide +kernel)) ggX1_countOnWay_X1_fill
set_option maxRecDepth 20000 in
theorem ggX1_countOnWay_X1_has : GoodIn wsX1_countOnWay wsX1_has := goodIn_r _ [32, 7, 8, 16, 14, 17, 49, 50] (by decide +kernel) (by decide +kernel)
set_option maxRecDepth 20000 in
theorem gX1_countOnWay_X1_has : GoodIn wsX1_countOnWay (wsV RX1 28 RX1 yX1_has wsX1_has) := goodIn_app (goodIn_of _ (by decide +kernel)) ggX1_countOnWay_X1_has
set_option maxRecDepth 20000 in
theorem ggX1_countOnWay_X1_startOfNext : GoodIn wsX1_countOnWay wsX1_startOfNext := goodIn_r _ [36, 37, 38, 39, 21, 40, 41, 16, 14, 17, 29, 30, 31, 5, 32, 7, 8, 42, 43, 44, 45, 46, 47, 48, 49, 50] (by decide +kernel) (by decide +kernel)
set_option maxRecDepth 20000 in
theorem gX1_countOnWay_X1_startOfNext : GoodIn wsX1_countOnWay (wsV RX1 32 RX1 yX1_startOfNext wsX1_startOfNext) := goodIn_app (goodIn_of _ (by decide +kernel)) ggX1_countOnWay_X1_startOfNext
theorem dX1_countOnWay_0 : decode cX1_countOnWay 0 = .ok (.aload_n 1, 1) := by decide +kernel
theorem dX1_countOnWay_1 : decode cX1_countOnWay 1 = .ok (.getfield 19, 3) := by decide +kernel
theorem dX1_countOnWay_4 : decode cX1_countOnWay 4 = .ok (.istore 4, 2) := by decide +kernel
theorem dX1_countOnWay_6 : decode cX1_countOnWay 6 = .ok (.iconst 1, 1) := by decide +kernel
theorem dX1_countOnWay_7 : decode cX1_countOnWay 7 = .ok (.istore 5, 2) := by decide +kernel
theorem dX1_countOnWay_9 : decode cX1_countOnWay 9 = .ok (.iload 5, 2) := by decide +kernel
theorem dX1_countOnWay_11 : decode cX1_countOnWay 11 = .ok (.bipush 64, 2) := by decide +kernel
theorem dX1_countOnWay_13 : decode cX1_countOnWay 13 = .ok (.if_icmp .gt 36, 3) := by decide +kernel
theorem dX1_countOnWay_16 : decode cX1_countOnWay 16 = .ok (.aload_n 0, 1) := by decide +kernel
theorem dX1_countOnWay_17 : decode cX1_countOnWay 17 = .ok (.aload_n 1, 1) := by decide +kernel
theorem dX1_countOnWay_18 : decode cX1_countOnWay 18 = .ok (.iload_n 2, 1) := by decide +kernel
theorem dX1_countOnWay_19 : decode cX1_countOnWay 19 = .ok (.iload 4, 2) := by decide +kernel
theorem dX1_countOnWay_21 : decode cX1_countOnWay 21 = .ok (.invokevirtual 24, 3) := by decide +kernel
theorem dX1_countOnWay_24 : decode cX1_countOnWay 24 = .ok (.aload_n 0, 1) := by decide +kernel
theorem dX1_countOnWay_25 : decode cX1_countOnWay 25 = .ok (.iload_n 3, 1) := by decide +kernel
theorem dX1_countOnWay_26 : decode cX1_countOnWay 26 = .ok (.invokevirtual 28, 3) := by decide +kernel
theorem dX1_countOnWay_29 : decode cX1_countOnWay 29 = .ok (.ifCond .eq 6, 3) := by decide +kernel
theorem dX1_countOnWay_32 : decode cX1_countOnWay 32 = .ok (.iload 5, 2) := by decide +kernel
theorem dX1_countOnWay_34 : decode cX1_countOnWay 34 = .ok (.ireturn, 1) := by decide +kernel
theorem dX1_countOnWay_35 : decode cX1_countOnWay 35 = .ok (.aload_n 0, 1) := by decide +kernel
theorem dX1_countOnWay_36 : decode cX1_countOnWay 36 = .ok (.aload_n 1, 1) := by decide +kernel
theorem dX1_countOnWay_37 : decode cX1_countOnWay 37 = .ok (.iload_n 3, 1) := by decide +kernel
theorem dX1_countOnWay_38 : decode cX1_countOnWay 38 = .ok (.invokevirtual 32, 3) := by decide +kernel
theorem dX1_countOnWay_41 : decode cX1_countOnWay 41 = .ok (.istore 4, 2) := by decide +kernel
theorem dX1_countOnWay_43 : decode cX1_countOnWay 43 = .ok (.iinc 5 1, 3) := by decide +kernel
theorem dX1_countOnWay_46 : decode cX1_countOnWay 46 = .ok (.goto (-37), 3) := by decide +kernel
theorem dX1_countOnWay_49 : decode cX1_countOnWay 49 = .ok (.iconst (-1), 1) := by decide +kernel
theorem dX1_countOnWay_50 : decode cX1_countOnWay 50 = .ok (.ireturn, 1) := by decide +kernel
set_option maxRecDepth 20000 in
theorem ggX1_fill_X1_take : GoodIn wsX1_fill wsX1_take := goodIn_r _ [7, 1, 2, 8, 9, 10, 24, 25] (by decide +kernel) (by decide +kernel)
set_option maxRecDepth 20000 in
theorem gX1_fill_X1_take : GoodIn wsX1_fill (wsV RX1 36 RX1 yX1_take wsX1_take) := goodIn_app (goodIn_of _ (by decide +kernel)) ggX1_fill_X1_take
set_option maxRecDepth 20000 in
theorem ggX1_fill_X5_at : GoodIn wsX1_fill wsX5_at := goodIn_r _ [12] (by decide +kernel) (by decide +kernel)
set_option maxRecDepth 20000 in
theorem gX1_fill_X5_at_n40 : GoodIn wsX1_fill (wsX5_at) := ggX1_fill_X5_at
set_option maxRecDepth 20000 in
theorem ggX1_fill_X3_leftOf : GoodIn wsX1_fill wsX3_leftOf := goodIn_r _ [17, 18, 11, 9, 12, 26, 27, 28, 29, 30, 31, 32] (by decide +kernel) (by decide +kernel)
set_option maxRecDepth 20000 in
theorem gX1_fill_X3_leftOf : GoodIn wsX1_fill (wsV RX1 44 RX3 yX3_leftOf wsX3_leftOf) := goodIn_app (goodIn_of _ (by decide +kernel)) ggX1_fill_X3_leftOf
set_option maxRecDepth 20000 in
theorem ggX1_fill_X3_rightOf : GoodIn wsX1_fill wsX3_rightOf := goodIn_r _ [22, 23, 11, 9, 12, 26, 27, 28, 29, 30, 31, 32] (by decide +kernel) (by decide +kernel)
set_option maxRecDepth 20000 in
theorem gX1_fill_X3_rightOf : GoodIn wsX1_fill (wsV RX1 48 RX3 yX3_rightOf wsX3_rightOf) := goodIn_app (goodIn_of _ (by decide +kernel)) ggX1_fill_X3_rightOf
theorem dX1_fill_0 : decode cX1_fill 0 = .ok (.aload_n 0, 1) := by decide +kernel
theorem dX1_fill_1 : decode cX1_fill 1 = .ok (.iconst 0, 1) := by decide +kernel
theorem dX1_fill_2 : decode cX1_fill 2 = .ok (.putfield 15, 3) := by decide +kernel
theorem dX1_fill_5 : decode cX1_fill 5 = .ok (.aload_n 0, 1) := by decide +kernel
theorem dX1_fill_6 : decode cX1_fill 6 = .ok (.iload_n 3, 1) := by decide +kernel
theorem dX1_fill_7 : decode cX1_fill 7 = .ok (.iload_n 2, 1) := by decide +kernel
theorem dX1_fill_8 : decode cX1_fill 8 = .ok (.invokevirtual 36, 3) := by decide +kernel
theorem dX1_fill_11 : decode cX1_fill 11 = .ok (.iconst 0, 1) := by decide +kernel
theorem dX1_fill_12 : decode cX1_fill 12 = .ok (.istore 4, 2) := by decide +kernel
theorem dX1_fill_14 : decode cX1_fill 14 = .ok (.iload 4, 2) := by decide +kernel
theorem dX1_fill_16 : decode cX1_fill 16 = .ok (.aload_n 0, 1) := by decide +kernel
theorem dX1_fill_17 : decode cX1_fill 17 = .ok (.getfield 15, 3) := by decide +kernel
theorem dX1_fill_20 : decode cX1_fill 20 = .ok (.if_icmp .ge 52, 3) := by decide +kernel
theorem dX1_fill_23 : decode cX1_fill 23 = .ok (.iload 4, 2) := by decide +kernel
theorem dX1_fill_25 : decode cX1_fill 25 = .ok (.bipush 16, 2) := by decide +kernel
theorem dX1_fill_27 : decode cX1_fill 27 = .ok (.if_icmp .ge 45, 3) := by decide +kernel
theorem dX1_fill_30 : decode cX1_fill 30 = .ok (.aload_n 0, 1) := by decide +kernel
theorem dX1_fill_31 : decode cX1_fill 31 = .ok (.aload_n 1, 1) := by decide +kernel
theorem dX1_fill_32 : decode cX1_fill 32 = .ok (.aload_n 0, 1) := by decide +kernel
theorem dX1_fill_33 : decode cX1_fill 33 = .ok (.getfield 9, 3) := by decide +kernel
theorem dX1_fill_36 : decode cX1_fill 36 = .ok (.iload 4, 2) := by decide +kernel
theorem dX1_fill_38 : decode cX1_fill 38 = .ok (.invokestatic 40, 3) := by decide +kernel
theorem dX1_fill_41 : decode cX1_fill 41 = .ok (.invokevirtual 44, 3) := by decide +kernel
theorem dX1_fill_44 : decode cX1_fill 44 = .ok (.iload_n 2, 1) := by decide +kernel
theorem dX1_fill_45 : decode cX1_fill 45 = .ok (.invokevirtual 36, 3) := by decide +kernel
theorem dX1_fill_48 : decode cX1_fill 48 = .ok (.aload_n 0, 1) := by decide +kernel
theorem dX1_fill_49 : decode cX1_fill 49 = .ok (.aload_n 1, 1) := by decide +kernel
theorem dX1_fill_50 : decode cX1_fill 50 = .ok (.aload_n 0, 1) := by decide +kernel
theorem dX1_fill_51 : decode cX1_fill 51 = .ok (.getfield 9, 3) := by decide +kernel
theorem dX1_fill_54 : decode cX1_fill 54 = .ok (.iload 4, 2) := by decide +kernel
theorem dX1_fill_56 : decode cX1_fill 56 = .ok (.invokestatic 40, 3) := by decide +kernel
theorem dX1_fill_59 : decode cX1_fill 59 = .ok (.invokevirtual 48, 3) := by decide +kernel
theorem dX1_fill_62 : decode cX1_fill 62 = .ok (.iload_n 2, 1) := by decide +kernel
theorem dX1_fill_63 : decode cX1_fill 63 = .ok (.invokevirtual 36, 3) := by decide +kernel
theorem dX1_fill_66 : decode cX1_fill 66 = .ok (.iinc 4 1, 3) := by decide +kernel
theorem dX1_fill_69 : decode cX1_fill 69 = .ok (.goto (-55), 3) := by decide +kernel
theorem dX1_fill_72 : decode cX1_fill 72 = .ok (.return_, 1) := by decide +kernel
set_option maxRecDepth 20000 in
theorem ggX1_take_X5_put : GoodIn wsX1_take wsX5_put := goodIn_r _ [5] (by decide +kernel) (by decide +kernel)
set_option maxRecDepth 20000 in
theorem gX1_take_X5_put_n51 : GoodIn wsX1_take (wsX5_put) := ggX1_take_X5_put
theorem dX1_take_0 : decode cX1_take 0 = .ok (.iload_n 1, 1) := by decide +kernel
theorem dX1_take_1 : decode cX1_take 1 = .ok (.iconst (-1), 1) := by decide +kernel
theorem dX1_take_2 : decode cX1_take 2 = .ok (.if_icmp .eq 33, 3) := by decide +kernel
theorem dX1_take_5 : decode cX1_take 5 = .ok (.aload_n 0, 1) := by decide +kernel
theorem dX1_take_6 : decode cX1_take 6 = .ok (.getfield 15, 3) := by decide +kernel
theorem dX1_take_9 : decode cX1_take 9 = .ok (.iload_n 2, 1) := by decide +kernel
theorem dX1_take_10 : decode cX1_take 10 = .ok (.if_icmp .ge 25, 3) := by decide +kernel
theorem dX1_take_13 : decode cX1_take 13 = .ok (.aload_n 0, 1) := by decide +kernel
theorem dX1_take_14 : decode cX1_take 14 = .ok (.getfield 9, 3) := by decide +kernel
theorem dX1_take_17 : decode cX1_take 17 = .ok (.aload_n 0, 1) := by decide +kernel
theorem dX1_take_18 : decode cX1_take 18 = .ok (.getfield 15, 3) := by decide +kernel
theorem dX1_take_21 : decode cX1_take 21 = .ok (.iload_n 1, 1) := by decide +kernel
theorem dX1_take_22 : decode cX1_take 22 = .ok (.invokestatic 51, 3) := by decide +kernel
theorem dX1_take_25 : decode cX1_take 25 = .ok (.aload_n 0, 1) := by decide +kernel
theorem dX1_take_26 : decode cX1_take 26 = .ok (.dup, 1) := by decide +kernel
theorem dX1_take_27 : decode cX1_take 27 = .ok (.getfield 15, 3) := by decide +kernel
theorem dX1_take_30 : decode cX1_take 30 = .ok (.iconst 1, 1) := by decide +kernel
theorem dX1_take_31 : decode cX1_take 31 = .ok (.iadd, 1) := by decide +kernel
theorem dX1_take_32 : decode cX1_take 32 = .ok (.putfield 15, 3) := by decide +kernel
theorem dX1_take_35 : decode cX1_take 35 = .ok (.return_, 1) := by decide +kernel
set_option maxRecDepth 20000 in
theorem ggX1_has_X5_at : GoodIn wsX1_has wsX5_at := goodIn_r _ [5] (by decide +kernel) (by decide +kernel)
set_option maxRecDepth 20000 in
theorem gX1_has_X5_at_n40 : GoodIn wsX1_has (wsX5_at) := ggX1_has_X5_at
theorem dX1_has_0 : decode cX1_has 0 = .ok (.iconst 0, 1) := by decide +kernel
theorem dX1_has_1 : decode cX1_has 1 = .ok (.istore_n 2, 1) := by decide +kernel
theorem dX1_has_2 : decode cX1_has 2 = .ok (.iload_n 2, 1) := by decide +kernel
theorem dX1_has_3 : decode cX1_has 3 = .ok (.aload_n 0, 1) := by decide +kernel
theorem dX1_has_4 : decode cX1_has 4 = .ok (.getfield 15, 3) := by decide +kernel
theorem dX1_has_7 : decode cX1_has 7 = .ok (.if_icmp .ge 23, 3) := by decide +kernel
theorem dX1_has_10 : decode cX1_has 10 = .ok (.aload_n 0, 1) := by decide +kernel
theorem dX1_has_11 : decode cX1_has 11 = .ok (.getfield 9, 3) := by decide +kernel
theorem dX1_has_14 : decode cX1_has 14 = .ok (.iload_n 2, 1) := by decide +kernel
theorem dX1_has_15 : decode cX1_has 15 = .ok (.invokestatic 40, 3) := by decide +kernel
theorem dX1_has_18 : decode cX1_has 18 = .ok (.iload_n 1, 1) := by decide +kernel
theorem dX1_has_19 : decode cX1_has 19 = .ok (.if_icmp .ne 5, 3) := by decide +kernel
theorem dX1_has_22 : decode cX1_has 22 = .ok (.iconst 1, 1) := by decide +kernel
theorem dX1_has_23 : decode cX1_has 23 = .ok (.ireturn, 1) := by decide +kernel
theorem dX1_has_24 : decode cX1_has 24 = .ok (.iinc 2 1, 3) := by decide +kernel
theorem dX1_has_27 : decode cX1_has 27 = .ok (.goto (-25), 3) := by decide +kernel
theorem dX1_has_30 : decode cX1_has 30 = .ok (.iconst 0, 1) := by decide +kernel
theorem dX1_has_31 : decode cX1_has 31 = .ok (.ireturn, 1) := by decide +kernel
set_option maxRecDepth 20000 in
theorem ggX1_startOfNext_X3_upOf : GoodIn wsX1_startOfNext wsX3_upOf := goodIn_r _ [5, 6, 7, 8, 9, 17, 18, 19, 20, 21, 22, 23] (by decide +kernel) (by decide +kernel)
set_option maxRecDepth 20000 in
theorem gX1_startOfNext_X3_upOf : GoodIn wsX1_startOfNext (wsV RX1 55 RX3 yX3_upOf wsX3_upOf) := goodIn_app (goodIn_of _ (by decide +kernel)) ggX1_startOfNext_X3_upOf
set_option maxRecDepth 20000 in
theorem ggX1_startOfNext_X1_has : GoodIn wsX1_startOfNext wsX1_has := goodIn_r _ [14, 15, 16, 7, 8, 9, 24, 25] (by decide +kernel) (by decide +kernel)
set_option maxRecDepth 20000 in
theorem gX1_startOfNext_X1_has : GoodIn wsX1_startOfNext (wsV RX1 28 RX1 yX1_has wsX1_has) := goodIn_app (goodIn_of _ (by decide +kernel)) ggX1_startOfNext_X1_has
theorem dX1_startOfNext_0 : decode cX1_startOfNext 0 = .ok (.iload_n 2, 1) := by decide +kernel
theorem dX1_startOfNext_1 : decode cX1_startOfNext 1 = .ok (.istore_n 3, 1) := by decide +kernel
theorem dX1_startOfNext_2 : decode cX1_startOfNext 2 = .ok (.iconst 0, 1) := by decide +kernel
theorem dX1_startOfNext_3 : decode cX1_startOfNext 3 = .ok (.istore 4, 2) := by decide +kernel
theorem dX1_startOfNext_5 : decode cX1_startOfNext 5 = .ok (.iload 4, 2) := by decide +kernel
theorem dX1_startOfNext_7 : decode cX1_startOfNext 7 = .ok (.bipush 64, 2) := by decide +kernel
theorem dX1_startOfNext_9 : decode cX1_startOfNext 9 = .ok (.if_icmp .ge 36, 3) := by decide +kernel
theorem dX1_startOfNext_12 : decode cX1_startOfNext 12 = .ok (.aload_n 1, 1) := by decide +kernel
theorem dX1_startOfNext_13 : decode cX1_startOfNext 13 = .ok (.iload_n 3, 1) := by decide +kernel
theorem dX1_startOfNext_14 : decode cX1_startOfNext 14 = .ok (.invokevirtual 55, 3) := by decide +kernel
theorem dX1_startOfNext_17 : decode cX1_startOfNext 17 = .ok (.istore 5, 2) := by decide +kernel
theorem dX1_startOfNext_19 : decode cX1_startOfNext 19 = .ok (.iload 5, 2) := by decide +kernel
theorem dX1_startOfNext_21 : decode cX1_startOfNext 21 = .ok (.iconst (-1), 1) := by decide +kernel
theorem dX1_startOfNext_22 : decode cX1_startOfNext 22 = .ok (.if_icmp .eq 12, 3) := by decide +kernel
theorem dX1_startOfNext_25 : decode cX1_startOfNext 25 = .ok (.aload_n 0, 1) := by decide +kernel
theorem dX1_startOfNext_26 : decode cX1_startOfNext 26 = .ok (.iload 5, 2) := by decide +kernel
theorem dX1_startOfNext_28 : decode cX1_startOfNext 28 = .ok (.invokevirtual 28, 3) := by decide +kernel
theorem dX1_startOfNext_31 : decode cX1_startOfNext 31 = .ok (.ifCond .eq 5, 3) := by decide +kernel
theorem dX1_startOfNext_34 : decode cX1_startOfNext 34 = .ok (.iload_n 3, 1) := by decide +kernel
theorem dX1_startOfNext_35 : decode cX1_startOfNext 35 = .ok (.ireturn, 1) := by decide +kernel
theorem dX1_startOfNext_36 : decode cX1_startOfNext 36 = .ok (.iload 5, 2) := by decide +kernel
theorem dX1_startOfNext_38 : decode cX1_startOfNext 38 = .ok (.istore_n 3, 1) := by decide +kernel
theorem dX1_startOfNext_39 : decode cX1_startOfNext 39 = .ok (.iinc 4 1, 3) := by decide +kernel
theorem dX1_startOfNext_42 : decode cX1_startOfNext 42 = .ok (.goto (-37), 3) := by decide +kernel
theorem dX1_startOfNext_45 : decode cX1_startOfNext 45 = .ok (.iload_n 3, 1) := by decide +kernel
theorem dX1_startOfNext_46 : decode cX1_startOfNext 46 = .ok (.ireturn, 1) := by decide +kernel
theorem dX2_init_0 : decode cX2_init 0 = .ok (.aload_n 0, 1) := by decide +kernel
theorem dX2_init_1 : decode cX2_init 1 = .ok (.invokespecial 3, 3) := by decide +kernel
theorem dX2_init_4 : decode cX2_init 4 = .ok (.aload_n 0, 1) := by decide +kernel
theorem dX2_init_5 : decode cX2_init 5 = .ok (.bipush 100, 2) := by decide +kernel
theorem dX2_init_7 : decode cX2_init 7 = .ok (.newarray .int, 2) := by decide +kernel
theorem dX2_init_9 : decode cX2_init 9 = .ok (.putfield 9, 3) := by decide +kernel
theorem dX2_init_12 : decode cX2_init 12 = .ok (.aload_n 0, 1) := by decide +kernel
theorem dX2_init_13 : decode cX2_init 13 = .ok (.iconst 0, 1) := by decide +kernel
theorem dX2_init_14 : decode cX2_init 14 = .ok (.putfield 15, 3) := by decide +kernel
theorem dX2_init_17 : decode cX2_init 17 = .ok (.return_, 1) := by decide +kernel
set_option maxRecDepth 20000 in
theorem ggX2_write_X5_put : GoodIn wsX2_write wsX5_put := goodIn_r _ [5] (by decide +kernel) (by decide +kernel)
set_option maxRecDepth 20000 in
theorem gX2_write_X5_put_n19 : GoodIn wsX2_write (wsX5_put) := ggX2_write_X5_put
theorem dX2_write_0 : decode cX2_write 0 = .ok (.aload_n 0, 1) := by decide +kernel
theorem dX2_write_1 : decode cX2_write 1 = .ok (.getfield 15, 3) := by decide +kernel
theorem dX2_write_4 : decode cX2_write 4 = .ok (.aload_n 0, 1) := by decide +kernel
theorem dX2_write_5 : decode cX2_write 5 = .ok (.getfield 9, 3) := by decide +kernel
theorem dX2_write_8 : decode cX2_write 8 = .ok (.arraylength, 1) := by decide +kernel
theorem dX2_write_9 : decode cX2_write 9 = .ok (.if_icmp .ge 25, 3) := by decide +kernel
theorem dX2_write_12 : decode cX2_write 12 = .ok (.aload_n 0, 1) := by decide +kernel
theorem dX2_write_13 : decode cX2_write 13 = .ok (.getfield 9, 3) := by decide +kernel
theorem dX2_write_16 : decode cX2_write 16 = .ok (.aload_n 0, 1) := by decide +kernel
theorem dX2_write_17 : decode cX2_write 17 = .ok (.getfield 15, 3) := by decide +kernel
theorem dX2_write_20 : decode cX2_write 20 = .ok (.iload_n 1, 1) := by decide +kernel
theorem dX2_write_21 : decode cX2_write 21 = .ok (.invokestatic 19, 3) := by decide +kernel
theorem dX2_write_24 : decode cX2_write 24 = .ok (.aload_n 0, 1) := by decide +kernel
theorem dX2_write_25 : decode cX2_write 25 = .ok (.dup, 1) := by decide +kernel
theorem dX2_write_26 : decode cX2_write 26 = .ok (.getfield 15, 3) := by decide +kernel
theorem dX2_write_29 : decode cX2_write 29 = .ok (.iconst 1, 1) := by decide +kernel
theorem dX2_write_30 : decode cX2_write 30 = .ok (.iadd, 1) := by decide +kernel
theorem dX2_write_31 : decode cX2_write 31 = .ok (.putfield 15, 3) := by decide +kernel
theorem dX2_write_34 : decode cX2_write 34 = .ok (.return_, 1) := by decide +kernel
theorem dX2_wipe_0 : decode cX2_wipe 0 = .ok (.aload_n 0, 1) := by decide +kernel
theorem dX2_wipe_1 : decode cX2_wipe 1 = .ok (.getfield 15, 3) := by decide +kernel
theorem dX2_wipe_4 : decode cX2_wipe 4 = .ok (.istore_n 1, 1) := by decide +kernel
theorem dX2_wipe_5 : decode cX2_wipe 5 = .ok (.aload_n 0, 1) := by decide +kernel
theorem dX2_wipe_6 : decode cX2_wipe 6 = .ok (.iconst 0, 1) := by decide +kernel
theorem dX2_wipe_7 : decode cX2_wipe 7 = .ok (.putfield 15, 3) := by decide +kernel
theorem dX2_wipe_10 : decode cX2_wipe 10 = .ok (.iload_n 1, 1) := by decide +kernel
theorem dX2_wipe_11 : decode cX2_wipe 11 = .ok (.ireturn, 1) := by decide +kernel
set_option maxRecDepth 20000 in
theorem ggX2_keyAt_X5_at : GoodIn wsX2_keyAt wsX5_at := goodIn_r _ [4] (by decide +kernel) (by decide +kernel)
set_option maxRecDepth 20000 in
theorem gX2_keyAt_X5_at_n23 : GoodIn wsX2_keyAt (wsX5_at) := ggX2_keyAt_X5_at
theorem dX2_keyAt_0 : decode cX2_keyAt 0 = .ok (.aload_n 0, 1) := by decide +kernel
theorem dX2_keyAt_1 : decode cX2_keyAt 1 = .ok (.getfield 9, 3) := by decide +kernel
theorem dX2_keyAt_4 : decode cX2_keyAt 4 = .ok (.iload_n 1, 1) := by decide +kernel
theorem dX2_keyAt_5 : decode cX2_keyAt 5 = .ok (.invokestatic 23, 3) := by decide +kernel
theorem dX2_keyAt_8 : decode cX2_keyAt 8 = .ok (.ireturn, 1) := by decide +kernel
set_option maxRecDepth 20000 in
theorem ggX2_changesOfHalf_J7_fill_53178 : GoodIn wsX2_changesOfHalf wsJ7_fill_53178 := goodIn_r _ [4] (by decide +kernel) (by decide +kernel)
set_option maxRecDepth 20000 in
theorem gX2_changesOfHalf_J7_fill_53178 : GoodIn wsX2_changesOfHalf (va_wsS RX2 27 yJ7_fill_53178 wsJ7_fill_53178) := goodIn_app (goodIn_of _ (by decide +kernel)) ggX2_changesOfHalf_J7_fill_53178
set_option maxRecDepth 20000 in
theorem ggX2_changesOfHalf_X2_changesInSpans : GoodIn wsX2_changesOfHalf wsX2_changesInSpans := goodIn_r _ [9, 10, 11, 12, 13, 8, 14, 15, 16, 17, 18, 19, 20, 21, 22] (by decide +kernel) (by decide +kernel)
set_option maxRecDepth 20000 in
theorem gX2_changesOfHalf_X2_changesInSpans : GoodIn wsX2_changesOfHalf (wsV RX2 33 RX2 yX2_changesInSpans wsX2_changesInSpans) := goodIn_app (goodIn_of _ (by decide +kernel)) ggX2_changesOfHalf_X2_changesInSpans
theorem dX2_changesOfHalf_0 : decode cX2_changesOfHalf 0 = .ok (.iconst 0, 1) := by decide +kernel
theorem dX2_changesOfHalf_1 : decode cX2_changesOfHalf 1 = .ok (.istore_n 2, 1) := by decide +kernel
theorem dX2_changesOfHalf_2 : decode cX2_changesOfHalf 2 = .ok (.iconst 0, 1) := by decide +kernel
theorem dX2_changesOfHalf_3 : decode cX2_changesOfHalf 3 = .ok (.istore_n 3, 1) := by decide +kernel
theorem dX2_changesOfHalf_4 : decode cX2_changesOfHalf 4 = .ok (.iload_n 3, 1) := by decide +kernel
theorem dX2_changesOfHalf_5 : decode cX2_changesOfHalf 5 = .ok (.bipush 6, 2) := by decide +kernel
theorem dX2_changesOfHalf_7 : decode cX2_changesOfHalf 7 = .ok (.if_icmp .ge 23, 3) := by decide +kernel
theorem dX2_changesOfHalf_10 : decode cX2_changesOfHalf 10 = .ok (.aload_n 1, 1) := by decide +kernel
theorem dX2_changesOfHalf_11 : decode cX2_changesOfHalf 11 = .ok (.iconst (-1), 1) := by decide +kernel
theorem dX2_changesOfHalf_12 : decode cX2_changesOfHalf 12 = .ok (.invokestatic 27, 3) := by decide +kernel
theorem dX2_changesOfHalf_15 : decode cX2_changesOfHalf 15 = .ok (.iload_n 2, 1) := by decide +kernel
theorem dX2_changesOfHalf_16 : decode cX2_changesOfHalf 16 = .ok (.aload_n 0, 1) := by decide +kernel
theorem dX2_changesOfHalf_17 : decode cX2_changesOfHalf 17 = .ok (.iload_n 3, 1) := by decide +kernel
theorem dX2_changesOfHalf_18 : decode cX2_changesOfHalf 18 = .ok (.aload_n 1, 1) := by decide +kernel
theorem dX2_changesOfHalf_19 : decode cX2_changesOfHalf 19 = .ok (.invokevirtual 33, 3) := by decide +kernel
theorem dX2_changesOfHalf_22 : decode cX2_changesOfHalf 22 = .ok (.iadd, 1) := by decide +kernel
theorem dX2_changesOfHalf_23 : decode cX2_changesOfHalf 23 = .ok (.istore_n 2, 1) := by decide +kernel
theorem dX2_changesOfHalf_24 : decode cX2_changesOfHalf 24 = .ok (.iinc 3 1, 3) := by decide +kernel
theorem dX2_changesOfHalf_27 : decode cX2_changesOfHalf 27 = .ok (.goto (-23), 3) := by decide +kernel
theorem dX2_changesOfHalf_30 : decode cX2_changesOfHalf 30 = .ok (.iload_n 2, 1) := by decide +kernel
theorem dX2_changesOfHalf_31 : decode cX2_changesOfHalf 31 = .ok (.ireturn, 1) := by decide +kernel
set_option maxRecDepth 20000 in
theorem ggX2_changesInSpans_X2_keyAt : GoodIn wsX2_changesInSpans wsX2_keyAt := goodIn_r _ [6, 7, 8, 9, 10, 13, 14] (by decide +kernel) (by decide +kernel)
set_option maxRecDepth 20000 in
theorem gX2_changesInSpans_X2_keyAt : GoodIn wsX2_changesInSpans (wsV RX2 37 RX2 yX2_keyAt wsX2_keyAt) := goodIn_app (goodIn_of _ (by decide +kernel)) ggX2_changesInSpans_X2_keyAt
set_option maxRecDepth 20000 in
theorem ggX2_changesInSpans_X5_at : GoodIn wsX2_changesInSpans wsX5_at := goodIn_r _ [10] (by decide +kernel) (by decide +kernel)
set_option maxRecDepth 20000 in
theorem gX2_changesInSpans_X5_at_n23 : GoodIn wsX2_changesInSpans (wsX5_at) := ggX2_changesInSpans_X5_at
set_option maxRecDepth 20000 in
theorem ggX2_changesInSpans_X5_put : GoodIn wsX2_changesInSpans wsX5_put := goodIn_r _ [12] (by decide +kernel) (by decide +kernel)
set_option maxRecDepth 20000 in
theorem gX2_changesInSpans_X5_put_n19 : GoodIn wsX2_changesInSpans (wsX5_put) := ggX2_changesInSpans_X5_put
theorem dX2_changesInSpans_0 : decode cX2_changesInSpans 0 = .ok (.iconst 0, 1) := by decide +kernel
theorem dX2_changesInSpans_1 : decode cX2_changesInSpans 1 = .ok (.istore_n 3, 1) := by decide +kernel
theorem dX2_changesInSpans_2 : decode cX2_changesInSpans 2 = .ok (.iconst 0, 1) := by decide +kernel
theorem dX2_changesInSpans_3 : decode cX2_changesInSpans 3 = .ok (.istore 4, 2) := by decide +kernel
theorem dX2_changesInSpans_5 : decode cX2_changesInSpans 5 = .ok (.iload 4, 2) := by decide +kernel
theorem dX2_changesInSpans_7 : decode cX2_changesInSpans 7 = .ok (.aload_n 0, 1) := by decide +kernel
theorem dX2_changesInSpans_8 : decode cX2_changesInSpans 8 = .ok (.getfield 15, 3) := by decide +kernel
theorem dX2_changesInSpans_11 : decode cX2_changesInSpans 11 = .ok (.if_icmp .ge 65, 3) := by decide +kernel
theorem dX2_changesInSpans_14 : decode cX2_changesInSpans 14 = .ok (.aload_n 0, 1) := by decide +kernel
theorem dX2_changesInSpans_15 : decode cX2_changesInSpans 15 = .ok (.iload 4, 2) := by decide +kernel
theorem dX2_changesInSpans_17 : decode cX2_changesInSpans 17 = .ok (.invokevirtual 37, 3) := by decide +kernel
theorem dX2_changesInSpans_20 : decode cX2_changesInSpans 20 = .ok (.iload_n 1, 1) := by decide +kernel
theorem dX2_changesInSpans_21 : decode cX2_changesInSpans 21 = .ok (.ishr, 1) := by decide +kernel
theorem dX2_changesInSpans_22 : decode cX2_changesInSpans 22 = .ok (.iconst 1, 1) := by decide +kernel
theorem dX2_changesInSpans_23 : decode cX2_changesInSpans 23 = .ok (.iand, 1) := by decide +kernel
theorem dX2_changesInSpans_24 : decode cX2_changesInSpans 24 = .ok (.istore 5, 2) := by decide +kernel
theorem dX2_changesInSpans_26 : decode cX2_changesInSpans 26 = .ok (.aload_n 0, 1) := by decide +kernel
theorem dX2_changesInSpans_27 : decode cX2_changesInSpans 27 = .ok (.iload 4, 2) := by decide +kernel
theorem dX2_changesInSpans_29 : decode cX2_changesInSpans 29 = .ok (.invokevirtual 37, 3) := by decide +kernel
theorem dX2_changesInSpans_32 : decode cX2_changesInSpans 32 = .ok (.iload_n 1, 1) := by decide +kernel
theorem dX2_changesInSpans_33 : decode cX2_changesInSpans 33 = .ok (.ishr, 1) := by decide +kernel
theorem dX2_changesInSpans_34 : decode cX2_changesInSpans 34 = .ok (.iconst 1, 1) := by decide +kernel
theorem dX2_changesInSpans_35 : decode cX2_changesInSpans 35 = .ok (.ishr, 1) := by decide +kernel
theorem dX2_changesInSpans_36 : decode cX2_changesInSpans 36 = .ok (.istore 6, 2) := by decide +kernel
theorem dX2_changesInSpans_38 : decode cX2_changesInSpans 38 = .ok (.aload_n 2, 1) := by decide +kernel
theorem dX2_changesInSpans_39 : decode cX2_changesInSpans 39 = .ok (.iload 6, 2) := by decide +kernel
theorem dX2_changesInSpans_41 : decode cX2_changesInSpans 41 = .ok (.invokestatic 23, 3) := by decide +kernel
theorem dX2_changesInSpans_44 : decode cX2_changesInSpans 44 = .ok (.istore 7, 2) := by decide +kernel
theorem dX2_changesInSpans_46 : decode cX2_changesInSpans 46 = .ok (.iload 7, 2) := by decide +kernel
theorem dX2_changesInSpans_48 : decode cX2_changesInSpans 48 = .ok (.iconst (-1), 1) := by decide +kernel
theorem dX2_changesInSpans_49 : decode cX2_changesInSpans 49 = .ok (.if_icmp .eq 13, 3) := by decide +kernel
theorem dX2_changesInSpans_52 : decode cX2_changesInSpans 52 = .ok (.iload 7, 2) := by decide +kernel
theorem dX2_changesInSpans_54 : decode cX2_changesInSpans 54 = .ok (.iload 5, 2) := by decide +kernel
theorem dX2_changesInSpans_56 : decode cX2_changesInSpans 56 = .ok (.if_icmp .eq 6, 3) := by decide +kernel
theorem dX2_changesInSpans_59 : decode cX2_changesInSpans 59 = .ok (.iinc 3 1, 3) := by decide +kernel
theorem dX2_changesInSpans_62 : decode cX2_changesInSpans 62 = .ok (.aload_n 2, 1) := by decide +kernel
theorem dX2_changesInSpans_63 : decode cX2_changesInSpans 63 = .ok (.iload 6, 2) := by decide +kernel
theorem dX2_changesInSpans_65 : decode cX2_changesInSpans 65 = .ok (.iload 5, 2) := by decide +kernel
theorem dX2_changesInSpans_67 : decode cX2_changesInSpans 67 = .ok (.invokestatic 19, 3) := by decide +kernel
theorem dX2_changesInSpans_70 : decode cX2_changesInSpans 70 = .ok (.iinc 4 1, 3) := by decide +kernel
theorem dX2_changesInSpans_73 : decode cX2_changesInSpans 73 = .ok (.goto (-68), 3) := by decide +kernel
theorem dX2_changesInSpans_76 : decode cX2_changesInSpans 76 = .ok (.iload_n 3, 1) := by decide +kernel
theorem dX2_changesInSpans_77 : decode cX2_changesInSpans 77 = .ok (.ireturn, 1) := by decide +kernel
set_option maxRecDepth 20000 in
theorem ggX2_touches_J7_fill_53178 : GoodIn wsX2_touches wsJ7_fill_53178 := goodIn_r _ [5] (by decide +kernel) (by decide +kernel)
set_option maxRecDepth 20000 in
theorem gX2_touches_J7_fill_53178 : GoodIn wsX2_touches (va_wsS RX2 27 yJ7_fill_53178 wsJ7_fill_53178) := goodIn_app (goodIn_of _ (by decide +kernel)) ggX2_touches_J7_fill_53178
set_option maxRecDepth 20000 in
theorem ggX2_touches_X2_keyAt : GoodIn wsX2_touches wsX2_keyAt := goodIn_r _ [10, 11, 12, 13, 14, 20, 21] (by decide +kernel) (by decide +kernel)
set_option maxRecDepth 20000 in
theorem gX2_touches_X2_keyAt : GoodIn wsX2_touches (wsV RX2 37 RX2 yX2_keyAt wsX2_keyAt) := goodIn_app (goodIn_of _ (by decide +kernel)) ggX2_touches_X2_keyAt
set_option maxRecDepth 20000 in
theorem ggX2_touches_X2_touchesToSide : GoodIn wsX2_touches wsX2_touchesToSide := goodIn_r _ [17, 12, 13, 14, 18, 19] (by decide +kernel) (by decide +kernel)
set_option maxRecDepth 20000 in
theorem gX2_touches_X2_touchesToSide : GoodIn wsX2_touches (va_wsS RX2 41 yX2_touchesToSide wsX2_touchesToSide) := goodIn_app (goodIn_of _ (by decide +kernel)) ggX2_touches_X2_touchesToSide
set_option maxRecDepth 20000 in
theorem ggX2_touches_X5_put : GoodIn wsX2_touches wsX5_put := goodIn_r _ [19] (by decide +kernel) (by decide +kernel)
set_option maxRecDepth 20000 in
theorem gX2_touches_X5_put_n19 : GoodIn wsX2_touches (wsX5_put) := ggX2_touches_X5_put
theorem dX2_touches_0 : decode cX2_touches 0 = .ok (.aload_n 1, 1) := by decide +kernel
theorem dX2_touches_1 : decode cX2_touches 1 = .ok (.iconst 0, 1) := by decide +kernel
theorem dX2_touches_2 : decode cX2_touches 2 = .ok (.invokestatic 27, 3) := by decide +kernel
theorem dX2_touches_5 : decode cX2_touches 5 = .ok (.iconst 0, 1) := by decide +kernel
theorem dX2_touches_6 : decode cX2_touches 6 = .ok (.istore_n 2, 1) := by decide +kernel
theorem dX2_touches_7 : decode cX2_touches 7 = .ok (.iconst 0, 1) := by decide +kernel
theorem dX2_touches_8 : decode cX2_touches 8 = .ok (.istore_n 3, 1) := by decide +kernel
theorem dX2_touches_9 : decode cX2_touches 9 = .ok (.iload_n 3, 1) := by decide +kernel
theorem dX2_touches_10 : decode cX2_touches 10 = .ok (.aload_n 0, 1) := by decide +kernel
theorem dX2_touches_11 : decode cX2_touches 11 = .ok (.getfield 15, 3) := by decide +kernel
theorem dX2_touches_14 : decode cX2_touches 14 = .ok (.if_icmp .ge 53, 3) := by decide +kernel
theorem dX2_touches_17 : decode cX2_touches 17 = .ok (.aload_n 0, 1) := by decide +kernel
theorem dX2_touches_18 : decode cX2_touches 18 = .ok (.iload_n 3, 1) := by decide +kernel
theorem dX2_touches_19 : decode cX2_touches 19 = .ok (.invokevirtual 37, 3) := by decide +kernel
theorem dX2_touches_22 : decode cX2_touches 22 = .ok (.istore 4, 2) := by decide +kernel
theorem dX2_touches_24 : decode cX2_touches 24 = .ok (.iload_n 2, 1) := by decide +kernel
theorem dX2_touches_25 : decode cX2_touches 25 = .ok (.iconst 1, 1) := by decide +kernel
theorem dX2_touches_26 : decode cX2_touches 26 = .ok (.iload 4, 2) := by decide +kernel
theorem dX2_touches_28 : decode cX2_touches 28 = .ok (.iconst (-1), 1) := by decide +kernel
theorem dX2_touches_29 : decode cX2_touches 29 = .ok (.iload_n 3, 1) := by decide +kernel
theorem dX2_touches_30 : decode cX2_touches 30 = .ok (.iconst 1, 1) := by decide +kernel
theorem dX2_touches_31 : decode cX2_touches 31 = .ok (.iadd, 1) := by decide +kernel
theorem dX2_touches_32 : decode cX2_touches 32 = .ok (.aload_n 1, 1) := by decide +kernel
theorem dX2_touches_33 : decode cX2_touches 33 = .ok (.invokestatic 41, 3) := by decide +kernel
theorem dX2_touches_36 : decode cX2_touches 36 = .ok (.iadd, 1) := by decide +kernel
theorem dX2_touches_37 : decode cX2_touches 37 = .ok (.iadd, 1) := by decide +kernel
theorem dX2_touches_38 : decode cX2_touches 38 = .ok (.istore_n 2, 1) := by decide +kernel
theorem dX2_touches_39 : decode cX2_touches 39 = .ok (.iload_n 2, 1) := by decide +kernel
theorem dX2_touches_40 : decode cX2_touches 40 = .ok (.iload 4, 2) := by decide +kernel
theorem dX2_touches_42 : decode cX2_touches 42 = .ok (.iconst 1, 1) := by decide +kernel
theorem dX2_touches_43 : decode cX2_touches 43 = .ok (.iload_n 3, 1) := by decide +kernel
theorem dX2_touches_44 : decode cX2_touches 44 = .ok (.iconst 1, 1) := by decide +kernel
theorem dX2_touches_45 : decode cX2_touches 45 = .ok (.iadd, 1) := by decide +kernel
theorem dX2_touches_46 : decode cX2_touches 46 = .ok (.aload_n 1, 1) := by decide +kernel
theorem dX2_touches_47 : decode cX2_touches 47 = .ok (.invokestatic 41, 3) := by decide +kernel
theorem dX2_touches_50 : decode cX2_touches 50 = .ok (.iadd, 1) := by decide +kernel
theorem dX2_touches_51 : decode cX2_touches 51 = .ok (.istore_n 2, 1) := by decide +kernel
theorem dX2_touches_52 : decode cX2_touches 52 = .ok (.aload_n 1, 1) := by decide +kernel
theorem dX2_touches_53 : decode cX2_touches 53 = .ok (.iload 4, 2) := by decide +kernel
theorem dX2_touches_55 : decode cX2_touches 55 = .ok (.iload_n 3, 1) := by decide +kernel
theorem dX2_touches_56 : decode cX2_touches 56 = .ok (.iconst 1, 1) := by decide +kernel
theorem dX2_touches_57 : decode cX2_touches 57 = .ok (.iadd, 1) := by decide +kernel
theorem dX2_touches_58 : decode cX2_touches 58 = .ok (.invokestatic 19, 3) := by decide +kernel
theorem dX2_touches_61 : decode cX2_touches 61 = .ok (.iinc 3 1, 3) := by decide +kernel
theorem dX2_touches_64 : decode cX2_touches 64 = .ok (.goto (-55), 3) := by decide +kernel
theorem dX2_touches_67 : decode cX2_touches 67 = .ok (.iload_n 2, 1) := by decide +kernel
theorem dX2_touches_68 : decode cX2_touches 68 = .ok (.ireturn, 1) := by decide +kernel
set_option maxRecDepth 20000 in
theorem ggX2_touchesToSide_X5_at : GoodIn wsX2_touchesToSide wsX5_at := goodIn_r _ [3] (by decide +kernel) (by decide +kernel)
set_option maxRecDepth 20000 in
theorem gX2_touchesToSide_X5_at_n23 : GoodIn wsX2_touchesToSide (wsX5_at) := ggX2_touchesToSide_X5_at
set_option maxRecDepth 20000 in
theorem ggX2_touchesToSide_X5_put : GoodIn wsX2_touchesToSide wsX5_put := goodIn_r _ [5] (by decide +kernel) (by decide +kernel)
set_option maxRecDepth 20000 in
theorem gX2_touchesToSide_X5_put_n19 : GoodIn wsX2_touchesToSide (wsX5_put) := ggX2_touchesToSide_X5_put
theorem dX2_touchesToSide_0 : decode cX2_touchesToSide 0 = .ok (.iconst 0, 1) := by decide +kernel
theorem dX2_touchesToSide_1 : decode cX2_touchesToSide 1 = .ok (.istore 4, 2) := by decide +kernel
theorem dX2_touchesToSide_3 : decode cX2_touchesToSide 3 = .ok (.aload_n 3, 1) := by decide +kernel
theorem dX2_touchesToSide_4 : decode cX2_touchesToSide 4 = .ok (.iload_n 0, 1) := by decide +kernel
theorem dX2_touchesToSide_5 : decode cX2_touchesToSide 5 = .ok (.invokestatic 23, 3) := by decide +kernel
theorem dX2_touchesToSide_8 : decode cX2_touchesToSide 8 = .ok (.istore 5, 2) := by decide +kernel
theorem dX2_touchesToSide_10 : decode cX2_touchesToSide 10 = .ok (.iconst 1, 1) := by decide +kernel
theorem dX2_touchesToSide_11 : decode cX2_touchesToSide 11 = .ok (.istore 6, 2) := by decide +kernel
theorem dX2_touchesToSide_13 : decode cX2_touchesToSide 13 = .ok (.iload 6, 2) := by decide +kernel
theorem dX2_touchesToSide_15 : decode cX2_touchesToSide 15 = .ok (.bipush 64, 2) := by decide +kernel
theorem dX2_touchesToSide_17 : decode cX2_touchesToSide 17 = .ok (.if_icmp .ge 46, 3) := by decide +kernel
theorem dX2_touchesToSide_20 : decode cX2_touchesToSide 20 = .ok (.iload_n 0, 1) := by decide +kernel
theorem dX2_touchesToSide_21 : decode cX2_touchesToSide 21 = .ok (.iload_n 1, 1) := by decide +kernel
theorem dX2_touchesToSide_22 : decode cX2_touchesToSide 22 = .ok (.iload 6, 2) := by decide +kernel
theorem dX2_touchesToSide_24 : decode cX2_touchesToSide 24 = .ok (.imul, 1) := by decide +kernel
theorem dX2_touchesToSide_25 : decode cX2_touchesToSide 25 = .ok (.iadd, 1) := by decide +kernel
theorem dX2_touchesToSide_26 : decode cX2_touchesToSide 26 = .ok (.istore 7, 2) := by decide +kernel
theorem dX2_touchesToSide_28 : decode cX2_touchesToSide 28 = .ok (.aload_n 3, 1) := by decide +kernel
theorem dX2_touchesToSide_29 : decode cX2_touchesToSide 29 = .ok (.iload 7, 2) := by decide +kernel
theorem dX2_touchesToSide_31 : decode cX2_touchesToSide 31 = .ok (.invokestatic 23, 3) := by decide +kernel
theorem dX2_touchesToSide_34 : decode cX2_touchesToSide 34 = .ok (.istore 8, 2) := by decide +kernel
theorem dX2_touchesToSide_36 : decode cX2_touchesToSide 36 = .ok (.iload 8, 2) := by decide +kernel
theorem dX2_touchesToSide_38 : decode cX2_touchesToSide 38 = .ok (.iload 5, 2) := by decide +kernel
theorem dX2_touchesToSide_40 : decode cX2_touchesToSide 40 = .ok (.if_icmp .le 17, 3) := by decide +kernel
theorem dX2_touchesToSide_43 : decode cX2_touchesToSide 43 = .ok (.iinc 4 1, 3) := by decide +kernel
theorem dX2_touchesToSide_46 : decode cX2_touchesToSide 46 = .ok (.iload 8, 2) := by decide +kernel
theorem dX2_touchesToSide_48 : decode cX2_touchesToSide 48 = .ok (.istore 5, 2) := by decide +kernel
theorem dX2_touchesToSide_50 : decode cX2_touchesToSide 50 = .ok (.aload_n 3, 1) := by decide +kernel
theorem dX2_touchesToSide_51 : decode cX2_touchesToSide 51 = .ok (.iload 7, 2) := by decide +kernel
theorem dX2_touchesToSide_53 : decode cX2_touchesToSide 53 = .ok (.iload_n 2, 1) := by decide +kernel
theorem dX2_touchesToSide_54 : decode cX2_touchesToSide 54 = .ok (.invokestatic 19, 3) := by decide +kernel
theorem dX2_touchesToSide_57 : decode cX2_touchesToSide 57 = .ok (.iinc 6 1, 3) := by decide +kernel
theorem dX2_touchesToSide_60 : decode cX2_touchesToSide 60 = .ok (.goto (-47), 3) := by decide +kernel
theorem dX2_touchesToSide_63 : decode cX2_touchesToSide 63 = .ok (.iload 4, 2) := by decide +kernel
theorem dX2_touchesToSide_65 : decode cX2_touchesToSide 65 = .ok (.ireturn, 1) := by decide +kernel
set_option maxRecDepth 20000 in
theorem ggX3_init_J7_fill_53178 : GoodIn wsX3_init wsJ7_fill_53178 := goodIn_r _ [15] (by decide +kernel) (by decide +kernel)
set_option maxRecDepth 20000 in
theorem gX3_init_J7_fill_53178 : GoodIn wsX3_init (va_wsS RX3 27 yJ7_fill_53178 wsJ7_fill_53178) := goodIn_app (goodIn_of _ (by decide +kernel)) ggX3_init_J7_fill_53178
theorem dX3_init_0 : decode cX3_init 0 = .ok (.aload_n 0, 1) := by decide +kernel
theorem dX3_init_1 : decode cX3_init 1 = .ok (.invokespecial 3, 3) := by decide +kernel
theorem dX3_init_4 : decode cX3_init 4 = .ok (.aload_n 0, 1) := by decide +kernel
theorem dX3_init_5 : decode cX3_init 5 = .ok (.bipush 64, 2) := by decide +kernel
theorem dX3_init_7 : decode cX3_init 7 = .ok (.newarray .int, 2) := by decide +kernel
theorem dX3_init_9 : decode cX3_init 9 = .ok (.putfield 9, 3) := by decide +kernel
theorem dX3_init_12 : decode cX3_init 12 = .ok (.aload_n 0, 1) := by decide +kernel
theorem dX3_init_13 : decode cX3_init 13 = .ok (.bipush 64, 2) := by decide +kernel
theorem dX3_init_15 : decode cX3_init 15 = .ok (.newarray .int, 2) := by decide +kernel
theorem dX3_init_17 : decode cX3_init 17 = .ok (.putfield 15, 3) := by decide +kernel
theorem dX3_init_20 : decode cX3_init 20 = .ok (.aload_n 0, 1) := by decide +kernel
theorem dX3_init_21 : decode cX3_init 21 = .ok (.bipush 64, 2) := by decide +kernel
theorem dX3_init_23 : decode cX3_init 23 = .ok (.newarray .int, 2) := by decide +kernel
theorem dX3_init_25 : decode cX3_init 25 = .ok (.putfield 18, 3) := by decide +kernel
theorem dX3_init_28 : decode cX3_init 28 = .ok (.aload_n 0, 1) := by decide +kernel
theorem dX3_init_29 : decode cX3_init 29 = .ok (.bipush 64, 2) := by decide +kernel
theorem dX3_init_31 : decode cX3_init 31 = .ok (.newarray .int, 2) := by decide +kernel
theorem dX3_init_33 : decode cX3_init 33 = .ok (.putfield 21, 3) := by decide +kernel
theorem dX3_init_36 : decode cX3_init 36 = .ok (.aload_n 0, 1) := by decide +kernel
theorem dX3_init_37 : decode cX3_init 37 = .ok (.bipush 64, 2) := by decide +kernel
theorem dX3_init_39 : decode cX3_init 39 = .ok (.newarray .int, 2) := by decide +kernel
theorem dX3_init_41 : decode cX3_init 41 = .ok (.putfield 24, 3) := by decide +kernel
theorem dX3_init_44 : decode cX3_init 44 = .ok (.aload_n 0, 1) := by decide +kernel
theorem dX3_init_45 : decode cX3_init 45 = .ok (.getfield 9, 3) := by decide +kernel
theorem dX3_init_48 : decode cX3_init 48 = .ok (.iconst (-1), 1) := by decide +kernel
theorem dX3_init_49 : decode cX3_init 49 = .ok (.invokestatic 27, 3) := by decide +kernel
theorem dX3_init_52 : decode cX3_init 52 = .ok (.aload_n 0, 1) := by decide +kernel
theorem dX3_init_53 : decode cX3_init 53 = .ok (.getfield 15, 3) := by decide +kernel
theorem dX3_init_56 : decode cX3_init 56 = .ok (.iconst (-1), 1) := by decide +kernel
theorem dX3_init_57 : decode cX3_init 57 = .ok (.invokestatic 27, 3) := by decide +kernel
theorem dX3_init_60 : decode cX3_init 60 = .ok (.aload_n 0, 1) := by decide +kernel
theorem dX3_init_61 : decode cX3_init 61 = .ok (.getfield 18, 3) := by decide +kernel
theorem dX3_init_64 : decode cX3_init 64 = .ok (.iconst (-1), 1) := by decide +kernel
theorem dX3_init_65 : decode cX3_init 65 = .ok (.invokestatic 27, 3) := by decide +kernel
theorem dX3_init_68 : decode cX3_init 68 = .ok (.aload_n 0, 1) := by decide +kernel
theorem dX3_init_69 : decode cX3_init 69 = .ok (.iconst (-1), 1) := by decide +kernel
theorem dX3_init_70 : decode cX3_init 70 = .ok (.putfield 33, 3) := by decide +kernel
theorem dX3_init_73 : decode cX3_init 73 = .ok (.aload_n 0, 1) := by decide +kernel
theorem dX3_init_74 : decode cX3_init 74 = .ok (.iconst 0, 1) := by decide +kernel
theorem dX3_init_75 : decode cX3_init 75 = .ok (.putfield 37, 3) := by decide +kernel
theorem dX3_init_78 : decode cX3_init 78 = .ok (.return_, 1) := by decide +kernel
set_option maxRecDepth 20000 in
theorem ggX3_leftOf_X5_at : GoodIn wsX3_leftOf wsX5_at := goodIn_r _ [4] (by decide +kernel) (by decide +kernel)
set_option maxRecDepth 20000 in
theorem gX3_leftOf_X5_at_n40 : GoodIn wsX3_leftOf (wsX5_at) := ggX3_leftOf_X5_at
theorem dX3_leftOf_0 : decode cX3_leftOf 0 = .ok (.aload_n 0, 1) := by decide +kernel
theorem dX3_leftOf_1 : decode cX3_leftOf 1 = .ok (.getfield 9, 3) := by decide +kernel
theorem dX3_leftOf_4 : decode cX3_leftOf 4 = .ok (.iload_n 1, 1) := by decide +kernel
theorem dX3_leftOf_5 : decode cX3_leftOf 5 = .ok (.invokestatic 40, 3) := by decide +kernel
theorem dX3_leftOf_8 : decode cX3_leftOf 8 = .ok (.ireturn, 1) := by decide +kernel
set_option maxRecDepth 20000 in
theorem ggX3_rightOf_X5_at : GoodIn wsX3_rightOf wsX5_at := goodIn_r _ [4] (by decide +kernel) (by decide +kernel)
set_option maxRecDepth 20000 in
theorem gX3_rightOf_X5_at_n40 : GoodIn wsX3_rightOf (wsX5_at) := ggX3_rightOf_X5_at
theorem dX3_rightOf_0 : decode cX3_rightOf 0 = .ok (.aload_n 0, 1) := by decide +kernel
theorem dX3_rightOf_1 : decode cX3_rightOf 1 = .ok (.getfield 15, 3) := by decide +kernel
theorem dX3_rightOf_4 : decode cX3_rightOf 4 = .ok (.iload_n 1, 1) := by decide +kernel
theorem dX3_rightOf_5 : decode cX3_rightOf 5 = .ok (.invokestatic 40, 3) := by decide +kernel
theorem dX3_rightOf_8 : decode cX3_rightOf 8 = .ok (.ireturn, 1) := by decide +kernel
set_option maxRecDepth 20000 in
theorem ggX3_upOf_X5_at : GoodIn wsX3_upOf wsX5_at := goodIn_r _ [4] (by decide +kernel) (by decide +kernel)
set_option maxRecDepth 20000 in
theorem gX3_upOf_X5_at_n40 : GoodIn wsX3_upOf (wsX5_at) := ggX3_upOf_X5_at
theorem dX3_upOf_0 : decode cX3_upOf 0 = .ok (.aload_n 0, 1) := by decide +kernel
theorem dX3_upOf_1 : decode cX3_upOf 1 = .ok (.getfield 18, 3) := by decide +kernel
theorem dX3_upOf_4 : decode cX3_upOf 4 = .ok (.iload_n 1, 1) := by decide +kernel
theorem dX3_upOf_5 : decode cX3_upOf 5 = .ok (.invokestatic 40, 3) := by decide +kernel
theorem dX3_upOf_8 : decode cX3_upOf 8 = .ok (.ireturn, 1) := by decide +kernel
theorem dX3_sizeOf_0 : decode cX3_sizeOf 0 = .ok (.iload_n 1, 1) := by decide +kernel
theorem dX3_sizeOf_1 : decode cX3_sizeOf 1 = .ok (.ifCond .lt 21, 3) := by decide +kernel
theorem dX3_sizeOf_4 : decode cX3_sizeOf 4 = .ok (.iload_n 1, 1) := by decide +kernel
theorem dX3_sizeOf_5 : decode cX3_sizeOf 5 = .ok (.aload_n 0, 1) := by decide +kernel
theorem dX3_sizeOf_6 : decode cX3_sizeOf 6 = .ok (.getfield 21, 3) := by decide +kernel
theorem dX3_sizeOf_9 : decode cX3_sizeOf 9 = .ok (.arraylength, 1) := by decide +kernel
theorem dX3_sizeOf_10 : decode cX3_sizeOf 10 = .ok (.if_icmp .ge 12, 3) := by decide +kernel
theorem dX3_sizeOf_13 : decode cX3_sizeOf 13 = .ok (.aload_n 0, 1) := by decide +kernel
theorem dX3_sizeOf_14 : decode cX3_sizeOf 14 = .ok (.getfield 21, 3) := by decide +kernel
theorem dX3_sizeOf_17 : decode cX3_sizeOf 17 = .ok (.iload_n 1, 1) := by decide +kernel
theorem dX3_sizeOf_18 : decode cX3_sizeOf 18 = .ok (.iaload, 1) := by decide +kernel
theorem dX3_sizeOf_19 : decode cX3_sizeOf 19 = .ok (.goto 4, 3) := by decide +kernel
theorem dX3_sizeOf_22 : decode cX3_sizeOf 22 = .ok (.iconst 0, 1) := by decide +kernel
theorem dX3_sizeOf_23 : decode cX3_sizeOf 23 = .ok (.ireturn, 1) := by decide +kernel
set_option maxRecDepth 20000 in
theorem ggX3_holds_X3_sizeOf : GoodIn wsX3_holds wsX3_sizeOf := goodIn_r _ [5, 6, 7, 8, 9, 10, 11, 12, 13] (by decide +kernel) (by decide +kernel)
set_option maxRecDepth 20000 in
theorem gX3_holds_X3_sizeOf : GoodIn wsX3_holds (wsV RX3 44 RX3 yX3_sizeOf wsX3_sizeOf) := goodIn_app (goodIn_of _ (by decide +kernel)) ggX3_holds_X3_sizeOf
theorem dX3_holds_0 : decode cX3_holds 0 = .ok (.aload_n 0, 1) := by decide +kernel
theorem dX3_holds_1 : decode cX3_holds 1 = .ok (.iload_n 1, 1) := by decide +kernel
theorem dX3_holds_2 : decode cX3_holds 2 = .ok (.invokevirtual 44, 3) := by decide +kernel
theorem dX3_holds_5 : decode cX3_holds 5 = .ok (.ifCond .le 7, 3) := by decide +kernel
theorem dX3_holds_8 : decode cX3_holds 8 = .ok (.iconst 1, 1) := by decide +kernel
theorem dX3_holds_9 : decode cX3_holds 9 = .ok (.goto 4, 3) := by decide +kernel
theorem dX3_holds_12 : decode cX3_holds 12 = .ok (.iconst 0, 1) := by decide +kernel
theorem dX3_holds_13 : decode cX3_holds 13 = .ok (.ireturn, 1) := by decide +kernel
set_option maxRecDepth 20000 in
theorem ggX3_keysHeld_X3_sizeOf : GoodIn wsX3_keysHeld wsX3_sizeOf := goodIn_r _ [6, 7, 8, 9, 10, 11, 12, 13, 14] (by decide +kernel) (by decide +kernel)
set_option maxRecDepth 20000 in
theorem gX3_keysHeld_X3_sizeOf : GoodIn wsX3_keysHeld (wsV RX3 44 RX3 yX3_sizeOf wsX3_sizeOf) := goodIn_app (goodIn_of _ (by decide +kernel)) ggX3_keysHeld_X3_sizeOf
theorem dX3_keysHeld_0 : decode cX3_keysHeld 0 = .ok (.aload_n 0, 1) := by decide +kernel
theorem dX3_keysHeld_1 : decode cX3_keysHeld 1 = .ok (.aload_n 0, 1) := by decide +kernel
theorem dX3_keysHeld_2 : decode cX3_keysHeld 2 = .ok (.getfield 33, 3) := by decide +kernel
theorem dX3_keysHeld_5 : decode cX3_keysHeld 5 = .ok (.invokevirtual 44, 3) := by decide +kernel
theorem dX3_keysHeld_8 : decode cX3_keysHeld 8 = .ok (.ireturn, 1) := by decide +kernel
set_option maxRecDepth 20000 in
theorem ggX3_depthOf_X3_holds : GoodIn wsX3_depthOf wsX3_holds := goodIn_r _ [5, 6, 7, 8, 4, 9, 10, 19, 20, 21, 22, 23, 24, 25] (by decide +kernel) (by decide +kernel)
set_option maxRecDepth 20000 in
theorem gX3_depthOf_X3_holds : GoodIn wsX3_depthOf (wsV RX3 48 RX3 yX3_holds wsX3_holds) := goodIn_app (goodIn_of _ (by decide +kernel)) ggX3_depthOf_X3_holds
set_option maxRecDepth 20000 in
theorem ggX3_depthOf_X3_upOf : GoodIn wsX3_depthOf wsX3_upOf := goodIn_r _ [14, 15, 16, 17, 18, 19, 20, 21, 22, 23, 24, 25] (by decide +kernel) (by decide +kernel)
set_option maxRecDepth 20000 in
theorem gX3_depthOf_X3_upOf : GoodIn wsX3_depthOf (wsV RX3 52 RX3 yX3_upOf wsX3_upOf) := goodIn_app (goodIn_of _ (by decide +kernel)) ggX3_depthOf_X3_upOf
theorem dX3_depthOf_0 : decode cX3_depthOf 0 = .ok (.iconst 0, 1) := by decide +kernel
theorem dX3_depthOf_1 : decode cX3_depthOf 1 = .ok (.istore_n 2, 1) := by decide +kernel
theorem dX3_depthOf_2 : decode cX3_depthOf 2 = .ok (.aload_n 0, 1) := by decide +kernel
theorem dX3_depthOf_3 : decode cX3_depthOf 3 = .ok (.iload_n 1, 1) := by decide +kernel
theorem dX3_depthOf_4 : decode cX3_depthOf 4 = .ok (.invokevirtual 48, 3) := by decide +kernel
theorem dX3_depthOf_7 : decode cX3_depthOf 7 = .ok (.ifCond .eq 7, 3) := by decide +kernel
theorem dX3_depthOf_10 : decode cX3_depthOf 10 = .ok (.iload_n 1, 1) := by decide +kernel
theorem dX3_depthOf_11 : decode cX3_depthOf 11 = .ok (.goto 4, 3) := by decide +kernel
theorem dX3_depthOf_14 : decode cX3_depthOf 14 = .ok (.iconst (-1), 1) := by decide +kernel
theorem dX3_depthOf_15 : decode cX3_depthOf 15 = .ok (.istore_n 3, 1) := by decide +kernel
theorem dX3_depthOf_16 : decode cX3_depthOf 16 = .ok (.iload_n 2, 1) := by decide +kernel
theorem dX3_depthOf_17 : decode cX3_depthOf 17 = .ok (.bipush 64, 2) := by decide +kernel
theorem dX3_depthOf_19 : decode cX3_depthOf 19 = .ok (.if_icmp .ge 20, 3) := by decide +kernel
theorem dX3_depthOf_22 : decode cX3_depthOf 22 = .ok (.iload_n 3, 1) := by decide +kernel
