def RX0 : String := "Gaitwright$Damage"
def TX0 : u_T := fun k => match k with
  | 0 => ("Gaitwright$Damage", "count", "I", false)
  | 1 => ("Gaitwright$Damage", "firstWhat", "I", false)
  | 2 => ("Gaitwright$Damage", "firstPoint", "I", false)
  | _ => ("Gaitwright$Damage", "firstOfAct", "I", false)
def tyX0 : Nat → FieldType := fun k => match k with
  | 0 => .int
  | 1 => .int
  | 2 => .int
  | _ => .int
abbrev wsX00 : List Cond := u_ws RX0 TX0 4
theorem nmX0 : ∀ a, a < 4 → ∀ b, b < 4 → a ≠ b → (TX0 a).2.1 ≠ (TX0 b).2.1 := by decide +kernel
theorem tyX0_ok : ∀ k, k < 4 → parseFieldDescriptor (TX0 k).2.2.1 = some (tyX0 k) := by decide +kernel
abbrev cX0_init : ByteArray := prog_2_method_1_code
def yX0_init : MethodName := ⟨RX0, "<init>", "()V"⟩
abbrev cX0_forget : ByteArray := prog_2_method_2_code
def yX0_forget : MethodName := ⟨RX0, "forget", "()V"⟩
abbrev cX0_beginAct : ByteArray := prog_2_method_3_code
def yX0_beginAct : MethodName := ⟨RX0, "beginAct", "()V"⟩
abbrev cX0_tell : ByteArray := prog_2_method_4_code
def yX0_tell : MethodName := ⟨RX0, "tell", "(II)V"⟩
def RX1 : String := "Gaitwright$Falls"
def TX1 : u_T := fun k => match k with
  | 0 => ("Gaitwright$Falls", "direction", "LGaitwright$Row;", true)
  | 1 => ("Gaitwright$Falls", "what", "LGaitwright$Row;", true)
  | 2 => ("Gaitwright$Falls", "point", "LGaitwright$Row;", true)
  | _ => ("Gaitwright$Falls", "count", "I", false)
def tyX1 : Nat → FieldType := fun k => match k with
  | 0 => .object "Gaitwright$Row"
  | 1 => .object "Gaitwright$Row"
  | 2 => .object "Gaitwright$Row"
  | _ => .int
abbrev wsX10 : List Cond := u_ws RX1 TX1 4
theorem nmX1 : ∀ a, a < 4 → ∀ b, b < 4 → a ≠ b → (TX1 a).2.1 ≠ (TX1 b).2.1 := by decide +kernel
theorem tyX1_ok : ∀ k, k < 4 → parseFieldDescriptor (TX1 k).2.2.1 = some (tyX1 k) := by decide +kernel
abbrev cX1_init : ByteArray := prog_3_method_1_code
def yX1_init : MethodName := ⟨RX1, "<init>", "()V"⟩
abbrev cX1_kept : ByteArray := prog_3_method_2_code
def yX1_kept : MethodName := ⟨RX1, "kept", "()I"⟩
abbrev cX1_keep : ByteArray := prog_3_method_3_code
def yX1_keep : MethodName := ⟨RX1, "keep", "(III)V"⟩
def RX2 : String := "Gaitwright$Frame"
def TX2 : u_T := fun k => match k with
  | 0 => ("Gaitwright$Frame", "hipX", "LGaitwright$Row;", true)
  | 1 => ("Gaitwright$Frame", "hipY", "LGaitwright$Row;", true)
  | 2 => ("Gaitwright$Frame", "reach", "LGaitwright$Row;", true)
  | 3 => ("Gaitwright$Frame", "legs", "I", false)
  | 4 => ("Gaitwright$Frame", "loadWeight", "I", false)
  | 5 => ("Gaitwright$Frame", "loadX", "I", false)
  | _ => ("Gaitwright$Frame", "loadY", "I", false)
def tyX2 : Nat → FieldType := fun k => match k with
  | 0 => .object "Gaitwright$Row"
  | 1 => .object "Gaitwright$Row"
  | 2 => .object "Gaitwright$Row"
  | 3 => .int
  | 4 => .int
  | 5 => .int
  | _ => .int
abbrev wsX20 : List Cond := u_ws RX2 TX2 7
theorem nmX2 : ∀ a, a < 7 → ∀ b, b < 7 → a ≠ b → (TX2 a).2.1 ≠ (TX2 b).2.1 := by decide +kernel
theorem tyX2_ok : ∀ k, k < 7 → parseFieldDescriptor (TX2 k).2.2.1 = some (tyX2 k) := by decide +kernel
abbrev cX2_init : ByteArray := prog_4_method_1_code
def yX2_init : MethodName := ⟨RX2, "<init>", "()V"⟩
abbrev cX2_join : ByteArray := prog_4_method_2_code
def yX2_join : MethodName := ⟨RX2, "join", "(III)I"⟩
abbrev cX2_carry : ByteArray := prog_4_method_3_code
def yX2_carry : MethodName := ⟨RX2, "carry", "(III)V"⟩
abbrev cX2_weight : ByteArray := prog_4_method_4_code
def yX2_weight : MethodName := ⟨RX2, "weight", "()I"⟩
def RX3 : String := "Gaitwright$Gait"
def TX3 : u_T := fun k => match k with
  | 0 => ("Gaitwright$Gait", "leg", "LGaitwright$Row;", true)
  | 1 => ("Gaitwright$Gait", "footX", "LGaitwright$Row;", true)
  | 2 => ("Gaitwright$Gait", "footY", "LGaitwright$Row;", true)
  | 3 => ("Gaitwright$Gait", "bodyX", "LGaitwright$Row;", true)
  | 4 => ("Gaitwright$Gait", "bodyY", "LGaitwright$Row;", true)
  | 5 => ("Gaitwright$Gait", "count", "I", false)
  | _ => ("Gaitwright$Gait", "next", "I", false)
def tyX3 : Nat → FieldType := fun k => match k with
  | 0 => .object "Gaitwright$Row"
  | 1 => .object "Gaitwright$Row"
  | 2 => .object "Gaitwright$Row"
  | 3 => .object "Gaitwright$Row"
  | 4 => .object "Gaitwright$Row"
  | 5 => .int
  | _ => .int
abbrev wsX30 : List Cond := u_ws RX3 TX3 7
theorem nmX3 : ∀ a, a < 7 → ∀ b, b < 7 → a ≠ b → (TX3 a).2.1 ≠ (TX3 b).2.1 := by decide +kernel
theorem tyX3_ok : ∀ k, k < 7 → parseFieldDescriptor (TX3 k).2.2.1 = some (tyX3 k) := by decide +kernel
abbrev cX3_init : ByteArray := prog_5_method_1_code
def yX3_init : MethodName := ⟨RX3, "<init>", "()V"⟩
abbrev cX3_add : ByteArray := prog_5_method_2_code
def yX3_add : MethodName := ⟨RX3, "add", "(IIIII)I"⟩
abbrev cX3_clear : ByteArray := prog_5_method_3_code
def yX3_clear : MethodName := ⟨RX3, "clear", "()V"⟩
abbrev cX3_goOn : ByteArray := prog_5_method_4_code
def yX3_goOn : MethodName := ⟨RX3, "goOn", "()V"⟩
def RX4 : String := "Gaitwright$Hull"
def TX4 : u_T := fun k => match k with
  | 0 => ("Gaitwright$Hull", "corners", "LGaitwright$Row;", true)
  | 1 => ("Gaitwright$Hull", "points", "LGaitwright$Row;", true)
  | _ => ("Gaitwright$Hull", "size", "I", false)
def tyX4 : Nat → FieldType := fun k => match k with
  | 0 => .object "Gaitwright$Row"
  | 1 => .object "Gaitwright$Row"
  | _ => .int
abbrev wsX40 : List Cond := u_ws RX4 TX4 3
theorem nmX4 : ∀ a, a < 3 → ∀ b, b < 3 → a ≠ b → (TX4 a).2.1 ≠ (TX4 b).2.1 := by decide +kernel
theorem tyX4_ok : ∀ k, k < 3 → parseFieldDescriptor (TX4 k).2.2.1 = some (tyX4 k) := by decide +kernel
abbrev cX4_init : ByteArray := prog_6_method_1_code
def yX4_init : MethodName := ⟨RX4, "<init>", "()V"⟩
abbrev cX4_wrap : ByteArray := prog_6_method_2_code
def yX4_wrap : MethodName := ⟨RX4, "wrap", "(LGaitwright$Row;I)V"⟩
abbrev cX4_isFurtherOut : ByteArray := prog_6_method_3_code
def yX4_isFurtherOut : MethodName := ⟨RX4, "isFurtherOut", "(III)Z"⟩
abbrev cX4_edgeByWay : ByteArray := prog_6_method_4_code
def yX4_edgeByWay : MethodName := ⟨RX4, "edgeByWay", "(IIIII)I"⟩
abbrev cX4_squareOfEdge : ByteArray := prog_6_method_5_code
def yX4_squareOfEdge : MethodName := ⟨RX4, "squareOfEdge", "(II)I"⟩
abbrev cX4_holds : ByteArray := prog_6_method_6_code
def yX4_holds : MethodName := ⟨RX4, "holds", "(III)Z"⟩
abbrev cX4_leastSquare : ByteArray := prog_6_method_7_code
def yX4_leastSquare : MethodName := ⟨RX4, "leastSquare", "(III)F"⟩
def RX5 : String := "Gaitwright$Land"
def TX5 : u_T := fun k => match k with
  | 0 => ("Gaitwright$Land", "height", "LGaitwright$Row;", true)
  | 1 => ("Gaitwright$Land", "firmness", "LGaitwright$Row;", true)
  | 2 => ("Gaitwright$Land", "grip", "LGaitwright$Row;", true)
  | _ => ("Gaitwright$Land", "mapped", "LGaitwright$Row;", true)
def tyX5 : Nat → FieldType := fun k => match k with
  | 0 => .object "Gaitwright$Row"
  | 1 => .object "Gaitwright$Row"
  | 2 => .object "Gaitwright$Row"
  | _ => .object "Gaitwright$Row"
abbrev wsX50 : List Cond := u_ws RX5 TX5 4
theorem nmX5 : ∀ a, a < 4 → ∀ b, b < 4 → a ≠ b → (TX5 a).2.1 ≠ (TX5 b).2.1 := by decide +kernel
theorem tyX5_ok : ∀ k, k < 4 → parseFieldDescriptor (TX5 k).2.2.1 = some (tyX5 k) := by decide +kernel
abbrev cX5_init : ByteArray := prog_7_method_1_code
def yX5_init : MethodName := ⟨RX5, "<init>", "()V"⟩
abbrev cX5_learn : ByteArray := prog_7_method_2_code
def yX5_learn : MethodName := ⟨RX5, "learn", "(I)V"⟩
abbrev cX5_sag : ByteArray := prog_7_method_3_code
def yX5_sag : MethodName := ⟨RX5, "sag", "(I)V"⟩
abbrev cX5_slipFrom : ByteArray := prog_7_method_4_code
def yX5_slipFrom : MethodName := ⟨RX5, "slipFrom", "(I)I"⟩
abbrev cX5_neighbour : ByteArray := prog_7_method_5_code
def yX5_neighbour : MethodName := ⟨RX5, "neighbour", "(II)I"⟩
def RX6 : String := "Gaitwright$Pieces"
def TX6 : u_T := fun k => match k with
  | 0 => ("Gaitwright$Pieces", "x", "LGaitwright$Row;", true)
  | 1 => ("Gaitwright$Pieces", "y", "LGaitwright$Row;", true)
  | _ => ("Gaitwright$Pieces", "count", "I", false)
def tyX6 : Nat → FieldType := fun k => match k with
  | 0 => .object "Gaitwright$Row"
  | 1 => .object "Gaitwright$Row"
  | _ => .int
abbrev wsX60 : List Cond := u_ws RX6 TX6 3
theorem nmX6 : ∀ a, a < 3 → ∀ b, b < 3 → a ≠ b → (TX6 a).2.1 ≠ (TX6 b).2.1 := by decide +kernel
theorem tyX6_ok : ∀ k, k < 3 → parseFieldDescriptor (TX6 k).2.2.1 = some (tyX6 k) := by decide +kernel
abbrev cX6_init : ByteArray := prog_8_method_1_code
def yX6_init : MethodName := ⟨RX6, "<init>", "()V"⟩
abbrev cX6_gather : ByteArray := prog_8_method_2_code
def yX6_gather : MethodName := ⟨RX6, "gather", "(LGaitwright$Row;III)V"⟩
abbrev cX6_holdMoment : ByteArray := prog_8_method_3_code
def yX6_holdMoment : MethodName := ⟨RX6, "holdMoment", "()Z"⟩
abbrev cX6_isOnLine : ByteArray := prog_8_method_4_code
def yX6_isOnLine : MethodName := ⟨RX6, "isOnLine", "(II)Z"⟩
abbrev cX6_isInTriangle : ByteArray := prog_8_method_5_code
def yX6_isInTriangle : MethodName := ⟨RX6, "isInTriangle", "(III)Z"⟩
abbrev cX6_turn : ByteArray := prog_8_method_6_code
def yX6_turn : MethodName := ⟨RX6, "turn", "(II)I"⟩
def RX7 : String := "Gaitwright$Planner"
def TX7 : u_T := fun k => match k with
  | 0 => ("Gaitwright$Planner", "frame", "LGaitwright$Frame;", true)
  | 1 => ("Gaitwright$Planner", "behind", "[LGaitwright$Stance;", true)
  | _ => ("Gaitwright$Planner", "goal", "I", false)
def tyX7 : Nat → FieldType := fun k => match k with
  | 0 => .object "Gaitwright$Frame"
  | 1 => .array (.object "Gaitwright$Stance")
  | _ => .int
abbrev wsX70 : List Cond := u_ws RX7 TX7 3
theorem nmX7 : ∀ a, a < 3 → ∀ b, b < 3 → a ≠ b → (TX7 a).2.1 ≠ (TX7 b).2.1 := by decide +kernel
theorem tyX7_ok : ∀ k, k < 3 → parseFieldDescriptor (TX7 k).2.2.1 = some (tyX7 k) := by decide +kernel
abbrev cX7_init : ByteArray := prog_9_method_1_code
def yX7_init : MethodName := ⟨RX7, "<init>", "(LGaitwright$Land;LGaitwright$Frame;LGaitwright$Hull;)V"⟩
abbrev cX7_start : ByteArray := prog_9_method_2_code
def yX7_start : MethodName := ⟨RX7, "start", "(LGaitwright$Stance;I)V"⟩
abbrev cX7_away : ByteArray := prog_9_method_3_code
def yX7_away : MethodName := ⟨RX7, "away", "(I)I"⟩
abbrev cX7_isMade : ByteArray := prog_9_method_4_code
def yX7_isMade : MethodName := ⟨RX7, "isMade", "(II)Z"⟩
def RX8 : String := "Gaitwright$Row"
def TX8 : u_T := fun k => match k with
  | _ => ("Gaitwright$Row", "cells", "[I", true)
def tyX8 : Nat → FieldType := fun k => match k with
  | _ => .array .int
abbrev wsX80 : List Cond := u_ws RX8 TX8 1
theorem nmX8 : ∀ a, a < 1 → ∀ b, b < 1 → a ≠ b → (TX8 a).2.1 ≠ (TX8 b).2.1 := by decide +kernel
theorem tyX8_ok : ∀ k, k < 1 → parseFieldDescriptor (TX8 k).2.2.1 = some (tyX8 k) := by decide +kernel
abbrev cX8_init : ByteArray := prog_10_method_1_code
def yX8_init : MethodName := ⟨RX8, "<init>", "(II)V"⟩
abbrev cX8_at : ByteArray := prog_10_method_2_code
def yX8_at : MethodName := ⟨RX8, "at", "(I)I"⟩
abbrev cX8_put : ByteArray := prog_10_method_3_code
def yX8_put : MethodName := ⟨RX8, "put", "(II)V"⟩
abbrev cX8_fill : ByteArray := prog_10_method_4_code
def yX8_fill : MethodName := ⟨RX8, "fill", "(I)V"⟩
abbrev cX8_copy : ByteArray := prog_10_method_5_code
def yX8_copy : MethodName := ⟨RX8, "copy", "(LGaitwright$Row;)V"⟩
def RX9 : String := "Gaitwright$Stance"
def TX9 : u_T := fun k => match k with
  | 0 => ("Gaitwright$Stance", "land", "LGaitwright$Land;", true)
  | 1 => ("Gaitwright$Stance", "frame", "LGaitwright$Frame;", true)
  | 2 => ("Gaitwright$Stance", "hull", "LGaitwright$Hull;", true)
  | 3 => ("Gaitwright$Stance", "feet", "LGaitwright$Row;", true)
  | 4 => ("Gaitwright$Stance", "bodyX", "I", false)
  | _ => ("Gaitwright$Stance", "bodyY", "I", false)
def tyX9 : Nat → FieldType := fun k => match k with
  | 0 => .object "Gaitwright$Land"
  | 1 => .object "Gaitwright$Frame"
  | 2 => .object "Gaitwright$Hull"
  | 3 => .object "Gaitwright$Row"
  | 4 => .int
  | _ => .int
abbrev wsX90 : List Cond := u_ws RX9 TX9 6
theorem nmX9 : ∀ a, a < 6 → ∀ b, b < 6 → a ≠ b → (TX9 a).2.1 ≠ (TX9 b).2.1 := by decide +kernel
theorem tyX9_ok : ∀ k, k < 6 → parseFieldDescriptor (TX9 k).2.2.1 = some (tyX9 k) := by decide +kernel
abbrev cX9_init : ByteArray := prog_11_method_1_code
def yX9_init : MethodName := ⟨RX9, "<init>", "(LGaitwright$Land;LGaitwright$Frame;LGaitwright$Hull;)V"⟩
abbrev cX9_copy : ByteArray := prog_11_method_2_code
def yX9_copy : MethodName := ⟨RX9, "copy", "(LGaitwright$Stance;)V"⟩
abbrev cX9_hipX : ByteArray := prog_11_method_3_code
def yX9_hipX : MethodName := ⟨RX9, "hipX", "(I)I"⟩
abbrev cX9_hipY : ByteArray := prog_11_method_4_code
def yX9_hipY : MethodName := ⟨RX9, "hipY", "(I)I"⟩
abbrev cX9_isInReach : ByteArray := prog_11_method_5_code
def yX9_isInReach : MethodName := ⟨RX9, "isInReach", "(II)Z"⟩
abbrev cX9_far : ByteArray := prog_11_method_6_code
def yX9_far : MethodName := ⟨RX9, "far", "(II)I"⟩
abbrev cX9_isTaken : ByteArray := prog_11_method_7_code
def yX9_isTaken : MethodName := ⟨RX9, "isTaken", "(II)Z"⟩
abbrev cX9_down : ByteArray := prog_11_method_8_code
def yX9_down : MethodName := ⟨RX9, "down", "()I"⟩
abbrev cX9_level : ByteArray := prog_11_method_9_code
def yX9_level : MethodName := ⟨RX9, "level", "(I)I"⟩
abbrev cX9_pressure : ByteArray := prog_11_method_10_code
def yX9_pressure : MethodName := ⟨RX9, "pressure", "()I"⟩
abbrev cX9_sinking : ByteArray := prog_11_method_11_code
def yX9_sinking : MethodName := ⟨RX9, "sinking", "()I"⟩
abbrev cX9_raise : ByteArray := prog_11_method_12_code
def yX9_raise : MethodName := ⟨RX9, "raise", "(I)V"⟩
abbrev cX9_sinkAway : ByteArray := prog_11_method_13_code
def yX9_sinkAway : MethodName := ⟨RX9, "sinkAway", "()Z"⟩
abbrev cX9_momentX : ByteArray := prog_11_method_14_code
def yX9_momentX : MethodName := ⟨RX9, "momentX", "()I"⟩
abbrev cX9_momentY : ByteArray := prog_11_method_15_code
def yX9_momentY : MethodName := ⟨RX9, "momentY", "()I"⟩
abbrev cX9_holdsWithout : ByteArray := prog_11_method_16_code
def yX9_holdsWithout : MethodName := ⟨RX9, "holdsWithout", "(I)Z"⟩
abbrev cX9_direction : ByteArray := prog_11_method_17_code
def yX9_direction : MethodName := ⟨RX9, "direction", "()I"⟩
abbrev cX9_moveBody : ByteArray := prog_11_method_18_code
def yX9_moveBody : MethodName := ⟨RX9, "moveBody", "(II)Z"⟩
abbrev cX9_step : ByteArray := prog_11_method_19_code
def yX9_step : MethodName := ⟨RX9, "step", "(I)Z"⟩
abbrev cX9_bestPoint : ByteArray := prog_11_method_20_code
def yX9_bestPoint : MethodName := ⟨RX9, "bestPoint", "(I)I"⟩
def RX10 : String := "Gaitwright"
def TX10 : u_T := fun k => match k with
  | 0 => ("Gaitwright", "land", "LGaitwright$Land;", true)
  | 1 => ("Gaitwright", "frame", "LGaitwright$Frame;", true)
  | 2 => ("Gaitwright", "stance", "LGaitwright$Stance;", true)
  | 3 => ("Gaitwright", "trial", "LGaitwright$Stance;", true)
  | 4 => ("Gaitwright", "pieces", "LGaitwright$Pieces;", true)
  | 5 => ("Gaitwright", "damage", "LGaitwright$Damage;", true)
  | 6 => ("Gaitwright", "falls", "LGaitwright$Falls;", true)
  | 7 => ("Gaitwright", "gait", "LGaitwright$Gait;", true)
  | 8 => ("Gaitwright", "planner", "LGaitwright$Planner;", true)
  | 9 => ("Gaitwright", "stands", "Z", false)
  | _ => ("Gaitwright", "energy", "I", false)
def tyX10 : Nat → FieldType := fun k => match k with
  | 0 => .object "Gaitwright$Land"
  | 1 => .object "Gaitwright$Frame"
  | 2 => .object "Gaitwright$Stance"
  | 3 => .object "Gaitwright$Stance"
  | 4 => .object "Gaitwright$Pieces"
  | 5 => .object "Gaitwright$Damage"
  | 6 => .object "Gaitwright$Falls"
  | 7 => .object "Gaitwright$Gait"
  | 8 => .object "Gaitwright$Planner"
  | 9 => .boolean
  | _ => .int
abbrev wsX100 : List Cond := u_ws RX10 TX10 11
theorem nmX10 : ∀ a, a < 11 → ∀ b, b < 11 → a ≠ b → (TX10 a).2.1 ≠ (TX10 b).2.1 := by decide +kernel
theorem tyX10_ok : ∀ k, k < 11 → parseFieldDescriptor (TX10 k).2.2.1 = some (tyX10 k) := by decide +kernel
abbrev cX10_init : ByteArray := prog_1_method_1_code
def yX10_init : MethodName := ⟨RX10, "<init>", "()V"⟩
abbrev cX10_ground : ByteArray := prog_1_method_2_code
def yX10_ground : MethodName := ⟨RX10, "ground", "(IIIII)I"⟩
abbrev cX10_chart : ByteArray := prog_1_method_3_code
def yX10_chart : MethodName := ⟨RX10, "chart", "(III)I"⟩
abbrev cX10_leg : ByteArray := prog_1_method_4_code
def yX10_leg : MethodName := ⟨RX10, "leg", "(III)I"⟩
abbrev cX10_charge : ByteArray := prog_1_method_5_code
def yX10_charge : MethodName := ⟨RX10, "charge", "(I)I"⟩
abbrev cX10_phase : ByteArray := prog_1_method_6_code
def yX10_phase : MethodName := ⟨RX10, "phase", "(IIIII)I"⟩
abbrev cX10_halt : ByteArray := prog_1_method_7_code
def yX10_halt : MethodName := ⟨RX10, "halt", "()I"⟩
abbrev cX10_load : ByteArray := prog_1_method_8_code
def yX10_load : MethodName := ⟨RX10, "load", "(III)I"⟩
abbrev cX10_rise : ByteArray := prog_1_method_9_code
def yX10_rise : MethodName := ⟨RX10, "rise", "()I"⟩
abbrev cX10_lift : ByteArray := prog_1_method_10_code
def yX10_lift : MethodName := ⟨RX10, "lift", "(I)I"⟩
abbrev cX10_place : ByteArray := prog_1_method_11_code
def yX10_place : MethodName := ⟨RX10, "place", "(III)I"⟩
abbrev cX10_shift : ByteArray := prog_1_method_12_code
def yX10_shift : MethodName := ⟨RX10, "shift", "(II)I"⟩
abbrev cX10_walk : ByteArray := prog_1_method_13_code
def yX10_walk : MethodName := ⟨RX10, "walk", "(I)I"⟩
abbrev cX10_machine : ByteArray := prog_1_method_14_code
def yX10_machine : MethodName := ⟨RX10, "machine", "(I)I"⟩
abbrev cX10_foot : ByteArray := prog_1_method_15_code
def yX10_foot : MethodName := ⟨RX10, "foot", "(II)I"⟩
abbrev cX10_point : ByteArray := prog_1_method_16_code
def yX10_point : MethodName := ⟨RX10, "point", "(III)I"⟩
abbrev cX10_isStable : ByteArray := prog_1_method_17_code
def yX10_isStable : MethodName := ⟨RX10, "isStable", "()Z"⟩
abbrev cX10_isStableAnew : ByteArray := prog_1_method_18_code
def yX10_isStableAnew : MethodName := ⟨RX10, "isStableAnew", "()Z"⟩
abbrev cX10_margin : ByteArray := prog_1_method_19_code
def yX10_margin : MethodName := ⟨RX10, "margin", "()I"⟩
abbrev cX10_corner : ByteArray := prog_1_method_20_code
def yX10_corner : MethodName := ⟨RX10, "corner", "(I)I"⟩
abbrev cX10_foothold : ByteArray := prog_1_method_21_code
def yX10_foothold : MethodName := ⟨RX10, "foothold", "(I)I"⟩
abbrev cX10_wouldLift : ByteArray := prog_1_method_22_code
def yX10_wouldLift : MethodName := ⟨RX10, "wouldLift", "(I)I"⟩
abbrev cX10_fewest : ByteArray := prog_1_method_23_code
def yX10_fewest : MethodName := ⟨RX10, "fewest", "(II)I"⟩
abbrev cX10_fewestAnew : ByteArray := prog_1_method_24_code
def yX10_fewestAnew : MethodName := ⟨RX10, "fewestAnew", "(II)I"⟩
abbrev cX10_fall : ByteArray := prog_1_method_25_code
def yX10_fall : MethodName := ⟨RX10, "fall", "(II)I"⟩
abbrev cX10_takeLoad : ByteArray := prog_1_method_26_code
def yX10_takeLoad : MethodName := ⟨RX10, "takeLoad", "(III)Z"⟩
abbrev cX10_getUp : ByteArray := prog_1_method_27_code
def yX10_getUp : MethodName := ⟨RX10, "getUp", "()Z"⟩
abbrev cX10_liftFoot : ByteArray := prog_1_method_28_code
def yX10_liftFoot : MethodName := ⟨RX10, "liftFoot", "(I)Z"⟩
abbrev cX10_placeFoot : ByteArray := prog_1_method_29_code
def yX10_placeFoot : MethodName := ⟨RX10, "placeFoot", "(II)Z"⟩
abbrev cX10_shiftBody : ByteArray := prog_1_method_30_code
def yX10_shiftBody : MethodName := ⟨RX10, "shiftBody", "(II)Z"⟩
abbrev cX10_isPhaseDone : ByteArray := prog_1_method_31_code
def yX10_isPhaseDone : MethodName := ⟨RX10, "isPhaseDone", "(I)Z"⟩
abbrev cX10_mayLift : ByteArray := prog_1_method_32_code
def yX10_mayLift : MethodName := ⟨RX10, "mayLift", "(I)Z"⟩
abbrev cX10_hipsBear : ByteArray := prog_1_method_33_code
def yX10_hipsBear : MethodName := ⟨RX10, "hipsBear", "()Z"⟩
abbrev cX10_setFoot : ByteArray := prog_1_method_34_code
def yX10_setFoot : MethodName := ⟨RX10, "setFoot", "(II)V"⟩
abbrev cX10_settled : ByteArray := prog_1_method_35_code
def yX10_settled : MethodName := ⟨RX10, "settled", "()I"⟩
abbrev cX10_breakGround : ByteArray := prog_1_method_36_code
def yX10_breakGround : MethodName := ⟨RX10, "breakGround", "(I)V"⟩
abbrev cX10_toppleOver : ByteArray := prog_1_method_37_code
def yX10_toppleOver : MethodName := ⟨RX10, "toppleOver", "()V"⟩
abbrev cX10_isLeg : ByteArray := prog_1_method_38_code
def yX10_isLeg : MethodName := ⟨RX10, "isLeg", "(I)Z"⟩
abbrev cX10_isWithin : ByteArray := prog_1_method_39_code
def yX10_isWithin : MethodName := ⟨RX10, "isWithin", "(III)Z"⟩
abbrev cX10_isAside : ByteArray := prog_1_method_40_code
def yX10_isAside : MethodName := ⟨RX10, "isAside", "(I)Z"⟩
abbrev cX10_pointAt : ByteArray := prog_1_method_41_code
def yX10_pointAt : MethodName := ⟨RX10, "pointAt", "(II)I"⟩
abbrev cX10_xOf : ByteArray := prog_1_method_42_code
def yX10_xOf : MethodName := ⟨RX10, "xOf", "(I)I"⟩
abbrev cX10_yOf : ByteArray := prog_1_method_43_code
def yX10_yOf : MethodName := ⟨RX10, "yOf", "(I)I"⟩
abbrev cX10_roundedUp : ByteArray := prog_1_method_44_code
def yX10_roundedUp : MethodName := ⟨RX10, "roundedUp", "(II)I"⟩
abbrev cX10_bitsOf : ByteArray := prog_1_method_45_code
def yX10_bitsOf : MethodName := ⟨RX10, "bitsOf", "(F)I"⟩
abbrev cX10_isReachedBy : ByteArray := prog_1_method_46_code
def yX10_isReachedBy : MethodName := ⟨RX10, "isReachedBy", "(LGaitwright$Planner;II)Z"⟩
abbrev cX10_shortestRow : ByteArray := prog_1_method_47_code
def yX10_shortestRow : MethodName := ⟨RX10, "shortestRow", "(LGaitwright$Planner;I)I"⟩
def RX11 : String := "GaitwrightModel"
def TX11 : u_T := fun k => match k with
  | _ => ("", "", "", false)
def tyX11 : Nat → FieldType := fun k => match k with
  | _ => .int
abbrev wsX110 : List Cond := u_ws RX11 TX11 0
theorem nmX11 : ∀ a, a < 0 → ∀ b, b < 0 → a ≠ b → (TX11 a).2.1 ≠ (TX11 b).2.1 := by decide +kernel
theorem tyX11_ok : ∀ k, k < 0 → parseFieldDescriptor (TX11 k).2.2.1 = some (tyX11 k) := by decide +kernel
def RJx145de : String := "java/io/Serializable"
def TJx145de : u_T := fun k => match k with
  | _ => ("", "", "", false)
def tyJx145de : Nat → FieldType := fun k => match k with
  | _ => .int
abbrev wsJx145de0 : List Cond := u_ws RJx145de TJx145de 0
theorem nmJx145de : ∀ a, a < 0 → ∀ b, b < 0 → a ≠ b → (TJx145de a).2.1 ≠ (TJx145de b).2.1 := by decide +kernel
theorem tyJx145de_ok : ∀ k, k < 0 → parseFieldDescriptor (TJx145de k).2.2.1 = some (tyJx145de k) := by decide +kernel
def RJ6 : String := "java/lang/Integer"
def TJ6 : u_T := fun k => match k with
  | _ => ("", "", "", false)
def tyJ6 : Nat → FieldType := fun k => match k with
  | _ => .int
abbrev wsJ60 : List Cond := u_ws RJ6 TJ6 0
theorem nmJ6 : ∀ a, a < 0 → ∀ b, b < 0 → a ≠ b → (TJ6 a).2.1 ≠ (TJ6 b).2.1 := by decide +kernel
theorem tyJ6_ok : ∀ k, k < 0 → parseFieldDescriptor (TJ6 k).2.2.1 = some (tyJ6 k) := by decide +kernel
abbrev cJ6_signum_0f7a4 : ByteArray := prog_18_method_56_code
def yJ6_signum_0f7a4 : MethodName := ⟨RJ6, "signum", "(I)I"⟩
def RJ9 : String := "java/lang/Math"
def TJ9 : u_T := fun k => match k with
  | _ => ("", "", "", false)
def tyJ9 : Nat → FieldType := fun k => match k with
  | _ => .int
abbrev wsJ90 : List Cond := u_ws RJ9 TJ9 0
theorem nmJ9 : ∀ a, a < 0 → ∀ b, b < 0 → a ≠ b → (TJ9 a).2.1 ≠ (TJ9 b).2.1 := by decide +kernel
theorem tyJ9_ok : ∀ k, k < 0 → parseFieldDescriptor (TJ9 k).2.2.1 = some (tyJ9 k) := by decide +kernel
abbrev cJ9_abs_0f7a4 : ByteArray := prog_19_method_59_code
def yJ9_abs_0f7a4 : MethodName := ⟨RJ9, "abs", "(I)I"⟩
abbrev cJ9_max_7cf53 : ByteArray := prog_19_method_65_code
def yJ9_max_7cf53 : MethodName := ⟨RJ9, "max", "(II)I"⟩
abbrev cJ9_min_7cf53 : ByteArray := prog_19_method_69_code
def yJ9_min_7cf53 : MethodName := ⟨RJ9, "min", "(II)I"⟩
def RJ0 : String := "java/lang/String"
def TJ0 : u_T := fun k => match k with
  | _ => ("", "", "", false)
def tyJ0 : Nat → FieldType := fun k => match k with
  | _ => .int
abbrev wsJ00 : List Cond := u_ws RJ0 TJ0 0
theorem nmJ0 : ∀ a, a < 0 → ∀ b, b < 0 → a ≠ b → (TJ0 a).2.1 ≠ (TJ0 b).2.1 := by decide +kernel
theorem tyJ0_ok : ∀ k, k < 0 → parseFieldDescriptor (TJ0 k).2.2.1 = some (tyJ0 k) := by decide +kernel
def RJ7 : String := "java/util/Arrays"
def TJ7 : u_T := fun k => match k with
  | _ => ("", "", "", false)
def tyJ7 : Nat → FieldType := fun k => match k with
  | _ => .int
abbrev wsJ70 : List Cond := u_ws RJ7 TJ7 0
theorem nmJ7 : ∀ a, a < 0 → ∀ b, b < 0 → a ≠ b → (TJ7 a).2.1 ≠ (TJ7 b).2.1 := by decide +kernel
theorem tyJ7_ok : ∀ k, k < 0 → parseFieldDescriptor (TJ7 k).2.2.1 = some (tyJ7 k) := by decide +kernel
abbrev cJ7_fill_53178 : ByteArray := prog_23_method_103_code
def yJ7_fill_53178 : MethodName := ⟨RJ7, "fill", "([II)V"⟩
def RL : String := "GaitwrightLaw"
abbrev cL_part : ByteArray := method_2_code
def yL_part : MethodName := ⟨RL, "part", "([III)I"⟩
abbrev cL_does : ByteArray := method_3_code
def yL_does : MethodName := ⟨RL, "does", "(LGaitwright;IIIIII)I"⟩
abbrev cL_four : ByteArray := method_4_code
def yL_four : MethodName := ⟨RL, "four", "([JI)I"⟩
abbrev cL_sets : ByteArray := method_5_code
def yL_sets : MethodName := ⟨RL, "sets", "([JII)V"⟩
abbrev cL_firm : ByteArray := method_6_code
def yL_firm : MethodName := ⟨RL, "firm", "([JI)I"⟩
abbrev cL_hipX : ByteArray := method_7_code
def yL_hipX : MethodName := ⟨RL, "hipX", "([I[II)I"⟩
abbrev cL_hipY : ByteArray := method_8_code
def yL_hipY : MethodName := ⟨RL, "hipY", "([I[II)I"⟩
abbrev cL_isIn : ByteArray := method_9_code
def yL_isIn : MethodName := ⟨RL, "isIn", "(II)Z"⟩
abbrev cL_isNear : ByteArray := method_10_code
def yL_isNear : MethodName := ⟨RL, "isNear", "([I[IIII)Z"⟩
abbrev cL_far : ByteArray := method_11_code
def yL_far : MethodName := ⟨RL, "far", "([I[IIII)I"⟩
abbrev cL_isTaken : ByteArray := method_12_code
def yL_isTaken : MethodName := ⟨RL, "isTaken", "([I[IIII)Z"⟩
abbrev cL_holds : ByteArray := method_13_code
def yL_holds : MethodName := ⟨RL, "holds", "([I[I[II)Z"⟩
abbrev cL_many : ByteArray := method_14_code
def yL_many : MethodName := ⟨RL, "many", "(I)I"⟩
abbrev cL_pressure : ByteArray := method_15_code
def yL_pressure : MethodName := ⟨RL, "pressure", "([II)I"⟩
abbrev cL_level : ByteArray := method_16_code
def yL_level : MethodName := ⟨RL, "level", "([J[I[II)I"⟩
abbrev cL_breaks : ByteArray := method_17_code
def yL_breaks : MethodName := ⟨RL, "breaks", "([III)V"⟩
abbrev cL_sinking : ByteArray := method_18_code
def yL_sinking : MethodName := ⟨RL, "sinking", "([J[I[I[II)I"⟩
abbrev cL_settles : ByteArray := method_19_code
def yL_settles : MethodName := ⟨RL, "settles", "([J[J[I[I[I[I)V"⟩
abbrev cL_comes : ByteArray := method_20_code
def yL_comes : MethodName := ⟨RL, "comes", "([J[J[I[I[I[IIII)V"⟩
abbrev cL_lifts : ByteArray := method_21_code
def yL_lifts : MethodName := ⟨RL, "lifts", "([J[J[I[I[I[II)Z"⟩
abbrev cL_places : ByteArray := method_22_code
def yL_places : MethodName := ⟨RL, "places", "([J[J[J[I[I[I[I[IIII)Z"⟩
abbrev cL_canShift : ByteArray := method_23_code
def yL_canShift : MethodName := ⟨RL, "canShift", "([I[I[I[III)Z"⟩
abbrev cL_shifts : ByteArray := method_24_code
def yL_shifts : MethodName := ⟨RL, "shifts", "([J[J[I[I[I[I[III)Z"⟩
abbrev cL_nearest : ByteArray := method_25_code
def yL_nearest : MethodName := ⟨RL, "nearest", "(J)J"⟩
abbrev cL_bits : ByteArray := method_26_code
def yL_bits : MethodName := ⟨RL, "bits", "(JJ)I"⟩
abbrev cL_isEdge : ByteArray := method_27_code
def yL_isEdge : MethodName := ⟨RL, "isEdge", "([I[IIII)Z"⟩
abbrev cL_isSo : ByteArray := method_28_code
def yL_isSo : MethodName := ⟨RL, "isSo", "(LGaitwright;[J[J[J[I[I[I[I[III)Z"⟩
abbrev cL_isTold : ByteArray := method_29_code
def yL_isTold : MethodName := ⟨RL, "isTold", "(LGaitwright;[J[J[J[I[I[I[I[IIII)Z"⟩
abbrev cL_isDone : ByteArray := method_30_code
def yL_isDone : MethodName := ⟨RL, "isDone", "(LGaitwright;[J[J[J[I[I[I[I[I[IIII)Z"⟩
abbrev cL_law : ByteArray := code
def yL_law : MethodName := ⟨RL, "law", "([I)Z"⟩
abbrev vwCl : List vw_C := [(RX0, TX0, 4), (RX1, TX1, 4), (RX2, TX2, 7), (RX3, TX3, 7), (RX4, TX4, 3), (RX5, TX5, 4), (RX6, TX6, 3), (RX7, TX7, 3), (RX8, TX8, 1), (RX9, TX9, 6), (RX10, TX10, 11)]
